/-! PURE, 36: two boys by turns: numbers -/
def opT (t : Nat) (b v : Int32) : Int32 := if t % 2 = 0 then imax b v else imin b v
theorem opT_self (t : Nat) (b : Int32) : opT t b b = b := by
  unfold opT imax imin
  repeat' split
  all_goals rfl
theorem lt_trans_i {a b c : Int32} (h1 : ¬ a < b) (h2 : ¬ b < c) : ¬ a < c := by
  rw [Int32.lt_iff_toInt_lt] at h1 h2 ⊢
  omega
theorem lt_asym_i {a b : Int32} (h1 : a < b) : ¬ b < a := by
  rw [Int32.lt_iff_toInt_lt] at h1 ⊢
  omega
theorem opT_keep {t : Nat} {b v b0 : Int32} (h : opT t b b0 = b) : opT t (opT t b v) b0 = opT t b v := by
  unfold opT at h ⊢
  by_cases c : t % 2 = 0
  · rw [if_pos c] at h
    rw [if_pos c, if_pos c]
    unfold imax at h ⊢
    have hb : ¬ b < b0 := by
      intro w
      rw [if_pos w] at h
      subst h
      exact lt_asym_i w w
    by_cases c2 : b < v
    · rw [if_pos c2, if_neg]
      intro w
      rw [Int32.lt_iff_toInt_lt] at w c2 hb
      omega
    · rw [if_neg c2, if_neg hb]
  · rw [if_neg c] at h
    rw [if_neg c, if_neg c]
    unfold imin at h ⊢
    have hb : ¬ b0 < b := by
      intro w
      rw [if_pos w] at h
      subst h
      exact lt_asym_i w w
    by_cases c2 : v < b
    · rw [if_pos c2, if_neg]
      intro w
      rw [Int32.lt_iff_toInt_lt] at w c2 hb
      omega
    · rw [if_neg c2, if_neg hb]
def foldK (t : Nat) (F : Nat → Int32) : Nat → Int32
  | 0 => F 0
  | d + 1 => opT t (foldK t F d) (F (d + 1))
theorem foldK_keep {t : Nat} {F : Nat → Int32} : ∀ d, opT t (foldK t F d) (F 0) = foldK t F d := by
  intro d
  induction d with
  | zero => exact opT_self t _
  | succ d ih => exact opT_keep ih
theorem foldK_stop {t : Nat} {F : Nat → Int32} {d : Nat} : ∀ k, (∀ e, d < e → e ≤ d + k → F e = F 0) → foldK t F (d + k) = foldK t F d := by
  intro k
  induction k with
  | zero => intro _; rfl
  | succ k ih =>
    intro h
    rw [← Nat.add_assoc, foldK, h (d + k + 1) (by omega) (by omega), foldK_keep]
    exact ih fun e h1 h2 => h e h1 (by omega)
theorem foldK_congr {t : Nat} {F G : Nat → Int32} : ∀ d, (∀ e, e ≤ d → F e = G e) → foldK t F d = foldK t G d := by
  intro d
  induction d with
  | zero => intro h; exact h 0 (Nat.le_refl _)
  | succ d ih =>
    intro h
    rw [foldK, foldK, ih fun e he => h e (by omega), h (d + 1) (Nat.le_refl _)]
/-- one lash, of a house that stands -/
def rsG (f : Nat → Nat) (h : Nat) : Nat → Nat := if h < f 0 ∧ 0 < f (21 + h) then raiG f h (f 1) else f
theorem rsG_low {f : Nat → Nat} {h k : Nat} (hk : k < 21) : rsG f h k = f k := by
  unfold rsG raiG
  split
  · exact sp_ne (by omega)
  · rfl
theorem rsG_SB {f : Nat → Nat} {h : Nat} (hb : SB f) : SB (rsG f h) := by
  unfold rsG
  split
  · exact rai_SB hb
  · exact hb
theorem rsG_at {f : Nat → Nat} {h j : Nat} (hj : j ≠ h) : rsG f h (21 + j) = f (21 + j) := by
  unfold rsG raiG
  split
  · exact sp_ne (by omega)
  · rfl
theorem rsG_comm {f : Nat → Nat} {a b : Nat} : rsG (rsG f a) b = rsG (rsG f b) a := by
  by_cases e : a = b
  · rw [e]
  · have e' : b ≠ a := fun h => e h.symm
    have h0 : ∀ x, rsG f x 0 = f 0 := fun x => rsG_low (by omega)
    have h1 : ∀ x, rsG f x 1 = f 1 := fun x => rsG_low (by omega)
    have ea : rsG f b (21 + a) = f (21 + a) := rsG_at e
    have eb : rsG f a (21 + b) = f (21 + b) := rsG_at e'
    by_cases ca : a < f 0 ∧ 0 < f (21 + a)
    · by_cases cb : b < f 0 ∧ 0 < f (21 + b)
      · have ra : rsG f a = raiG f a (f 1) := if_pos ca
        have rb : rsG f b = raiG f b (f 1) := if_pos cb
        have ra2 : rsG (rsG f b) a = raiG (rsG f b) a (f 1) := by
          rw [rsG, if_pos (by rw [h0, ea]; exact ca), h1]
        have rb2 : rsG (rsG f a) b = raiG (rsG f a) b (f 1) := by
          rw [rsG, if_pos (by rw [h0, eb]; exact cb), h1]
        rw [ra2, rb2]
        unfold raiG
        rw [ea, eb, ra, rb]
        unfold raiG sp
        funext k
        by_cases k1 : k = 21 + a
        · have k2 : ¬ k = 21 + b := by omega
          rw [if_neg k2, if_pos k1, if_pos k1]
        · rw [if_neg k1, if_neg k1]
      · have rb : rsG f b = f := if_neg cb
        rw [rb, rsG, if_neg (by rw [h0, eb]; exact cb)]
    · have ra : rsG f a = f := if_neg ca
      rw [ra]
      have : rsG (rsG f b) a = rsG f b := by
        rw [rsG, if_neg (by rw [h0, ea]; exact ca)]
      rw [this]
def apG (f : Nat → Nat) (t d : Nat) : Nat → Nat := if d = 0 then f else rsG f (2 * (d - 1) + t % 2)
theorem apG_comm {f : Nat → Nat} {t d u e : Nat} : apG (apG f t d) u e = apG (apG f u e) t d := by
  unfold apG
  by_cases c1 : d = 0
  · rw [if_pos c1, if_pos c1]
  · by_cases c2 : e = 0
    · rw [if_neg c1, if_pos c2, if_neg c1, if_pos c2]
    · rw [if_neg c1, if_neg c2, if_neg c1, if_neg c2]
      exact rsG_comm
theorem apG_SB {f : Nat → Nat} {t d : Nat} (hb : SB f) : SB (apG f t d) := by
  unfold apG
  split
  · exact hb
  · exact rsG_SB hb
theorem apG_low {f : Nat → Nat} {t d k : Nat} (hk : k < 21) : apG f t d k = f k := by
  unfold apG
  split
  · rfl
  · exact rsG_low hk
def LT : Nat → Nat → (Nat → Nat) → (Nat → Nat)
  | 0, _, f => f
  | k + 1, x, f => LT k (x / 5) (apG f k (x % 5))
theorem LT_comm {t d : Nat} : ∀ k x f, LT k x (apG f t d) = apG (LT k x f) t d := by
  intro k
  induction k with
  | zero => intro x f; rfl
  | succ k ih =>
    intro x f
    rw [LT, LT, apG_comm, ih]
theorem LT_SB : ∀ k x f, SB f → SB (LT k x f) := by
  intro k
  induction k with
  | zero => intro x f h; exact h
  | succ k ih =>
    intro x f h
    rw [LT]
    exact ih _ _ (apG_SB h)
theorem LT_low {i : Nat} (hi : i < 21) : ∀ k x f, LT k x f i = f i := by
  intro k
  induction k with
  | zero => intro x f; rfl
  | succ k ih =>
    intro x f
    rw [LT, ih, apG_low hi]
/-- the spins of even ones, of odd ones -/
def parS (g : Nat → Nat) (q : Nat) : Nat → Nat
  | 0 => 0
  | j + 1 => parS g q j + (if j % 2 = q then g (21 + j) else 0)
theorem parS_le {g : Nat → Nat} {q : Nat} (hb : SB g) : ∀ j, j ≤ g 0 → parS g q j ≤ 99 * j := by
  intro j
  induction j with
  | zero => intro _; exact Nat.le_refl _
  | succ j ih =>
    intro hj
    have := (hb.2.2.2.2 j hj).2.2
    have := ih (by omega)
    rw [parS]
    split <;> omega
def leadI (g : Nat → Nat) : Int32 := nI (parS g 0 (g 0)) - nI (parS g 1 (g 0))
def PG (m : Nat) : Nat → (Nat → Nat) → Nat → Int32
  | 0, f, _ => leadI (itG m f)
  | r + 1, f, t => foldK t (fun d => PG m r (apG f t d) (t + 1)) 4
/-- the table -/
def VK (m n : Nat) (g : Nat → Nat) : Nat → Nat → Int32
  | 0, x => leadI (itG m (LT n x g))
  | r + 1, x => foldK (n - (r + 1)) (fun d => VK m n g r (5 * x + d)) 4
theorem VK_PG {m n : Nat} {g : Nat → Nat} : ∀ r x, r ≤ n → VK m n g r x = PG m r (LT (n - r) x g) (n - r) := by
  intro r
  induction r with
  | zero => intro x _; rfl
  | succ r ih =>
    intro x hr
    rw [VK, PG]
    apply foldK_congr
    intro d hd
    rw [ih _ (by omega), show n - r = n - (r + 1) + 1 by omega, LT, show (5 * x + d) / 5 = x by omega, show (5 * x + d) % 5 = d by omega, LT_comm]
theorem addN3 {a b c : Nat} (ha : a < 100000) (hb : b < 100000) (hc : c < 100000) : nI a - nI b + nI c = nI (a + c) - nI b := by
  apply Int32.toInt_inj.mp
  rw [Jvm.Kit.i32_add (by rw [pk_sub_toInt (by omega) (by omega), n_int (by omega)]; omega) (by rw [pk_sub_toInt (by omega) (by omega), n_int (by omega)]; omega), pk_sub_toInt (by omega) (by omega), pk_sub_toInt (by omega) (by omega), n_int (by omega)]
  omega
theorem subN3 {a b c : Nat} (ha : a < 100000) (hb : b < 100000) (hc : c < 100000) : nI a - nI b + -(nI c) = nI a - nI (b + c) := by
  apply Int32.toInt_inj.mp
  have e : (-(nI c)).toInt = -(c : Int) := by
    rw [Jvm.Kit.i32_neg (by rw [n_int (by omega)]; omega), n_int (by omega)]
  rw [Jvm.Kit.i32_add (by rw [pk_sub_toInt (by omega) (by omega), e]; omega) (by rw [pk_sub_toInt (by omega) (by omega), e]; omega), pk_sub_toInt (by omega) (by omega), pk_sub_toInt (by omega) (by omega), e]
  omega
