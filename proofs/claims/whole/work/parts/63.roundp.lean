/-! PURE, 38: a boy's round: numbers -/
def lsF (f : Nat → Nat) : Nat → Nat
  | 0 => 0
  | j + 1 => if f (21 + j) = 0 then lsF f j else if lsF f j = 0 then f (21 + j) else if lsF f j ≤ f (21 + j) then lsF f j else f (21 + j)
theorem lsF_le {f : Nat → Nat} (hb : SB f) : ∀ j, j ≤ f 0 → lsF f j ≤ 99 := by
  intro j
  induction j with
  | zero => intro _; exact Nat.zero_le _
  | succ j ih =>
    intro hj
    have := (hb.2.2.2.2 j hj).2.2
    have := ih (by omega)
    rw [lsF]
    repeat' split
    all_goals omega
theorem xlsF_4 {σ : Mem} {b : Nat} {f : Nat → Nat} (hR : RS σ b f) (hb : SB f) : ∀ m j, j ≤ f 0 → f 0 - j < m → f_X3_leastSpin_4 b m (nI (lsF f j)) (nI j) σ = some (nI (lsF f (f 0)), σ) := by
  intro m
  induction m with
  | zero => intro j _ h; omega
  | succ m ih =>
    intro j h1 h2
    have h8 := hb.1
    by_cases c : f 0 ≤ j
    · have e : j = f 0 := by omega
      subst e
      rw [f_X3_leastSpin_4, hR.1.1, if_pos ((n_le (by omega) (by omega)).mpr c)]
    · have s1 := (hR.2 j (by omega)).2.2
      have b9 := (hb.2.2.2.2 j (by omega)).2.2
      have l9 := lsF_le hb j h1
      have w := ih (j + 1) (by omega) (by omega)
      rw [lsF] at w
      by_cases c1 : f (21 + j) = 0
      · rw [if_pos c1] at w
        rw [← w]
        simp (disch := omega) only [f_X3_leastSpin_4, hR.1.1, n_le, c, ↓reduceIte, n_ix, ing_ok, s1, l_0, l_1, c1, Nat.le_refl, lt_eq, n_add]
      · have c1' : ¬ f (21 + j) ≤ 0 := by omega
        rw [if_neg c1] at w
        rw [← w]
        by_cases c2 : lsF f j = 0
        · rw [if_pos c2]
          simp (disch := omega) only [f_X3_leastSpin_4, hR.1.1, n_le, n_eq, c, ↓reduceIte, n_ix, ing_ok, s1, l_0, l_1, c1', c2, lt_eq, n_add]
        · rw [if_neg c2]
          by_cases c3 : lsF f j ≤ f (21 + j)
          · rw [if_pos c3]
            simp (disch := omega) only [f_X3_leastSpin_4, hR.1.1, n_le, n_eq, c, ↓reduceIte, n_ix, ing_ok, s1, l_0, l_1, c1', c2, c3, lt_eq, n_add]
          · rw [if_neg c3]
            simp (disch := omega) only [f_X3_leastSpin_4, hR.1.1, n_le, n_eq, c, ↓reduceIte, n_ix, ing_ok, s1, l_0, l_1, c1', c2, c3, lt_eq, n_add]
theorem xlsF {σ : Mem} {b : Nat} {f : Nat → Nat} (hR : RS σ b f) (hb : SB f) : f_X3_leastSpin b σ = some (nI (lsF f (f 0)), σ) := by
  unfold f_X3_leastSpin
  rw [lt_eq, lt_eq]
  exact xlsF_4 hR hb FU 0 (Nat.zero_le _) (by rw [FU_eq]; have := hb.1; omega)
theorem mlsF_4 {σ : Mem} {f : Nat → Nat} (hR : RA σ 187 f) (hb : SB f) : ∀ m j, j ≤ f 0 → f 0 - j < m → f_X8_leastSpin_4 m (nI (lsF f j)) (nI j) σ = some (nI (lsF f (f 0)), σ) := by
  intro m
  induction m with
  | zero => intro j _ h; omega
  | succ m ih =>
    intro j h1 h2
    have h8 := hb.1
    by_cases c : f 0 ≤ j
    · have e : j = f 0 := by omega
      subst e
      rw [f_X8_leastSpin_4, l_0, ing_ok (by omega) (by omega), n_ix (by omega), hR.1.1, if_pos ((n_le (by omega) (by omega)).mpr c)]
    · have s1 := (hR.2 j (by omega)).2.2
      have st := mstands hR hb (j := j) (by omega)
      have b9 := (hb.2.2.2.2 j (by omega)).2.2
      have l9 := lsF_le hb j h1
      have w := ih (j + 1) (by omega) (by omega)
      rw [lsF] at w
      by_cases c1 : f (21 + j) = 0
      · rw [if_pos c1] at w
        rw [if_neg (by omega)] at st
        rw [← w]
        simp (disch := omega) only [f_X8_leastSpin_4, hR.1.1, n_le, c, ↓reduceIte, n_ix, ing_ok, st, bd2_some, l_0, l_1, lt_eq, n_add]
      · rw [if_neg c1] at w
        rw [if_pos (by omega)] at st
        rw [← w]
        by_cases c2 : lsF f j = 0
        · rw [if_pos c2]
          simp (disch := omega) only [f_X8_leastSpin_4, hR.1.1, n_le, n_eq, Nat.reduceEqDiff, c, ↓reduceIte, n_ix, ing_ok, st, bd2_some, s1, l_0, l_1, l_21, c2, lt_eq, n_add]
        · rw [if_neg c2]
          by_cases c3 : lsF f j ≤ f (21 + j)
          · rw [if_pos c3]
            simp (disch := omega) only [f_X8_leastSpin_4, hR.1.1, n_le, n_eq, Nat.reduceEqDiff, c, ↓reduceIte, n_ix, ing_ok, st, bd2_some, s1, l_0, l_1, l_21, c2, c3, lt_eq, n_add]
          · rw [if_neg c3]
            simp (disch := omega) only [f_X8_leastSpin_4, hR.1.1, n_le, n_eq, Nat.reduceEqDiff, c, ↓reduceIte, n_ix, ing_ok, st, bd2_some, s1, l_0, l_1, l_21, c2, c3, lt_eq, n_add]
theorem mlsF {σ : Mem} {f : Nat → Nat} (hR : RA σ 187 f) (hb : SB f) : f_X8_leastSpin σ = some (nI (lsF f (f 0)), σ) := by
  unfold f_X8_leastSpin
  rw [lt_eq, lt_eq]
  exact mlsF_4 hR hb FU 0 (Nat.zero_le _) (by rw [FU_eq]; have := hb.1; omega)
/-- the best round so far: its number, how many stand, the least spin -/
def updQ (q : Option (Nat × Nat × Nat)) (x : Nat) (f : Nat → Nat) : Option (Nat × Nat × Nat) := match q with
  | none => some (x, popc (standG f), lsF f (f 0))
  | some (y, v, l) => if v < popc (standG f) ∨ popc (standG f) = v ∧ l < lsF f (f 0) then some (x, popc (standG f), lsF f (f 0)) else some (y, v, l)
/-- a move that stays in the row; what comes of it -/
def vaD (f : Nat → Nat) (p d : Nat) : Prop := 1 ≤ p + d ∧ p + d - 1 < f 0
def nfD (f : Nat → Nat) (p d : Nat) : Nat → Nat := hourG (rsG f (p + d - 1))
theorem nfD_0 {f : Nat → Nat} {p d : Nat} : nfD f p d 0 = f 0 := by
  unfold nfD
  rw [hour_low (by omega) (by omega), rsG_low (by omega)]
theorem nfD_SB {f : Nat → Nat} {p d : Nat} (hb : SB f) : SB (nfD f p d) := hour_SB (rsG_SB hb)
noncomputable def DWs (R : (Nat → Nat) → Nat → Nat → Option (Nat × Nat × Nat) → Option (Nat × Nat × Nat)) (f : Nat → Nat) (p x : Nat) : Nat → Option (Nat × Nat × Nat) → Option (Nat × Nat × Nat)
  | 0, q => q
  | d + 1, q => have := Classical.propDecidable (vaD f p d); if vaD f p d then R (nfD f p d) (p + d - 1) (3 * x + d) (DWs R f p x d q) else DWs R f p x d q
noncomputable def DW : Nat → (Nat → Nat) → Nat → Nat → Option (Nat × Nat × Nat) → Option (Nat × Nat × Nat)
  | 0, f, _, x, q => updQ q x f
  | r + 1, f, p, x, q => DWs (DW r) f p x 3 q
theorem DWs_y {R : (Nat → Nat) → Nat → Nat → Option (Nat × Nat × Nat) → Option (Nat × Nat × Nat)} {f : Nat → Nat} {p x d : Nat} {q : Option (Nat × Nat × Nat)} (h : vaD f p d) : DWs R f p x (d + 1) q = R (nfD f p d) (p + d - 1) (3 * x + d) (DWs R f p x d q) := by
  rw [DWs]; exact if_pos h
theorem DWs_n {R : (Nat → Nat) → Nat → Nat → Option (Nat × Nat × Nat) → Option (Nat × Nat × Nat)} {f : Nat → Nat} {p x d : Nat} {q : Option (Nat × Nat × Nat)} (h : ¬ vaD f p d) : DWs R f p x (d + 1) q = DWs R f p x d q := by
  rw [DWs]; exact if_neg h
theorem updQ_some (q : Option (Nat × Nat × Nat)) (x : Nat) (f : Nat → Nat) : ∃ w, updQ q x f = some w := by
  unfold updQ
  rcases q with _ | ⟨y, v, l⟩
  · exact ⟨_, rfl⟩
  · dsimp only
    split
    · exact ⟨_, rfl⟩
    · exact ⟨_, rfl⟩
theorem DW_some : ∀ r f p x q, p < f 0 → ∃ w, DW r f p x q = some w := by
  intro r
  induction r with
  | zero => intro f p x q _; exact updQ_some q x f
  | succ r ih =>
    intro f p x q hp
    rw [DW]
    rcases Classical.em (vaD f p 2) with h | h
    · rw [DWs_y h]
      exact ih _ _ _ _ (by rw [nfD_0]; exact h.2)
    · rw [DWs_n h, DWs_y (show vaD f p 1 from ⟨by omega, by omega⟩)]
      exact ih _ _ _ _ (by rw [nfD_0]; omega)
/-- a round told by its number -/
noncomputable def endP : Nat → (Nat → Nat) → Nat → Nat → Option (Nat → Nat)
  | 0, f, _, _ => some f
  | r + 1, f, p, y => have := Classical.propDecidable (vaD f p (y / 3 ^ r)); if vaD f p (y / 3 ^ r) then endP r (nfD f p (y / 3 ^ r)) (p + y / 3 ^ r - 1) (y % 3 ^ r) else none
theorem endP_y {r : Nat} {f : Nat → Nat} {p y : Nat} (h : vaD f p (y / 3 ^ r)) : endP (r + 1) f p y = endP r (nfD f p (y / 3 ^ r)) (p + y / 3 ^ r - 1) (y % 3 ^ r) := by
  rw [endP]; exact if_pos h
theorem endP_n {r : Nat} {f : Nat → Nat} {p y : Nat} (h : ¬ vaD f p (y / 3 ^ r)) : endP (r + 1) f p y = none := by
  rw [endP]; exact if_neg h
def updO (q : Option (Nat × Nat × Nat)) (x : Nat) (o : Option (Nat → Nat)) : Option (Nat × Nat × Nat) := match o with
  | none => q
  | some f => updQ q x f
noncomputable def RB (r : Nat) (f : Nat → Nat) (p x : Nat) (q : Option (Nat × Nat × Nat)) : Nat → Option (Nat × Nat × Nat)
  | 0 => q
  | j + 1 => updO (RB r f p x q j) (x * 3 ^ r + j) (endP r f p j)
theorem RB_cut {r : Nat} {f : Nat → Nat} {p x d : Nat} {q : Option (Nat × Nat × Nat)} : ∀ j, j ≤ 3 ^ r → (vaD f p d → RB (r + 1) f p x q (d * 3 ^ r + j) = RB r (nfD f p d) (p + d - 1) (3 * x + d) (RB (r + 1) f p x q (d * 3 ^ r)) j) ∧ (¬ vaD f p d → RB (r + 1) f p x q (d * 3 ^ r + j) = RB (r + 1) f p x q (d * 3 ^ r)) := by
  intro j
  induction j with
  | zero => intro _; exact ⟨fun _ => rfl, fun _ => rfl⟩
  | succ j ih =>
    intro hj
    have hp : 0 < 3 ^ r := Nat.pow_pos (by decide)
    obtain ⟨i1, i2⟩ := ih (by omega)
    have e1 : (d * 3 ^ r + j) / 3 ^ r = d := by
      rw [Nat.add_comm, Nat.add_mul_div_right _ _ hp, Nat.div_eq_of_lt (by omega), Nat.zero_add]
    have e2 : (d * 3 ^ r + j) % 3 ^ r = j := by
      rw [Nat.add_comm, Nat.add_mul_mod_self_right, Nat.mod_eq_of_lt (by omega)]
    have e3 : x * 3 ^ (r + 1) + (d * 3 ^ r + j) = (3 * x + d) * 3 ^ r + j := by
      rw [Nat.pow_succ, Nat.add_mul, ← Nat.add_assoc, Nat.mul_comm (3 ^ r) 3, ← Nat.mul_assoc, Nat.mul_comm x 3]
    refine ⟨fun h => ?_, fun h => ?_⟩
    · rw [← Nat.add_assoc, RB, RB, i1 h, endP_y (by rw [e1]; exact h), e1, e2, e3]
    · rw [← Nat.add_assoc, RB, i2 h, endP_n (by rw [e1]; exact h)]
      rfl
theorem DW_RB : ∀ r f p x q, DW r f p x q = RB r f p x q (3 ^ r) := by
  intro r
  induction r with
  | zero =>
    intro f p x q
    rw [DW, Nat.pow_zero, RB, RB, endP, Nat.pow_zero, Nat.mul_one, Nat.add_zero]
    rfl
  | succ r ih =>
    intro f p x q
    have key : ∀ d, d ≤ 3 → DWs (DW r) f p x d q = RB (r + 1) f p x q (d * 3 ^ r) := by
      intro d
      induction d with
      | zero => intro _; rw [Nat.zero_mul]; rfl
      | succ d ihd =>
        intro hd
        obtain ⟨k1, k2⟩ := RB_cut (r := r) (f := f) (p := p) (x := x) (d := d) (q := q) (3 ^ r) (Nat.le_refl _)
        have e : (d + 1) * 3 ^ r = d * 3 ^ r + 3 ^ r := by rw [Nat.add_mul, Nat.one_mul]
        rw [e]
        rcases Classical.em (vaD f p d) with h | h
        · rw [DWs_y h, ihd (by omega), ih, k1 h]
        · rw [DWs_n h, ihd (by omega), k2 h]
    rw [DW, key 3 (Nat.le_refl _), Nat.pow_succ, Nat.mul_comm]
theorem dig_old {x d t k : Nat} (hd : d < 3) (hk : k < t) : (3 * x + d) / 3 ^ (t + 1 - 1 - k) % 3 = x / 3 ^ (t - 1 - k) % 3 := by
  rw [show t + 1 - 1 - k = (t - 1 - k) + 1 by omega, Nat.pow_succ, Nat.mul_comm (3 ^ (t - 1 - k)) 3, ← Nat.div_div_eq_div_mul, show (3 * x + d) / 3 = x by omega]
theorem dig_new {x d t : Nat} (hd : d < 3) : (3 * x + d) / 3 ^ (t + 1 - 1 - t) % 3 = d := by
  rw [show t + 1 - 1 - t = 0 by omega, Nat.pow_zero, Nat.div_one]
  omega
theorem dig_last {y m : Nat} : y % 3 ^ (m + 1) / 3 ^ m = y / 3 ^ m % 3 := by
  rw [Nat.pow_succ]
  exact Nat.mod_mul_right_div_self y (3 ^ m) 3
/-- what the class keeps of the best -/
def DQ (σ : Mem) (n : Nat) (q : Option (Nat × Nat × Nat)) : Prop := match q with
  | none => σ 121 3 = -1 ∧ σ 121 4 = -1
  | some (y, v, l) => σ 121 3 = nI v ∧ σ 121 4 = nI l ∧ v ≤ 8 ∧ l ≤ 99 ∧ ∀ k, k < n → σ 124 k = nI (y / 3 ^ (n - 1 - k) % 3)
theorem DQ.fr {σ τ : Mem} {n : Nat} {q : Option (Nat × Nat × Nat)} (h : DQ σ n q) (e1 : τ 121 = σ 121) (e2 : τ 124 = σ 124) : DQ τ n q := by
  unfold DQ
  rw [e1, e2]
  exact h
theorem m1_lt {v : Nat} (h : v < 2147483648) : (-1 : Int32) < nI v := by
  rw [Int32.lt_iff_toInt_lt, n_int h, show (-1 : Int32).toInt = -1 by decide]
  omega
