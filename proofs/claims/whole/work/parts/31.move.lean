/-! PURE, 7: ranges; streets copied -/
theorem xwithin {p lo hi : Int32} {σ : Mem} : f_X7_within p lo hi σ = some (if lo.toInt ≤ p.toInt ∧ p.toInt ≤ hi.toInt then nI 1 else nI 0, σ) := by
  unfold f_X7_within
  by_cases c1 : p < lo
  · have d1 := Int32.lt_iff_toInt_lt.mp c1
    rw [if_pos c1, if_neg (by omega)]
    rfl
  · have d1 : ¬ p.toInt < lo.toInt := fun h => c1 (Int32.lt_iff_toInt_lt.mpr h)
    rw [if_neg c1]
    by_cases c2 : hi < p
    · have d2 := Int32.lt_iff_toInt_lt.mp c2
      rw [if_pos c2, if_neg (by omega)]
      rfl
    · have d2 : ¬ hi.toInt < p.toInt := fun h => c2 (Int32.lt_iff_toInt_lt.mpr h)
      rw [if_neg c2, if_pos (by omega)]
      rfl
theorem lg_lt {x y : Int64} : lg_cmp x y < 0 ↔ x.toInt < y.toInt := by
  rw [← Int64.lt_iff_toInt_lt]
  unfold lg_cmp
  by_cases c : x > y
  · rw [if_pos c]
    have c' : y < x := c
    rw [Int64.lt_iff_toInt_lt] at c'
    rw [Int64.lt_iff_toInt_lt]
    constructor
    · intro h; exact absurd h (by decide)
    · intro h; omega
  · rw [if_neg c]
    by_cases e : x = y
    · rw [if_pos e]
      subst e
      constructor
      · intro h; exact absurd h (by decide)
      · intro h; rw [Int64.lt_iff_toInt_lt] at h; omega
    · rw [if_neg e]
      constructor
      · intro _
        rw [Int64.lt_iff_toInt_lt]
        have c' : ¬ y < x := c
        rw [Int64.lt_iff_toInt_lt] at c'
        have e' : x.toInt ≠ y.toInt := fun h => e (Int64.toInt_inj.mp h)
        omega
      · intro _; decide
theorem lg_gt {x y : Int64} : 0 < lg_cmp x y ↔ y.toInt < x.toInt := by
  rw [← Int64.lt_iff_toInt_lt]
  unfold lg_cmp
  by_cases c : x > y
  · rw [if_pos c]
    exact ⟨fun _ => c, fun _ => by decide⟩
  · rw [if_neg c]
    have c' : ¬ y < x := c
    by_cases e : x = y
    · rw [if_pos e]
      exact ⟨fun h => absurd h (by decide), fun h => absurd h c'⟩
    · rw [if_neg e]
      exact ⟨fun h => absurd h (by decide), fun h => absurd h c'⟩
theorem min_ {p lo hi : Int64} {σ : Mem} : f_X8_in p lo hi σ = some (if lo.toInt ≤ p.toInt ∧ p.toInt ≤ hi.toInt then nI 1 else nI 0, σ) := by
  unfold f_X8_in
  by_cases c1 : lg_cmp p lo < 0
  · have d1 := lg_lt.mp c1
    rw [if_pos c1, if_neg (by omega)]
    rfl
  · have d1 : ¬ p.toInt < lo.toInt := fun h => c1 (lg_lt.mpr h)
    rw [if_neg c1]
    by_cases c2 : 0 < lg_cmp p hi
    · have d2 := lg_gt.mp c2
      rw [if_pos c2, if_neg (by omega)]
      rfl
    · have d2 : ¬ hi.toInt < p.toInt := fun h => c2 (lg_gt.mpr h)
      rw [if_neg c2, if_pos (by omega)]
      rfl
theorem w_int {p : Int32} : p.toInt64.toInt = p.toInt := Int32.toInt_toInt64 p
/-- a number between two numbers, or none -/
def rng (p : Int32) (a b : Nat) : Prop := ∃ j, p = nI j ∧ a ≤ j ∧ j ≤ b
theorem rng_int {p : Int32} {a b : Nat} (hb : b < 2147483648) : rng p a b ↔ (a : Int) ≤ p.toInt ∧ p.toInt ≤ (b : Int) := by
  constructor
  · rintro ⟨j, rfl, h1, h2⟩
    rw [n_int (by omega)]
    omega
  · rintro ⟨h1, h2⟩
    refine ⟨p.toInt.toNat, ?_, by omega, by omega⟩
    apply Int32.toInt_inj.mp
    rw [n_int (by omega)]
    omega
theorem xin_rng {p : Int32} {a b : Nat} {σ : Mem} (ha : a < 2147483648) (hb : b < 2147483648) [Decidable (rng p a b)] : f_X7_within p (nI a) (nI b) σ = some (if rng p a b then nI 1 else nI 0, σ) := by
  rw [xwithin, n_int ha, n_int hb]
  by_cases c : rng p a b
  · rw [if_pos c, if_pos ((rng_int hb).mp c)]
  · rw [if_neg c, if_neg (fun h => c ((rng_int hb).mpr h))]
theorem min_rng {p : Int32} {lo hi : Int64} {a b : Nat} {σ : Mem} (hl : lo.toInt = a) (hh : hi.toInt = b) (hb : b < 2147483648) [Decidable (rng p a b)] : f_X8_in p.toInt64 lo hi σ = some (if rng p a b then nI 1 else nI 0, σ) := by
  rw [min_, hl, hh, w_int]
  by_cases c : rng p a b
  · rw [if_pos c, if_pos ((rng_int hb).mp c)]
  · rw [if_neg c, if_neg (fun h => c ((rng_int hb).mpr h))]
/-- a house of the street, or none -/
def hous (p : Int32) (n : Nat) : Prop := ∃ j, p = nI j ∧ j < n
theorem hous_int {p : Int32} {n : Nat} (hn : n ≤ 8) : hous p n ↔ 0 ≤ p.toInt ∧ p.toInt ≤ (n : Int) - 1 := by
  constructor
  · rintro ⟨j, rfl, h1⟩
    rw [n_int (by omega)]
    omega
  · rintro ⟨h1, h2⟩
    refine ⟨p.toInt.toNat, ?_, by omega⟩
    apply Int32.toInt_inj.mp
    rw [n_int (by omega)]
    omega
theorem pred_int {n : Nat} (hn : n ≤ 8) : (nI n - 1).toInt = (n : Int) - 1 := by
  have key : ∀ n, n < 9 → (nI n - 1).toInt = (n : Int) - 1 := by decide +kernel
  exact key n (by omega)
theorem xisHouse {p : Int32} {σ : Mem} {g : Nat → Nat} (h : σ 8 3 = nI (g 0)) (hb : SB g) [Decidable (hous p (g 0))] : f_X7_isHouse p σ = some (if hous p (g 0) then nI 1 else nI 0, σ) := by
  have h8 := hb.1
  unfold f_X7_isHouse
  rw [h, xwithin, pred_int h8, bd2_some, show (0 : Int32).toInt = 0 from rfl]
  by_cases c : hous p (g 0)
  · rw [if_pos c, if_pos ((hous_int h8).mp c), gd_ok (Or.inr l_1.symm)]
  · rw [if_neg c, if_neg (fun q => c ((hous_int h8).mpr q)), gd_ok (Or.inl l_0.symm)]
theorem misHouse {p : Int32} {σ : Mem} {g : Nat → Nat} (h : σ 187 0 = nI (g 0)) (hb : SB g) [Decidable (hous p (g 0))] : f_X8_isHouse p σ = some (if hous p (g 0) then nI 1 else nI 0, σ) := by
  have h8 := hb.1
  unfold f_X8_isHouse
  rw [show ∀ k : Option (Int32 × Mem), ing (0 : Int32) 29 k = k from fun k => ing_ok (j := 0) (by decide) (by decide), show (0 : Int32).toNatClampNeg = 0 from rfl, h, min_, w_int, w_int, pred_int h8, bd2_some, show (0 : Int64).toInt = 0 from rfl]
  by_cases c : hous p (g 0)
  · rw [if_pos c, if_pos ((hous_int h8).mp c), gd_ok (Or.inr l_1.symm)]
  · rw [if_neg c, if_neg (fun q => c ((hous_int h8).mpr q)), gd_ok (Or.inl l_0.symm)]
theorem xisRow {p : Int32} {σ : Mem} [Decidable (rng p 0 7)] : f_X7_isRow p σ = some (if rng p 0 7 then nI 1 else nI 0, σ) := by
  unfold f_X7_isRow
  rw [l_0, l_7, xin_rng (a := 0) (b := 7) (by decide) (by decide), bd2_some]
  by_cases c : rng p 0 7
  · rw [if_pos c, gd_ok (Or.inr l_1.symm)]
  · rw [if_neg c, gd_ok (Or.inl rfl)]
theorem misRow {p : Int32} {σ : Mem} [Decidable (rng p 0 7)] : f_X8_isRow p σ = some (if rng p 0 7 then nI 1 else nI 0, σ) := by
  unfold f_X8_isRow
  rw [min_rng (a := 0) (b := 7) rfl rfl (by decide), bd2_some]
  by_cases c : rng p 0 7
  · rw [if_pos c, gd_ok (Or.inr l_1.symm)]
  · rw [if_neg c, gd_ok (Or.inl l_0.symm)]
/-- a street copied -/
theorem cp2_at {σ : Mem} {a b n k : Nat} (hk : k < n) : cp2 σ a b 0 0 n b k = σ a k := by
  unfold cp2 va_cpy
  rw [if_pos rfl, if_pos ⟨by omega, by omega⟩, Nat.zero_add, Nat.sub_zero]
theorem cpg_8 {α : Type} {σ : Mem} {a b : Nat} {K : Mem → Option α} : cpg σ a b 0 0 8 8 8 K = K (cp2 σ a b 0 0 8) := by
  unfold cpg
  rw [if_pos (by decide)]
  rfl
def tk (σ : Mem) (b c k : Nat) : Mem := st2 σ b k (σ c k)
def takM (σ : Mem) (b c : Nat) : Mem := tk (tk (tk (tk (tk (cp2 (cp2 (cp2 σ (c + 1) (b + 1) 0 0 8) (c + 2) (b + 2) 0 0 8) (c + 3) (b + 3) 0 0 8) b c 3) b c 4) b c 5) b c 6) b c 7
theorem xtake {σ : Mem} {b c : Nat} {g : Nat → Nat} (h : RS σ c g) (h8 : g 0 ≤ 8) (hd : b + 3 < c ∨ c + 3 < b) : ∃ τ, f_X5_take b c σ = some τ ∧ RS τ b g ∧ Fr (fun a => b ≤ a ∧ a ≤ b + 3) σ τ := by
  have o : ∀ a d k, d ≠ a → ∀ σ : Mem, ∀ s, cp2 σ s a 0 0 8 d k = σ d k := fun a d k hh σ s => by rw [cp2_other d hh]
  refine ⟨takM σ b c, ?_, ?_, ?_⟩
  · unfold f_X5_take
    rw [cpg_8, cpg_8, cpg_8]
    rfl
  · obtain ⟨⟨h0, h1, h2, h3, h4⟩, h5⟩ := h
    refine ⟨⟨?_, ?_, ?_, ?_, ?_⟩, fun k hk => ?_⟩
    · simp (disch := omega) only [takM, tk, st2_at, st2_k, st2_a, o, h0]
    · simp (disch := omega) only [takM, tk, st2_at, st2_k, st2_a, o, h1]
    · simp (disch := omega) only [takM, tk, st2_at, st2_k, st2_a, o, h2]
    · simp (disch := omega) only [takM, tk, st2_at, st2_k, st2_a, o, h3]
    · simp (disch := omega) only [takM, tk, st2_at, st2_k, st2_a, o, h4]
    · obtain ⟨q1, q2, q3⟩ := h5 k hk
      have hk8 : k < 8 := by omega
      simp (disch := omega) only [takM, tk, st2_a, cp2_at, o]
      exact ⟨q1, q2, q3⟩
  · intro a ha
    have ha' : a < b ∨ b + 3 < a := by omega
    funext k
    simp (disch := omega) only [takM, tk, st2_a, o]
/-- the reference's row put aside and taken back -/
theorem maside_2 : ∀ n j σ, j ≤ 29 → 29 - j < n → ∃ τ, f_X8_putAside_2 n (nI j) σ = some τ ∧ (∀ k, j ≤ k → k < 29 → τ 192 k = σ 187 k) ∧ (∀ k, k < j → τ 192 k = σ 192 k) ∧ Fr (fun a => a = 192) σ τ := by
  intro n
  induction n with
  | zero => intro j σ h1 h2; omega
  | succ n ih =>
    intro j σ h1 h2
    by_cases c : j = 29
    · subst c
      refine ⟨σ, ?_, fun k h3 h4 => by omega, fun k _ => rfl, Fr.rf⟩
      simp (disch := omega) only [f_X8_putAside_2, l_29, n_le, Nat.le_refl, ↓reduceIte]
    · have c2 : ¬ 29 ≤ j := by omega
      obtain ⟨τ, t1, t2, t3, t4⟩ := ih (j + 1) (st2 σ 192 j (σ 187 j)) (by omega) (by omega)
      refine ⟨τ, ?_, fun k h3 h4 => ?_, fun k h3 => ?_, (Fr.st (S := fun a => a = 192) rfl).tr t4⟩
      · rw [← t1]
        simp (disch := omega) only [f_X8_putAside_2, l_29, l_1, n_le, c2, ↓reduceIte, n_ix, ing_ok, lt_eq, n_add]
      · by_cases e : k = j
        · subst e
          rw [t3 k (by omega), st2_at]
        · rw [t2 k (by omega) h4, st2_a (by decide)]
      · rw [t3 k (by omega), st2_k (by omega)]
theorem maside {σ : Mem} {g : Nat → Nat} (h : RA σ 187 g) (h8 : g 0 ≤ 8) : ∃ τ, f_X8_putAside σ = some τ ∧ RA τ 192 g ∧ Fr (fun a => a = 192) σ τ := by
  obtain ⟨τ, t1, t2, -, t4⟩ := maside_2 FU 0 σ (by decide) (by rw [FU_eq]; decide)
  refine ⟨τ, (by unfold f_X8_putAside; rw [lt_eq, l_0]; exact t1), ?_, t4⟩
  obtain ⟨⟨h0, h1, h2, h3, h4⟩, h5⟩ := h
  refine ⟨⟨?_, ?_, ?_, ?_, ?_⟩, fun k hk => ⟨?_, ?_, ?_⟩⟩
  all_goals rw [t2 _ (by omega) (by omega)]
  · exact h0
  · exact h1
  · exact h2
  · exact h3
  · exact h4
  · exact (h5 k hk).1
  · exact (h5 k hk).2.1
  · exact (h5 k hk).2.2
theorem mback_2 : ∀ n j σ, j ≤ 29 → 29 - j < n → ∃ τ, f_X8_takeBack_2 n (nI j) σ = some τ ∧ (∀ k, j ≤ k → k < 29 → τ 187 k = σ 192 k) ∧ (∀ k, k < j → τ 187 k = σ 187 k) ∧ Fr (fun a => a = 187) σ τ := by
  intro n
  induction n with
  | zero => intro j σ h1 h2; omega
  | succ n ih =>
    intro j σ h1 h2
    by_cases c : j = 29
    · subst c
      refine ⟨σ, ?_, fun k h3 h4 => by omega, fun k _ => rfl, Fr.rf⟩
      simp (disch := omega) only [f_X8_takeBack_2, l_29, n_le, Nat.le_refl, ↓reduceIte]
    · have c2 : ¬ 29 ≤ j := by omega
      obtain ⟨τ, t1, t2, t3, t4⟩ := ih (j + 1) (st2 σ 187 j (σ 192 j)) (by omega) (by omega)
      refine ⟨τ, ?_, fun k h3 h4 => ?_, fun k h3 => ?_, (Fr.st (S := fun a => a = 187) rfl).tr t4⟩
      · rw [← t1]
        simp (disch := omega) only [f_X8_takeBack_2, l_29, l_1, n_le, c2, ↓reduceIte, n_ix, ing_ok, lt_eq, n_add]
      · by_cases e : k = j
        · subst e
          rw [t3 k (by omega), st2_at]
        · rw [t2 k (by omega) h4, st2_a (by decide)]
      · rw [t3 k (by omega), st2_k (by omega)]
theorem mback {σ : Mem} {g : Nat → Nat} (h : RA σ 192 g) (h8 : g 0 ≤ 8) : ∃ τ, f_X8_takeBack σ = some τ ∧ RA τ 187 g ∧ Fr (fun a => a = 187) σ τ := by
  obtain ⟨τ, t1, t2, -, t4⟩ := mback_2 FU 0 σ (by decide) (by rw [FU_eq]; decide)
  refine ⟨τ, (by unfold f_X8_takeBack; rw [lt_eq, l_0]; exact t1), ?_, t4⟩
  obtain ⟨⟨h0, h1, h2, h3, h4⟩, h5⟩ := h
  refine ⟨⟨?_, ?_, ?_, ?_, ?_⟩, fun k hk => ⟨?_, ?_, ?_⟩⟩
  all_goals rw [t2 _ (by omega) (by omega)]
  · exact h0
  · exact h1
  · exact h2
  · exact h3
  · exact h4
  · exact (h5 k hk).1
  · exact (h5 k hk).2.1
  · exact (h5 k hk).2.2
