/-! PURE, 10: more calls that only tell -/
theorem both_house (p q : Int32) : BOTH (f_X7_house p q) (f_X8_house p q) := by
  intro s hs
  have h8 := hs.og.1.1
  have hb := hs.og.1
  by_cases c0 : hous p (s.g 0)
  · obtain ⟨j, rfl, hj⟩ := c0
    have h99 := (hb.2.2.2.2 j hj).2.2
    by_cases c : rng q 0 5
    · obtain ⟨k, rfl, -, hk⟩ := c
      rcases (by omega : k = 0 ∨ k = 1 ∨ k = 2 ∨ k = 3 ∨ k = 4 ∨ k = 5) with rfl | rfl | rfl | rfl | rfl | rfl
      · refine ⟨nI (s.g (21 + j)), s, hs, XS.rf fun σ hc => ?_, MS.rf fun σ hm => ?_⟩
        · have e := (hc.c1.2 j hj).2.2
          simp (disch := omega) only [f_X7_house, xhouse_y hs hj hc, bd2_some, l_0, n_eq, n_ix, ing_ok, ↓reduceIte, Nat.reduceEqDiff, sw0, e]
        · have e := (hm.m1.2 j hj).2.2
          simp (disch := omega) only [f_X8_house, mhouse_y hs hj hm, bd2_some, l_0, l_21, n_add, n_eq, n_ix, ing_ok, ↓reduceIte, Nat.reduceEqDiff, sw0, e]
      · refine ⟨nI (s.g (13 + j)), s, hs, XS.rf fun σ hc => ?_, MS.rf fun σ hm => ?_⟩
        · have e := (hc.c1.2 j hj).2.1
          simp (disch := omega) only [f_X7_house, xhouse_y hs hj hc, bd2_some, l_0, n_eq, n_ix, ing_ok, ↓reduceIte, Nat.reduceEqDiff, sw0, e]
        · have e := (hm.m1.2 j hj).2.1
          simp (disch := omega) only [f_X8_house, mhouse_y hs hj hm, bd2_some, l_0, l_13, n_add, n_eq, n_ix, ing_ok, ↓reduceIte, Nat.reduceEqDiff, sw0, e]
      · refine ⟨nI (if s.g (21 + j) = 0 then 1 else 0), s, hs, XS.rf fun σ hc => ?_, MS.rf fun σ hm => ?_⟩
        · have e := (hc.c1.2 j hj).2.2
          by_cases c1 : s.g (21 + j) = 0
          · rw [c1] at e
            simp (disch := omega) only [f_X7_house, xhouse_y hs hj hc, bd2_some, l_0, l_1, n_eq, n_ix, ing_ok, ↓reduceIte, Nat.reduceEqDiff, sw0, e, c1]
          · simp (disch := omega) only [f_X7_house, xhouse_y hs hj hc, bd2_some, l_0, l_1, n_eq, n_ix, ing_ok, ↓reduceIte, Nat.reduceEqDiff, sw0, e, c1]
        · have e := mstands hm.m1 hb hj
          by_cases c1 : s.g (21 + j) = 0
          · rw [if_neg (by omega)] at e
            simp (disch := omega) only [f_X8_house, mhouse_y hs hj hm, bd2_some, l_0, l_1, n_eq, ↓reduceIte, Nat.reduceEqDiff, sw0, e, c1]
          · rw [if_pos (by omega)] at e
            simp (disch := omega) only [f_X8_house, mhouse_y hs hj hm, bd2_some, l_0, l_1, n_eq, ↓reduceIte, Nat.reduceEqDiff, sw0, e, c1]
      · refine ⟨nI (if 0 < s.g (21 + j) ∧ s.g (21 + j) < s.g 2 then 1 else 0), s, hs, XS.rf fun σ hc => ?_, MS.rf fun σ hm => ?_⟩
        · have e := xleans hc.c1 hb hj
          by_cases c1 : 0 < s.g (21 + j) ∧ s.g (21 + j) < s.g 2
          · rw [if_pos c1] at e ⊢
            simp (disch := omega) only [f_X7_house, xhouse_y hs hj hc, bd2_some, l_0, l_1, n_eq, ↓reduceIte, Nat.reduceEqDiff, sw0, e]
          · rw [if_neg c1] at e ⊢
            simp (disch := omega) only [f_X7_house, xhouse_y hs hj hc, bd2_some, l_0, l_1, n_eq, ↓reduceIte, Nat.reduceEqDiff, sw0, e]
        · have e := mleans hm.m1 hb hj
          by_cases c1 : 0 < s.g (21 + j) ∧ s.g (21 + j) < s.g 2
          · rw [if_pos c1] at e ⊢
            simp (disch := omega) only [f_X8_house, mhouse_y hs hj hm, bd2_some, l_0, l_1, n_eq, ↓reduceIte, Nat.reduceEqDiff, sw0, e]
          · rw [if_neg c1] at e ⊢
            simp (disch := omega) only [f_X8_house, mhouse_y hs hj hm, bd2_some, l_0, l_1, n_eq, ↓reduceIte, Nat.reduceEqDiff, sw0, e]
      · refine ⟨nI (lossG s.g j), s, hs, XS.rf fun σ hc => ?_, MS.rf fun σ hm => ?_⟩
        · simp (disch := omega) only [f_X7_house, xhouse_y hs hj hc, bd2_some, l_0, n_eq, ↓reduceIte, Nat.reduceEqDiff, sw0, xloss hc.c1 hb hj]
        · simp (disch := omega) only [f_X8_house, mhouse_y hs hj hm, bd2_some, l_0, n_eq, ↓reduceIte, Nat.reduceEqDiff, sw0, mlossOf hm.m1 hb hj]
      · refine ⟨nI (touG s.g j), s, hs, XS.rf fun σ hc => ?_, MS.rf fun σ hm => ?_⟩
        · simp (disch := omega) only [f_X7_house, xhouse_y hs hj hc, bd2_some, l_0, n_eq, ↓reduceIte, Nat.reduceEqDiff, sw0, xwallsOf hc.c1 hb hj]
        · simp (disch := omega) only [f_X8_house, mhouse_y hs hj hm, bd2_some, l_0, n_eq, ↓reduceIte, Nat.reduceEqDiff, sw0, mtouches hm.m1 hb hj]
    · refine ⟨-1000001, s, hs, XS.rf fun σ hc => ?_, MS.rf fun σ hm => ?_⟩
      · simp (disch := omega) only [f_X7_house, xhouse_y hs hj hc, bd2_some, l_0, n_eq, ↓reduceIte, Nat.reduceEqDiff, sw0_out c rfl]
      · simp (disch := omega) only [f_X8_house, mhouse_y hs hj hm, bd2_some, l_0, n_eq, ↓reduceIte, Nat.reduceEqDiff, sw0_out c rfl]
  · refine ⟨-1000001, s, hs, XS.rf fun σ hc => ?_, MS.rf fun σ hm => ?_⟩
    · simp only [f_X7_house, xhouse_n hs c0 hc, bd2_some, l_0, ↓reduceIte]
    · simp only [f_X8_house, mhouse_n hs c0 hm, bd2_some, l_0, ↓reduceIte]
/-- a place of a list, or none -/
theorem hous_int' {p : Int32} {n : Nat} (hn : n ≤ 100000) : hous p n ↔ 0 ≤ p.toInt ∧ p.toInt ≤ (n : Int) - 1 := by
  constructor
  · rintro ⟨j, rfl, h1⟩
    rw [n_int (by omega)]
    omega
  · rintro ⟨h1, h2⟩
    refine ⟨p.toInt.toNat, ?_, by omega⟩
    apply Int32.toInt_inj.mp
    rw [n_int (by omega)]
    omega
theorem pred_int' {n : Nat} (hn : n ≤ 100000) : (nI n - 1).toInt = (n : Int) - 1 := by
  rw [l_1, pk_sub_toInt (by omega) (by omega)]
  rfl
theorem both_trace (p : Int32) : BOTH (f_X7_trace p) (f_X8_trace p) := by
  intro s hs
  have h16 := hs.on
  by_cases c0 : hous p s.tn
  · obtain ⟨j, rfl, hj⟩ := c0
    have hi : (0 : Int) ≤ (nI j).toInt ∧ (nI j).toInt ≤ (s.tn : Int) - 1 := (hous_int' (by omega)).mp ⟨j, rfl, hj⟩
    refine ⟨s.tr j, s, hs, XS.rf fun σ hc => ?_, MS.rf fun σ hm => ?_⟩
    · unfold f_X7_trace
      rw [hc.c7.1, xwithin, pred_int' (by omega), show (0 : Int32).toInt = 0 from rfl, if_pos hi, bd2_some, if_neg (by decide), ing_ok (by omega) (by decide), n_ix (by omega), hc.c7.2 j hj]
    · unfold f_X8_trace
      rw [hm.m7.1, min_, w_int, w_int, pred_int' (by omega), show (0 : Int64).toInt = 0 from rfl, if_pos hi, bd2_some, if_neg (by decide), ing_ok (by omega) (by decide), n_ix (by omega), hm.m7.2 j hj]
  · have hi : ¬ ((0 : Int) ≤ p.toInt ∧ p.toInt ≤ (s.tn : Int) - 1) := fun h => c0 ((hous_int' (by omega)).mpr h)
    refine ⟨-1000000, s, hs, XS.rf fun σ hc => ?_, MS.rf fun σ hm => ?_⟩
    · unfold f_X7_trace
      rw [hc.c7.1, xwithin, pred_int' (by omega), show (0 : Int32).toInt = 0 from rfl, if_neg hi, bd2_some, if_pos l_0.symm]
    · unfold f_X8_trace
      rw [hm.m7.1, min_, w_int, w_int, pred_int' (by omega), show (0 : Int64).toInt = 0 from rfl, if_neg hi, bd2_some, if_pos l_0.symm]
/-- how many rows are there -/
def rowN (gone : Nat → Bool) : Nat → Nat
  | 0 => 0
  | r + 1 => rowN gone r + (if gone r then 0 else 1)
theorem xrows_4 {σ : Mem} {gone : Nat → Bool} {lane size : Nat → Nat} {item : Nat → Nat → Int32} (h : C6 σ gone lane size item) : ∀ n j, j ≤ 8 → 8 - j < n → f_X7_rowsThere_4 n (nI (rowN gone j)) (nI j) σ = some (nI (rowN gone 8), σ) := by
  intro n
  induction n with
  | zero => intro j h1 h2; omega
  | succ n ih =>
    intro j h1 h2
    by_cases c : j = 8
    · subst c
      simp (disch := omega) only [f_X7_rowsThere_4, l_8, n_le, Nat.le_refl, ↓reduceIte]
    · have c2 : ¬ 8 ≤ j := by omega
      have e := (h j (by omega)).1
      cases c3 : gone j
      · have e2 : rowN gone j + 1 = rowN gone (j + 1) := by rw [rowN, c3]; rfl
        rw [c3] at e
        simp (disch := omega) only [f_X7_rowsThere_4, l_8, l_0, l_1, n_le, c2, n_ix, ing_ok, e, Bool.false_eq_true, ↓reduceIte, lt_eq, n_add, e2]
        exact ih (j + 1) (by omega) (by omega)
      · have e2 : rowN gone j = rowN gone (j + 1) := by rw [rowN, c3]; rfl
        rw [c3] at e
        simp (disch := omega) only [f_X7_rowsThere_4, l_8, l_0, l_1, n_le, c2, n_ix, ing_ok, e, n_eq, Nat.reduceEqDiff, ↓reduceIte, lt_eq, n_add, Nat.add_zero]
        rw [e2]
        exact ih (j + 1) (by omega) (by omega)
theorem xrows {σ : Mem} {gone : Nat → Bool} {lane size : Nat → Nat} {item : Nat → Nat → Int32} (h : C6 σ gone lane size item) : f_X7_rowsThere σ = some (nI (rowN gone 8), σ) := by
  unfold f_X7_rowsThere
  rw [lt_eq, lt_eq, l_0]
  exact xrows_4 h FU 0 (by omega) (by rw [FU_eq]; omega)
