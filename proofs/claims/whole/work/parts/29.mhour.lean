/-! PURE, 5: the hour on the reference's side -/
theorem mloses {σ : Mem} {j v : Nat} {g : Nat → Nat} (h : RA σ 187 g) (hb : SB g) (hj : j < g 0) (hv : v < 1000) : f_X8_loses (nI j) (nI v) σ = some (st2 σ 187 (21 + j) (nI (g (21 + j) - v))) := by
  have h8 := hb.1
  have hs := (h.2 j hj).2.2
  have h99 := (hb.2.2.2.2 j hj).2.2
  by_cases c : g (21 + j) ≤ v
  · simp (disch := omega) only [f_X8_loses, l_0, l_21, n_add, n_ix, ing_ok, hs, n_le, c, ↓reduceIte, lt_eq]
    rw [show g (21 + j) - v = 0 by omega]
  · simp (disch := omega) only [f_X8_loses, l_0, l_21, n_add, n_ix, ing_ok, hs, n_le, c, ↓reduceIte, lt_eq, n_sub]
theorem mhour_7 {g : Nat → Nat} {m1 : Int32} (hb : SB g) : ∀ n j σ, RA σ 187 (losG g j) → j ≤ g 0 → g 0 - j < n → ∃ τ, f_X8_oneHour_7 n m1 (nI j) σ = f_X8_oneHour_35 FU m1 (nI 0) τ ∧ RA τ 187 (losG g (g 0)) ∧ Fr (fun a => a = 187) σ τ := by
  intro n
  induction n with
  | zero => intro j σ _ h1 h2; omega
  | succ n ih =>
    intro j σ hR h1 h2
    have h8 := hb.1
    have e0 : losG g j 0 = g 0 := losG_low j 0 (by omega)
    by_cases c : j = g 0
    · subst c
      refine ⟨σ, ?_, hR, Fr.rf⟩
      simp (disch := omega) only [f_X8_oneHour_7, hR.1.1, e0, n_le, Nat.le_refl, ↓reduceIte, lt_eq, l_0, n_ix, ing_ok]
    · have hj : j < g 0 := by omega
      have h99 := (hb.2.2.2.2 j hj).2.2
      have hS := losG_SB hb j h1
      have hl := mlossOf hR hS (j := j) (by omega)
      rw [losG_loss (by omega)] at hl
      have hl18 := lossG_le hb hj
      have hlo := mloses hR hS (j := j) (v := lossG g j) (by omega) (by omega)
      rw [losG_low j (21 + j) (by omega)] at hlo
      have c2 : ¬ g 0 ≤ j := by omega
      obtain ⟨τ, t1, t2, t3⟩ := ih (j + 1) (st2 σ 187 (21 + j) (nI (g (21 + j) - lossG g j))) (hR.sp (by omega)) (by omega) (by omega)
      refine ⟨τ, ?_, t2, (Fr.st (S := fun a => a = 187) rfl).tr t3⟩
      rw [← t1]
      simp (disch := omega) only [f_X8_oneHour_7, hR.1.1, e0, n_le, c2, ↓reduceIte, lt_eq, l_0, l_1, ing_ok, hl, hlo, bd2_some, bd_some, n_ix, n_add]
theorem mhour_35 {g : Nat → Nat} {m1 : Int32} (hb : SB g) (h1g : 1 ≤ g 0) : ∀ n j σ, RA σ 187 (walG g j) → j ≤ g 0 - 1 → g 0 - 1 - j < n → ∃ τ, f_X8_oneHour_35 n m1 (nI j) σ = f_X8_oneHour_138 FU m1 (nI 0) τ ∧ RA τ 187 (walG g (g 0 - 1)) ∧ Fr (fun a => a = 187) σ τ := by
  intro n
  induction n with
  | zero => intro j σ _ h1 h2; omega
  | succ n ih =>
    intro j σ hR h1 h2
    have h8 := hb.1
    have e0 : walG g j 0 = g 0 := walG_low j 0 (by omega)
    have e4 : walG g j 4 = g 4 := walG_low j 4 (by omega)
    have h4 := hb.2.2.2.1
    by_cases c : j = g 0 - 1
    · refine ⟨σ, ?_, by rw [← c]; exact hR, Fr.rf⟩
      have c2 : g 0 - 1 ≤ j := by omega
      simp (disch := omega) only [f_X8_oneHour_35, hR.1.1, e0, l_1, n_sub, n_le, c2, ↓reduceIte, lt_eq, l_0, n_ix, ing_ok]
    · have hS := walG_SB hb j h1
      have a1 := (hS.2.2.2.2 j (by omega)).2.2
      have a2 := (hS.2.2.2.2 (j + 1) (by omega)).2.2
      have s1 := (hR.2 j (by omega)).2.2
      have s2 := (hR.2 (j + 1) (by omega)).2.2
      have t1' := mstands hR hS (j := j) (by omega)
      have t2' := mstands hR hS (j := j + 1) (by omega)
      have c2 : ¬ g 0 - 1 ≤ j := by omega
      have hm : g 4 / 2 ^ j % 2 < 2 := Nat.mod_lt _ (by decide)
      have stay : ¬ (walG g j 4 / 2 ^ j % 2 = 1 ∧ 0 < walG g j (21 + j) ∧ 0 < walG g j (21 + (j + 1))) → f_X8_oneHour_35 (n + 1) m1 (nI j) σ = f_X8_oneHour_35 n m1 (nI (j + 1)) σ → ∃ τ, f_X8_oneHour_35 (n + 1) m1 (nI j) σ = f_X8_oneHour_138 FU m1 (nI 0) τ ∧ RA τ 187 (walG g (g 0 - 1)) ∧ Fr (fun a => a = 187) σ τ := by
        intro q1 q2
        obtain ⟨τ, t1, t2, t3⟩ := ih (j + 1) σ (by rw [walG_step q1]; exact hR) (by omega) (by omega)
        exact ⟨τ, q2.trans t1, t2, t3⟩
      by_cases c3 : g 4 / 2 ^ j % 2 = 0
      · refine stay (by rw [e4]; omega) ?_
        simp (disch := omega) only [f_X8_oneHour_35, hR.1.1, hR.1.2.2.2.2, e0, e4, l_0, l_1, l_4, n_ix, ing_ok, n_add, n_sub, n_le, mhas, bd2_some, n_eq, c2, c3, ↓reduceIte, lt_eq]
      · by_cases c4 : 0 < walG g j (21 + j)
        · rw [if_pos c4] at t1'
          by_cases c5 : 0 < walG g j (21 + (j + 1))
          · rw [if_pos c5] at t2'
            obtain ⟨k1, k2⟩ := quart a1 a2
            have go := walG_go (g := g) (w := j) ⟨by rw [e4]; omega, by omega, by omega⟩
            have hR1 := (hR.sp (j := j) (v := if walG g j (21 + (j + 1)) ≤ walG g j (21 + j) then walG g j (21 + j) - (walG g j (21 + j) - walG g j (21 + (j + 1))) / 4 else walG g j (21 + j) + (walG g j (21 + (j + 1)) - walG g j (21 + j)) / 4) (by omega))
            have hR2 := (hR1.sp (j := j + 1) (v := if walG g j (21 + (j + 1)) ≤ walG g j (21 + j) then walG g j (21 + (j + 1)) + (walG g j (21 + j) - walG g j (21 + (j + 1))) / 4 else walG g j (21 + (j + 1)) - (walG g j (21 + (j + 1)) - walG g j (21 + j)) / 4) (by rw [sp_ne (by omega)]; omega))
            rw [← go] at hR2
            obtain ⟨τ, t1, t2, t3⟩ := ih (j + 1) _ hR2 (by omega) (by omega)
            refine ⟨τ, ?_, t2, ((Fr.st (S := fun a => a = 187) rfl).tr (Fr.st (S := fun a => a = 187) rfl)).tr t3⟩
            rw [← t1]
            have s3 : ∀ x, st2 σ 187 (21 + j) x 187 (21 + (j + 1)) = nI (walG g j (21 + (j + 1))) := fun x => by rw [st2_k (by omega)]; exact s2
            simp (disch := omega) only [f_X8_oneHour_35, hR.1.1, hR.1.2.2.2.2, e0, e4, l_0, l_1, l_4, l_21, n_add, n_sub, n_le, n_eq, c2, c3, ↓reduceIte, lt_eq, ing_ok, n_ix, mhas, bd2_some, t1', t2', Nat.add_assoc, s1, s2, s3, k1, k2, Nat.reduceEqDiff]
          · rw [if_neg c5] at t2'
            refine stay (by omega) ?_
            simp (disch := omega) only [f_X8_oneHour_35, hR.1.1, hR.1.2.2.2.2, e0, e4, l_0, l_1, l_4, n_ix, ing_ok, n_add, n_sub, n_le, mhas, bd2_some, n_eq, c2, c3, ↓reduceIte, lt_eq, t1', t2', Nat.reduceEqDiff]
        · rw [if_neg c4] at t1'
          refine stay (by omega) ?_
          simp (disch := omega) only [f_X8_oneHour_35, hR.1.1, hR.1.2.2.2.2, e0, e4, l_0, l_1, l_4, n_ix, ing_ok, n_add, n_sub, n_le, mhas, bd2_some, n_eq, c2, c3, ↓reduceIte, lt_eq, t1']
theorem mhour_138 {stood : Nat} {g : Nat → Nat} (hb : SB g) (hst : stood < 256) (h1g : 1 ≤ g 0) : ∀ n j σ, RA σ 187 (falG stood g j) → j ≤ g 0 - 1 → g 0 - 1 - j < n → ∃ τ, f_X8_oneHour_138 n (nI stood) (nI j) σ = some (st2 τ 187 3 (nI (g 3 + 1))) ∧ RA τ 187 (falG stood g (g 0 - 1)) ∧ Fr (fun a => a = 187) σ τ := by
  intro n
  induction n with
  | zero => intro j σ _ h1 h2; omega
  | succ n ih =>
    intro j σ hR h1 h2
    have h8 := hb.1
    have h40 := hb.2.2.1
    have e0 : falG stood g j 0 = g 0 := falG_low j 0 (by omega)
    have e2 : falG stood g j 2 = g 2 := falG_low j 2 (by omega)
    have e3 : falG stood g j 3 = g 3 := falG_low j 3 (by omega)
    by_cases c : j = g 0 - 1
    · refine ⟨σ, ?_, by rw [← c]; exact hR, Fr.rf⟩
      have c2 : g 0 - 1 ≤ j := by omega
      simp (disch := omega) only [f_X8_oneHour_138, hR.1.1, hR.1.2.2.2.1, e0, e3, l_1, l_3, n_add, n_sub, n_le, c2, ↓reduceIte, lt_eq, l_0, n_ix, ing_ok]
    · have hS := falG_SB (stood := stood) hb j h1
      have a1 := (hS.2.2.2.2 j (by omega)).2.2
      have t1' := mstands hR hS (j := j) (by omega)
      have c2 : ¬ g 0 - 1 ≤ j := by omega
      have hm : stood / 2 ^ j % 2 < 2 := Nat.mod_lt _ (by decide)
      have stay : ¬ (stood / 2 ^ j % 2 = 1 ∧ falG stood g j (21 + j) = 0) → f_X8_oneHour_138 (n + 1) (nI stood) (nI j) σ = f_X8_oneHour_138 n (nI stood) (nI (j + 1)) σ → ∃ τ, f_X8_oneHour_138 (n + 1) (nI stood) (nI j) σ = some (st2 τ 187 3 (nI (g 3 + 1))) ∧ RA τ 187 (falG stood g (g 0 - 1)) ∧ Fr (fun a => a = 187) σ τ := by
        intro q1 q2
        obtain ⟨τ, t1, t2, t3⟩ := ih (j + 1) σ (by rw [falG_step q1]; exact hR) (by omega) (by omega)
        exact ⟨τ, q2.trans t1, t2, t3⟩
      by_cases c3 : stood / 2 ^ j % 2 = 0
      · refine stay (by omega) ?_
        simp (disch := omega) only [f_X8_oneHour_138, hR.1.1, e0, l_0, l_1, n_ix, ing_ok, n_add, n_sub, n_le, mhas, bd2_some, n_eq, c2, c3, ↓reduceIte, lt_eq]
      · by_cases c4 : falG stood g j (21 + j) = 0
        · rw [if_neg (by omega)] at t1'
          have go := falG_go (stood := stood) (g := g) (w := j) ⟨by omega, c4⟩
          have hlo := mloses hR hS (j := j + 1) (v := g 2) (by omega) (by omega)
          have hR1 := (hR.sp (j := j + 1) (v := falG stood g j (21 + (j + 1)) - g 2) (by omega))
          rw [← go] at hR1
          obtain ⟨τ, t1, t2, t3⟩ := ih (j + 1) _ hR1 (by omega) (by omega)
          refine ⟨τ, ?_, t2, (Fr.st (S := fun a => a = 187) rfl).tr t3⟩
          rw [← t1]
          simp (disch := omega) only [f_X8_oneHour_138, hR.1.1, hR.1.2.2.1, e0, e2, l_0, l_1, l_2, n_ix, ing_ok, n_add, n_sub, n_le, mhas, bd2_some, bd_some, n_eq, c2, c3, ↓reduceIte, lt_eq, t1', hlo]
        · rw [if_pos (by omega)] at t1'
          refine stay (by omega) ?_
          simp (disch := omega) only [f_X8_oneHour_138, hR.1.1, e0, l_0, l_1, n_ix, ing_ok, n_add, n_sub, n_le, mhas, bd2_some, n_eq, c2, c3, ↓reduceIte, lt_eq, t1', Nat.reduceEqDiff]
/-- an hour, on the reference's side -/
theorem mhour {σ : Mem} {g : Nat → Nat} (hR : RA σ 187 g) (hb : SB g) (h1g : 1 ≤ g 0) : ∃ τ, f_X8_oneHour σ = some τ ∧ RA τ 187 (hourG g) ∧ Fr (fun a => a = 187) σ τ := by
  have h8 := hb.1
  have hst := standG_lt hb
  have z0 : losG g (g 0) 0 = g 0 := losG_low _ 0 (by omega)
  have h1 := losG_SB hb (g 0) (Nat.le_refl _)
  have w0 : walG (losG g (g 0)) (g 0 - 1) 0 = g 0 := by rw [walG_low _ 0 (by omega), z0]
  have w3 : walG (losG g (g 0)) (g 0 - 1) 3 = g 3 := by rw [walG_low _ 3 (by omega), losG_low _ 3 (by omega)]
  have h2 := walG_SB h1 (g 0 - 1) (by rw [z0]; exact Nat.le_refl _)
  obtain ⟨τ1, a1, a2, a3⟩ := mhour_7 (m1 := nI (standG g)) hb FU 0 σ hR (Nat.zero_le _) (by rw [FU_eq]; omega)
  obtain ⟨τ2, b1, b2, b3⟩ := mhour_35 (m1 := nI (standG g)) h1 (by omega) FU 0 τ1 a2 (Nat.zero_le _) (by rw [FU_eq]; omega)
  rw [z0] at b2
  obtain ⟨τ3, c1, c2, c3⟩ := mhour_138 (stood := standG g) h2 hst (by omega) FU 0 τ2 b2 (Nat.zero_le _) (by rw [FU_eq]; omega)
  rw [w0] at c2
  rw [w3] at c1
  refine ⟨st2 τ3 187 3 (nI (g 3 + 1)), ?_, ?_, Fr.tr ((a3.tr b3).tr c3) (Fr.st (S := fun a => a = 187) rfl)⟩
  · unfold f_X8_oneHour
    rw [mstanding hR hb, bd2_some, lt_eq, lt_eq, l_0, a1, b1, c1]
  · obtain ⟨⟨q0, q1, q2, q3, q4⟩, q5⟩ := c2
    have e : ∀ k, k ≠ 3 → hourG g k = falG (standG g) (walG (losG g (g 0)) (g 0 - 1)) (g 0 - 1) k := fun k hk => if_neg hk
    refine ⟨⟨?_, ?_, ?_, ?_, ?_⟩, fun h hh => ?_⟩
    · rw [st2_k (by omega), e 0 (by omega)]; exact q0
    · rw [st2_k (by omega), e 1 (by omega)]; exact q1
    · rw [st2_k (by omega), e 2 (by omega)]; exact q2
    · rw [st2_at, hour_3]
    · rw [st2_k (by omega), e 4 (by omega)]; exact q4
    · rw [e 0 (by omega)] at hh
      rw [st2_k (by omega), st2_k (by omega), st2_k (by omega), e (5 + h) (by omega), e (13 + h) (by omega), e (21 + h) (by omega)]
      exact q5 h hh
