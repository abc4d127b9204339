/-! PURE, 20: a row dropped, a row made -/
theorem SysOk.rows {s : Sys} {gone : Nat → Bool} {lane size : Nat → Nat} {item : Nat → Nat → Int32} (h : SysOk s) (h2 : ∀ r, r < 8 → lane r ≤ 2 ∧ size r ≤ 40) : SysOk (s.w_rows gone lane size item) := ⟨h.og, h.om, h.oa, h.om1, h.oi, h.ot, h.otp, h2, h.on⟩
theorem both_drop (p : Int32) : BOTH (f_X7_drop p) (f_X8_drop p) := by
  intro s hs
  have d := Classical.propDecidable (rng p 0 7)
  by_cases c : rng p 0 7
  · have c' := c
    obtain ⟨i, rfl, -, hi⟩ := c'
    have hz := (hs.or i (by omega)).2
    cases c1 : s.gone i
    · refine ⟨nI (s.size i), (s.w_rows (putB s.gone i true) s.lane s.size s.item).w_sta 0, (hs.rows hs.or).sta, fun σ hc => ?_, fun σ hm => ?_⟩
      · obtain ⟨e1, e2⟩ := hc.c6 i (by omega)
        rw [c1] at e1
        obtain ⟨q1, q2, q3⟩ := e2 c1
        have h6 : C6 (st2 σ (159 + 2 * i) 1 (nI 1)) (putB s.gone i true) s.lane s.size s.item := by
          intro k hk
          by_cases e : k = i
          · rw [e, putB_at]
            exact ⟨st2_at, fun h => Bool.noConfusion h⟩
          · rw [putB_ne e, st2_a (by omega), st2_a (by omega), st2_a (by omega), st2_row (a := 159 + 2 * i) (b := 160 + 2 * k) (by omega)]
            exact hc.c6 k hk
        obtain ⟨w1, w2⟩ := hc.rows h6 fun a ha => st2_row (by omega)
        obtain ⟨τ, t1, t2, t3⟩ := xfine (p := nI (s.size i)) w1
        refine ⟨τ, ?_, t2, w2.tr t3⟩
        have e3 : st2 σ (159 + 2 * i) 1 (nI 1) (159 + 2 * i) 3 = nI (s.size i) := by rw [st2_k (by omega)]; exact q2
        simp (disch := omega) only [f_X7_drop, xisRow, c, bd2_some, l_0, l_1, n_eq, ↓reduceIte, Nat.reduceEqDiff, n_ix, ing_ok, e1, Bool.false_eq_true, lt_eq, e3, t1]
      · obtain ⟨e1, e2⟩ := hm.m6 i (by omega)
        rw [c1] at e1
        have h6 : R6 (st2 σ 185 i (-1)) (putB s.gone i true) s.lane s.size s.item := by
          intro k hk
          by_cases e : k = i
          · rw [e, putB_at]
            exact ⟨st2_at, fun h => Bool.noConfusion h⟩
          · rw [putB_ne e, st2_k e, st2_a (by omega), st2_row (a := 185) (b := 186) (by omega)]
            exact hm.m6 k hk
        obtain ⟨w1, w2⟩ := hm.rows h6 fun a ha _ => st2_row (by omega)
        obtain ⟨τ, t1, t2, t3⟩ := mwell (p := nI (s.size i)) w1
        refine ⟨τ, ?_, t2, w2.tr t3⟩
        simp (disch := omega) only [f_X8_drop, misRow, c, bd2_some, l_0, n_eq, n_le, ↓reduceIte, Nat.reduceEqDiff, n_ix, ing_ok, e1, Bool.false_eq_true, lt_eq, Nat.zero_le, t1]
    · refine ⟨-1000010 - 1, s.w_sta 1, hs.sta, fun σ hc => ?_, fun σ hm => ?_⟩
      · have e1 := (hc.c6 i (by omega)).1
        rw [c1] at e1
        obtain ⟨τ, t1, t2⟩ := xfound (p := 1) hc
        refine ⟨τ, ?_, t2⟩
        rw [l_1] at t1
        simp (disch := omega) only [f_X7_drop, xisRow, c, bd2_some, l_0, l_1, n_eq, ↓reduceIte, Nat.reduceEqDiff, n_ix, ing_ok, e1, t1]
      · have e1 := (hm.m6 i (by omega)).1
        rw [c1] at e1
        obtain ⟨τ, t1, t2⟩ := mfind (p := 1) hm
        refine ⟨τ, ?_, t2⟩
        rw [l_1] at t1
        have ng : ¬ nI 0 ≤ -nI 1 := by decide
        simp (disch := omega) only [f_X8_drop, misRow, c, bd2_some, l_0, l_1, n_eq, ↓reduceIte, Nat.reduceEqDiff, n_ix, ing_ok, e1, ng, t1]
  · refine ⟨-1000001, s, hs, XS.rf fun σ hc => ?_, MS.rf fun σ hm => ?_⟩
    · simp (disch := omega) only [f_X7_drop, xisRow, c, bd2_some, l_0, ↓reduceIte]
    · simp (disch := omega) only [f_X8_drop, misRow, c, bd2_some, l_0, ↓reduceIte]
theorem xmake_17 {b : Nat} {p q : Int32} : ∀ n j σ, j ≤ 40 → 40 - j < n → ∃ τ, f_X4_make_17 b p q n (nI j) σ = some τ ∧ (∀ k, j ≤ k → k < 40 → τ (b + 1) k = nI 0) ∧ (∀ k, k < j → τ (b + 1) k = σ (b + 1) k) ∧ Fr (fun a => a = b + 1) σ τ := by
  intro n
  induction n with
  | zero => intro j σ h1 h2; omega
  | succ n ih =>
    intro j σ h1 h2
    by_cases c : 40 ≤ j
    · refine ⟨σ, ?_, fun k h3 h4 => by omega, fun k _ => rfl, Fr.rf⟩
      simp (disch := omega) only [f_X4_make_17, l_40, n_le, c, ↓reduceIte]
    · obtain ⟨τ, t1, t2, t3, t4⟩ := ih (j + 1) (st2 σ (b + 1) j (nI 0)) (by omega) (by omega)
      refine ⟨τ, ?_, fun k h3 h4 => ?_, fun k h3 => ?_, (Fr.st (S := fun a => a = b + 1) rfl).tr t4⟩
      · rw [← t1]
        simp (disch := omega) only [f_X4_make_17, l_40, l_0, l_1, n_le, c, ↓reduceIte, n_add, n_ix, ing_ok, lt_eq]
      · by_cases e : k = j
        · subst e
          rw [t3 _ (by omega), st2_at]
        · exact t2 k (by omega) h4
      · rw [t3 k (by omega), st2_k (by omega)]
theorem mrow_55 {i : Nat} {q : Int32} {z : Int32} (hi : i < 8) : ∀ n j σ, j ≤ 40 → 40 - j < n → ∃ τ, f_X8_row_55 (nI i) q z n (nI j) σ = (bd2 (f_X8_well z τ) fun x3 s4 => some (x3, s4)) ∧ (∀ k, j ≤ k → k < 40 → τ 186 (40 * i + k) = nI 0) ∧ (∀ k, (k < 40 * i + j ∨ 40 * i + 40 ≤ k) → τ 186 k = σ 186 k) ∧ Fr (fun a => a = 186) σ τ := by
  intro n
  induction n with
  | zero => intro j σ h1 h2; omega
  | succ n ih =>
    intro j σ h1 h2
    by_cases c : 40 ≤ j
    · refine ⟨σ, ?_, fun k h3 h4 => by omega, fun k _ => rfl, Fr.rf⟩
      simp (disch := omega) only [f_X8_row_55, l_40, n_le, c, ↓reduceIte]
    · obtain ⟨τ, t1, t2, t3, t4⟩ := ih (j + 1) (st2 σ 186 (40 * i + j) (nI 0)) (by omega) (by omega)
      refine ⟨τ, ?_, fun k h3 h4 => ?_, fun k h3 => ?_, (Fr.st (S := fun a => a = 186) rfl).tr t4⟩
      · rw [← t1]
        simp (disch := omega) only [f_X8_row_55, l_40, l_0, l_1, n_le, c, ↓reduceIte, n_mul, n_add, n_ix, ing_ok, lt_eq]
      · by_cases e : k = j
        · subst e
          rw [t3 _ (by omega), st2_at]
        · exact t2 k (by omega) h4
      · rw [t3 k (by omega), st2_k (by omega)]
