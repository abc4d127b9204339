/-! PURE, 16: acts taken back; images; walls -/
theorem mundo_22 {m : Nat} (hm : m ≤ 23) : ∀ n j σ, σ 183 17 = nI m → j ≤ 29 → 29 - j < n → ∃ τ, f_X8_undo_22 n (nI j) σ = some (nI m, τ) ∧ (∀ k, j ≤ k → k < 29 → τ 187 k = σ 191 (29 * m + k)) ∧ (∀ k, k < j → τ 187 k = σ 187 k) ∧ Fr (fun a => a = 187) σ τ := by
  intro n
  induction n with
  | zero => intro j σ _ h1 h2; omega
  | succ n ih =>
    intro j σ h0 h1 h2
    by_cases c : 29 ≤ j
    · refine ⟨σ, ?_, fun k h3 h4 => by omega, fun k _ => rfl, Fr.rf⟩
      simp (disch := omega) only [f_X8_undo_22, l_29, n_le, c, ↓reduceIte, h0]
    · obtain ⟨τ, t1, t2, t3, t4⟩ := ih (j + 1) (st2 σ 187 j (σ 191 (29 * m + j))) (by rw [st2_a (by decide)]; exact h0) (by omega) (by omega)
      refine ⟨τ, ?_, fun k h3 h4 => ?_, fun k h3 => ?_, (Fr.st (S := fun a => a = 187) rfl).tr t4⟩
      · rw [← t1]
        simp (disch := omega) only [f_X8_undo_22, l_29, l_1, n_le, c, ↓reduceIte, h0, n_mul, n_add, n_ix, ing_ok, lt_eq]
      · by_cases e : k = j
        · subst e
          rw [t3 k (by omega), st2_at]
        · rw [t2 k (by omega) h4, st2_a (by decide)]
      · rw [t3 k (by omega), st2_k (by omega)]
theorem both_undo : BOTH f_X7_undo f_X8_undo := by
  intro s hs
  have hm24 := hs.om
  by_cases c : s.m = 0
  · refine ⟨-1000002, s, hs, XS.rf fun σ hc => ?_, MS.rf fun σ hm => ?_⟩
    · obtain ⟨o, -, -, e, -⟩ := hc.c2
      rw [c] at e
      simp only [f_X7_undo, e, l_0, ↓reduceIte]
    · have e := hm.m2.1
      rw [c] at e
      simp only [f_X8_undo, e, l_0, ↓reduceIte]
  · obtain ⟨q1, q2⟩ := hs.oa (s.m - 1) (by omega)
    have g1 := hs.om1 (by omega)
    refine ⟨nI (s.m - 1), (s.w_m (s.m - 1)).w_g (s.act (s.m - 1)), ?_, fun σ hc => ?_, fun σ hm => ?_⟩
    · exact ⟨q1, by show s.m - 1 ≤ 24; omega, fun i hi => hs.oa i (by have hi' : i < s.m - 1 := hi; omega), fun _ => q2, fun i hi => ⟨(hs.oi i hi).1, fun _ => q2⟩, hs.ot, hs.otp, hs.or, hs.on⟩
    · obtain ⟨o, h1, h2, h3, h4⟩ := hc.c2
      have hlt : (o + (s.m - 1)) % 24 < 24 := Nat.mod_lt _ (by decide)
      have hix : nI (o + (s.m - 1)) - nI (o + (s.m - 1)) / nI 24 * nI 24 = nI ((o + (s.m - 1)) % 24) := n_rem (by omega) (by decide) (by decide)
      have e0 : ∀ a, a ≠ 13 → st2 σ 13 2 (nI (s.m - 1)) a = σ a := fun a ha => st2_row ha
      have hsrc : RS (st2 σ 13 2 (nI (s.m - 1))) (15 + 4 * ((o + (s.m - 1)) % 24)) (s.act (s.m - 1)) := (h4 (s.m - 1) (by omega)).fr fun a h5 h6 => e0 a (by omega)
      obtain ⟨τ, t1, t2, t3⟩ := xtake (b := 8) hsrc q1.1.1 (Or.inl (by omega))
      have e2 : ∀ a, (a < 8 ∨ 11 < a) → a ≠ 13 → τ a = σ a := fun a h5 h6 => (t3 a (by omega)).trans (e0 a h6)
      have e13 : τ 13 = st2 σ 13 2 (nI (s.m - 1)) 13 := t3 13 (by omega)
      have e132 : τ 13 2 = nI (s.m - 1) := by rw [e13, st2_at]
      refine ⟨τ, ?_, ⟨t2, ⟨o, h1, by rw [e13, st2_k (by omega)]; exact h2, e132, fun i hi => ?_⟩, hc.c3.fr fun a h5 h6 => e2 a (by omega) (by omega), hc.c4.fr (e2 2 (by omega) (by omega)) (e2 7 (by omega) (by omega)), hc.c5.fr (e2 0 (by omega) (by omega)) (e2 3 (by omega) (by omega)), hc.c6.fr fun a h5 h6 => e2 a (by omega) (by omega), hc.c7.fr (e2 157 (by omega) (by omega)) (e2 158 (by omega) (by omega))⟩, fun a ha => e2 a (by omega) (by omega)⟩
      · have e131 : st2 σ 13 2 (nI (s.m - 1)) 13 1 = nI o := by rw [st2_k (by omega)]; exact h2
        have e131b : st2 σ 13 2 (nI (s.m - 1)) 13 2 = nI (s.m - 1) := st2_at
        have c2 : ¬ s.m ≤ 0 := by omega
        simp (disch := omega) only [f_X7_undo, f_X0_takeBack, h3, l_0, l_1, l_24, n_eq, c, n_le, c2, ↓reduceIte, n_sub, lt_eq, e131, e131b, n_add, hix, n_ix, ing_ok, t1, bd_some, e132]
      · have hi' : i < s.m - 1 := hi
        exact (h4 i (by omega)).fr fun a h5 h6 => e2 a (by omega) (by omega)
    · obtain ⟨h1, h2⟩ := hm.m2
      obtain ⟨τ, t1, t2, -, t4⟩ := mundo_22 (m := s.m - 1) (by omega) FU 0 (st2 σ 183 17 (nI (s.m - 1))) st2_at (by omega) (by rw [FU_eq]; omega)
      have e0 : ∀ a, a ≠ 183 → a ≠ 187 → τ a = σ a := fun a h5 h6 => (t4 a h6).trans (st2_row h5)
      have e1 : ∀ k, k ≠ 17 → τ 183 k = σ 183 k := fun k h5 => by rw [t4 183 (by omega), st2_k h5]
      have hR : RA τ 187 (s.act (s.m - 1)) := RA_of (h2 (s.m - 1) (by omega)) q1.1.1 fun k hk => by
        rw [t2 k (by omega) hk, st2_a (by omega)]
        rfl
      refine ⟨τ, ?_, ⟨hR, ?_, ⟨by rw [t4 183 (by omega)]; exact st2_at, fun i hi => ?_⟩, hm.m3.fr (e0 194 (by omega) (by omega)) (e0 195 (by omega) (by omega)), ⟨by rw [e1 8 (by omega)]; exact hm.m4.1, by rw [e0 189 (by omega) (by omega)]; exact hm.m4.2⟩, ⟨by rw [e1 9 (by omega)]; exact hm.m5.1, by rw [e1 3 (by omega)]; exact hm.m5.2⟩, hm.m6.fr (e0 184 (by omega) (by omega)) (e0 185 (by omega) (by omega)) (e0 186 (by omega) (by omega)), ⟨by rw [e1 23 (by omega)]; exact hm.m7.1, by rw [e0 196 (by omega) (by omega)]; exact hm.m7.2⟩⟩, fun a ha => e0 a (by omega) (by omega)⟩
      · unfold f_X8_undo
        have c3 : ¬ nI s.m = 0 := by
          rw [l_0, n_eq (by omega) (by omega)]
          exact c
        rw [h1, if_neg c3, l_1, n_sub (by omega), lt_eq, lt_eq, l_0, t1]
      · rw [e1 4 (by omega), hm.m1b, if_neg (by omega)]
        show _ = if s.act (s.m - 1) 0 = 0 then nI 0 else nI 1
        rw [if_neg (by omega)]
      · have hi' : i < s.m - 1 := hi
        rw [shm_eq (e0 191 (by omega) (by omega))]
        exact h2 i (by omega)
