/-! PURE, 18: images made and restored -/
def putI (im : Nat → Nat → Nat) (i : Nat) (g : Nat → Nat) : Nat → Nat → Nat := fun k => if k = i then g else im k
theorem mimage_25 {i : Nat} (hi : i < 2) : ∀ n j σ, j ≤ 29 → 29 - j < n → ∃ τ, f_X8_image_25 (nI i) n (nI j) σ = some (1, st2 τ 194 i (nI 1)) ∧ (∀ k, j ≤ k → k < 29 → τ 195 (29 * i + k) = σ 187 k) ∧ (∀ k, (k < 29 * i + j ∨ 29 * i + 29 ≤ k) → τ 195 k = σ 195 k) ∧ Fr (fun a => a = 195) σ τ := by
  intro n
  induction n with
  | zero => intro j σ h1 h2; omega
  | succ n ih =>
    intro j σ h1 h2
    by_cases c : 29 ≤ j
    · refine ⟨σ, ?_, fun k h3 h4 => by omega, fun k _ => rfl, Fr.rf⟩
      simp (disch := omega) only [f_X8_image_25, l_29, l_1, n_le, c, ↓reduceIte, n_ix, ing_ok, lt_eq]
    · obtain ⟨τ, t1, t2, t3, t4⟩ := ih (j + 1) (st2 σ 195 (29 * i + j) (σ 187 j)) (by omega) (by omega)
      refine ⟨τ, ?_, fun k h3 h4 => ?_, fun k h3 => ?_, (Fr.st (S := fun a => a = 195) rfl).tr t4⟩
      · rw [← t1]
        simp (disch := omega) only [f_X8_image_25, l_29, l_1, n_le, c, ↓reduceIte, n_mul, n_add, n_ix, ing_ok, lt_eq]
      · by_cases e : k = j
        · subst e
          rw [t3 _ (by omega), st2_at]
        · rw [t2 k (by omega) h4, st2_a (by decide)]
      · rw [t3 k (by omega), st2_k (by omega)]
theorem mrestore_27 {i : Nat} (hi : i < 2) : ∀ n j σ, j ≤ 29 → 29 - j < n → ∃ τ, f_X8_restore_27 (nI i) n (nI j) σ = some (1, st2 τ 183 17 (nI 0)) ∧ (∀ k, j ≤ k → k < 29 → τ 187 k = σ 195 (29 * i + k)) ∧ (∀ k, k < j → τ 187 k = σ 187 k) ∧ Fr (fun a => a = 187) σ τ := by
  intro n
  induction n with
  | zero => intro j σ h1 h2; omega
  | succ n ih =>
    intro j σ h1 h2
    by_cases c : 29 ≤ j
    · refine ⟨σ, ?_, fun k h3 h4 => by omega, fun k _ => rfl, Fr.rf⟩
      simp (disch := omega) only [f_X8_restore_27, l_29, l_0, n_le, c, ↓reduceIte, lt_eq]
    · obtain ⟨τ, t1, t2, t3, t4⟩ := ih (j + 1) (st2 σ 187 j (σ 195 (29 * i + j))) (by omega) (by omega)
      refine ⟨τ, ?_, fun k h3 h4 => ?_, fun k h3 => ?_, (Fr.st (S := fun a => a = 187) rfl).tr t4⟩
      · rw [← t1]
        simp (disch := omega) only [f_X8_restore_27, l_29, l_1, n_le, c, ↓reduceIte, n_mul, n_add, n_ix, ing_ok, lt_eq]
      · by_cases e : k = j
        · subst e
          rw [t3 _ (by omega), st2_at]
        · rw [t2 k (by omega) h4, st2_a (by decide)]
      · rw [t3 k (by omega), st2_k (by omega)]
theorem both_image (p : Int32) : BOTH (f_X7_image p) (f_X8_image p) := by
  intro s hs
  have h8 := hs.og.1.1
  have d := Classical.propDecidable (rng p 0 1)
  have hx : ∀ σ, f_X7_within p (nI 0) (nI 1) σ = some (if rng p 0 1 then nI 1 else nI 0, σ) := fun σ => xin_rng (by decide) (by decide)
  have hy : ∀ σ, f_X8_in p.toInt64 0 1 σ = some (if rng p 0 1 then nI 1 else nI 0, σ) := fun σ => min_rng (a := 0) (b := 1) rfl rfl (by decide)
  by_cases c : rng p 0 1
  · have c' := c
    obtain ⟨i, rfl, -, hi⟩ := c'
    by_cases c0 : s.g 0 = 0
    · refine ⟨-1000002, s, hs, XS.rf fun σ hc => ?_, MS.rf fun σ hm => ?_⟩
      · simp (disch := omega) only [f_X7_image, l_0, l_1, hx, c, xnoStreet hc hs, c0, bd2_some, n_eq, ↓reduceIte, Nat.reduceEqDiff]
      · have e := hm.m1b
        rw [if_pos c0] at e
        simp (disch := omega) only [f_X8_image, l_0, hy, c, e, bd2_some, n_eq, ↓reduceIte, Nat.reduceEqDiff]
    · refine ⟨nI 1, s.w_im (putI s.im i s.g), ?_, fun σ hc => ?_, fun σ hm => ?_⟩
      · refine ⟨hs.og, hs.om, hs.oa, hs.om1, fun k hk => ?_, hs.ot, hs.otp, hs.or, hs.on⟩
        show SG (putI s.im i s.g k) ∧ (1 ≤ putI s.im i s.g k 0 → 1 ≤ s.g 0)
        unfold putI
        by_cases e : k = i
        · rw [if_pos e]; exact ⟨hs.og, fun h => h⟩
        · rw [if_neg e]; exact hs.oi k hk
      · obtain ⟨τ, t1, t2, t3⟩ := xtake (b := 175 + 4 * i) hc.c1 h8 (Or.inr (by omega))
        refine ⟨τ, ?_, ⟨hc.c1.fr fun a h5 h6 => t3 a (by omega), hc.c2.fr fun a h5 h6 => t3 a (by omega), fun k hk => ?_, hc.c4.fr (t3 2 (by omega)) (t3 7 (by omega)), hc.c5.fr (t3 0 (by omega)) (t3 3 (by omega)), hc.c6.fr fun a h5 h6 => t3 a (by omega), hc.c7.fr (t3 157 (by omega)) (t3 158 (by omega))⟩, t3.le fun a ha => by omega⟩
        · simp (disch := omega) only [f_X7_image, l_0, l_1, hx, c, xnoStreet hc hs, c0, bd2_some, bd_some, n_eq, ↓reduceIte, Nat.reduceEqDiff, n_ix, ing_ok, t1]
        · show RS τ (175 + 4 * k) (putI s.im i s.g k)
          unfold putI
          by_cases e : k = i
          · rw [if_pos e, e]; exact t2
          · rw [if_neg e]; exact (hc.c3 k hk).fr fun a h5 h6 => t3 a (by omega)
      · have e := hm.m1b
        rw [if_neg c0] at e
        obtain ⟨τ, t1, t2, t3, t4⟩ := mimage_25 (i := i) (by omega) FU 0 σ (by omega) (by rw [FU_eq]; omega)
        have e0 : ∀ a, a ≠ 194 → a ≠ 195 → st2 τ 194 i (nI 1) a = σ a := fun a h5 h6 => by rw [st2_row h5, t4 a h6]
        have e183 := e0 183 (by omega) (by omega)
        refine ⟨_, ?_, ⟨hm.m1.fr (e0 187 (by omega) (by omega)), by rw [e183]; exact hm.m1b, hm.m2.fr e183 (e0 191 (by omega) (by omega)), fun k hk => ?_, hm.m4.fr e183 (e0 189 (by omega) (by omega)), by unfold R5; rw [e183]; exact hm.m5, hm.m6.fr (e0 184 (by omega) (by omega)) (e0 185 (by omega) (by omega)) (e0 186 (by omega) (by omega)), hm.m7.fr e183 (e0 196 (by omega) (by omega))⟩, fun a ha => e0 a (by omega) (by omega)⟩
        · rw [l_1] at t1
          simp (disch := omega) only [f_X8_image, l_0, hy, c, e, bd2_some, n_eq, ↓reduceIte, Nat.reduceEqDiff, lt_eq, t1]
        · show st2 τ 194 i (nI 1) 194 k = (if putI s.im i s.g k 0 = 0 then nI 0 else nI 1) ∧ RA (shm (st2 τ 194 i (nI 1)) 195 (29 * k)) 0 (putI s.im i s.g k)
          unfold putI
          by_cases e : k = i
          · rw [if_pos e, if_neg c0, e, st2_at]
            refine ⟨rfl, RA_of hm.m1 h8 fun q hq => ?_⟩
            show st2 τ 194 i (nI 1) 195 (29 * i + q) = σ 187 q
            rw [st2_a (by omega), t2 q (by omega) hq]
          · rw [if_neg e, st2_k e, t4 194 (by omega)]
            refine ⟨(hm.m3 k hk).1, RA_of (hm.m3 k hk).2 (hs.oi k hk).1.1.1 fun q hq => ?_⟩
            show st2 τ 194 i (nI 1) 195 (29 * k + q) = σ 195 (29 * k + q)
            rw [st2_a (by omega), t3 _ (by omega)]
  · refine ⟨-1000001, s, hs, XS.rf fun σ hc => ?_, MS.rf fun σ hm => ?_⟩
    · simp (disch := omega) only [f_X7_image, l_0, l_1, hx, c, bd2_some, ↓reduceIte]
    · simp (disch := omega) only [f_X8_image, l_0, hy, c, bd2_some, ↓reduceIte]
