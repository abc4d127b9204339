/-! PURE, 11: counting; the tape fed -/
theorem mcount_4 {σ : Mem} {p : Int32} {gone : Nat → Bool} {lane size : Nat → Nat} {item : Nat → Nat → Int32} {r : Option (Int32 × Mem)} (h : R6 σ gone lane size item) (hsz : ∀ r, r < 8 → size r ≤ 40) (hr : f_X8_count_4 p 1 (nI (rowN gone 8)) (nI 8) σ = r) : ∀ n j, j ≤ 8 → 8 - j < n → f_X8_count_4 p n (nI (rowN gone j)) (nI j) σ = r := by
  intro n
  induction n with
  | zero => intro j h1 h2; omega
  | succ n ih =>
    intro j h1 h2
    by_cases c : j = 8
    · subst c
      rw [← hr]
      simp (disch := omega) only [f_X8_count_4, l_8, n_le, Nat.le_refl, ↓reduceIte]
    · have c2 : ¬ 8 ≤ j := by omega
      have e := (h j (by omega)).1
      have hz := hsz j (by omega)
      cases c3 : gone j
      · have e2 : rowN gone j + 1 = rowN gone (j + 1) := by rw [rowN, c3]; rfl
        rw [c3] at e
        have nn : ¬ nI (size j) < nI 0 := n_nn (by omega)
        simp (disch := omega) only [f_X8_count_4, l_8, l_0, l_1, n_le, c2, n_ix, ing_ok, e, Bool.false_eq_true, nn, ↓reduceIte, lt_eq, n_add, e2]
        exact ih (j + 1) (by omega) (by omega)
      · have e2 : rowN gone j = rowN gone (j + 1) := by rw [rowN, c3]; rfl
        rw [c3] at e
        have nn : (-1 : Int32) < nI 0 := by decide
        simp (disch := omega) only [f_X8_count_4, l_8, l_0, l_1, n_le, c2, n_ix, ing_ok, e, nn, ↓reduceIte, lt_eq, n_add, Nat.add_zero]
        rw [e2]
        exact ih (j + 1) (by omega) (by omega)
theorem mcount {σ : Mem} {p : Int32} {s : Sys} {r : Option (Int32 × Mem)} (h : MI σ s) (hs : SysOk s) (hr : f_X8_count_4 p 1 (nI (rowN s.gone 8)) (nI 8) σ = r) : f_X8_count p σ = r := by
  unfold f_X8_count
  rw [lt_eq, lt_eq, l_0]
  exact mcount_4 h.m6 (fun r hr => (hs.or r hr).2) hr FU 0 (by omega) (by rw [FU_eq]; omega)
theorem both_count (p : Int32) : BOTH (f_X7_count p) (f_X8_count p) := by
  intro s hs
  have h8 := hs.og.1.1
  have hb := hs.og.1
  have hst := standG_lt hb
  by_cases c : rng p 0 7
  · obtain ⟨k, rfl, -, hk⟩ := c
    rcases (by omega : k = 0 ∨ k = 1 ∨ k = 2 ∨ k = 3 ∨ k = 4 ∨ k = 5 ∨ k = 6 ∨ k = 7) with rfl | rfl | rfl | rfl | rfl | rfl | rfl | rfl
    · refine ⟨nI (rowN s.gone 8), s, hs, XS.rf fun σ hc => ?_, MS.rf fun σ hm => mcount hm hs ?_⟩
      · simp (disch := omega) only [f_X7_count, sw0, xrows hc.c6, bd2_some]
      · simp (disch := omega) only [f_X8_count_4, l_8, Nat.le_refl, n_le, ↓reduceIte, sw0]
    · refine ⟨nI (s.g 0), s, hs, XS.rf fun σ hc => ?_, MS.rf fun σ hm => mcount hm hs ?_⟩
      · simp (disch := omega) only [f_X7_count, sw0, hc.c1.1.1]
      · simp (disch := omega) only [f_X8_count_4, l_8, Nat.le_refl, n_le, ↓reduceIte, sw0, l_0, n_ix, ing_ok, hm.m1.1.1]
    · refine ⟨nI (s.g 3), s, hs, XS.rf fun σ hc => ?_, MS.rf fun σ hm => mcount hm hs ?_⟩
      · simp (disch := omega) only [f_X7_count, sw0, hc.c1.1.2.2.2.1]
      · simp (disch := omega) only [f_X8_count_4, l_8, Nat.le_refl, n_le, ↓reduceIte, sw0, l_3, n_ix, ing_ok, hm.m1.1.2.2.2.1]
    · refine ⟨nI (popc (standG s.g)), s, hs, XS.rf fun σ hc => ?_, MS.rf fun σ hm => mcount hm hs ?_⟩
      · simp (disch := omega) only [f_X7_count, sw0, xstanding hc.c1 hb, bd2_some, xones]
      · simp (disch := omega) only [f_X8_count_4, l_8, Nat.le_refl, n_le, ↓reduceIte, sw0, mstanding hm.m1 hb, bd2_some, mones]
    · refine ⟨nI (sumG s.g (s.g 0)), s, hs, XS.rf fun σ hc => ?_, MS.rf fun σ hm => mcount hm hs ?_⟩
      · simp (disch := omega) only [f_X7_count, sw0, xallSpin hc.c1 hb, bd2_some]
      · simp (disch := omega) only [f_X8_count_4, l_8, l_0, l_1, Nat.le_refl, n_le, ↓reduceIte, sw0, mallSpin hm.m1 hb, bd2_some]
    · refine ⟨nI (s.g 4), s, hs, XS.rf fun σ hc => ?_, MS.rf fun σ hm => mcount hm hs ?_⟩
      · simp (disch := omega) only [f_X7_count, sw0, hc.c1.1.2.2.2.2]
      · simp (disch := omega) only [f_X8_count_4, l_8, Nat.le_refl, n_le, ↓reduceIte, sw0, l_4, n_ix, ing_ok, hm.m1.1.2.2.2.2]
    · refine ⟨nI s.m, s, hs, XS.rf fun σ hc => ?_, MS.rf fun σ hm => mcount hm hs ?_⟩
      · obtain ⟨o, -, -, e, -⟩ := hc.c2
        simp (disch := omega) only [f_X7_count, sw0, e]
      · simp (disch := omega) only [f_X8_count_4, l_8, Nat.le_refl, n_le, ↓reduceIte, sw0, hm.m2.1]
    · refine ⟨nI s.tl, s, hs, XS.rf fun σ hc => ?_, MS.rf fun σ hm => mcount hm hs ?_⟩
      · simp (disch := omega) only [f_X7_count, sw0, hc.c4.1]
      · simp (disch := omega) only [f_X8_count_4, l_8, Nat.le_refl, n_le, ↓reduceIte, sw0, hm.m4.1]
  · refine ⟨-1000001, s, hs, XS.rf fun σ hc => ?_, MS.rf fun σ hm => mcount hm hs ?_⟩
    · simp (disch := omega) only [f_X7_count, sw0_out c rfl]
    · simp (disch := omega) only [f_X8_count_4, l_8, Nat.le_refl, n_le, ↓reduceIte, sw0_out c rfl]
/-- one more byte -/
def putT (tp : Nat → Int32) (k : Nat) (x : Int32) : Nat → Int32 := fun j => if j = k then x else tp j
theorem both_feed (p : Int32) : BOTH (f_X7_feed p) (f_X8_feed p) := by
  intro s hs
  have ht := hs.ot
  have d := Classical.propDecidable (rng p 0 255)
  have hx : ∀ σ, f_X7_within p (nI 0) 255 σ = some (if rng p 0 255 then nI 1 else nI 0, σ) := fun σ => xin_rng (a := 0) (b := 255) (by decide) (by decide)
  have hy : ∀ σ, f_X8_in p.toInt64 0 255 σ = some (if rng p 0 255 then nI 1 else nI 0, σ) := fun σ => min_rng (a := 0) (b := 255) rfl rfl (by decide)
  by_cases c : rng p 0 255
  · by_cases c1 : s.tl = 100
    · refine ⟨-1000003, s, hs, XS.rf fun σ hc => ?_, MS.rf fun σ hm => ?_⟩
      · have e := hc.c4.1
        have q : ¬ nI s.tl < (100 : Int32) := by rw [c1]; decide
        simp (disch := omega) only [f_X7_feed, hx, c, bd2_some, l_0, n_eq, ↓reduceIte, Nat.reduceEqDiff, e, q]
      · have e := hm.m4.1
        rw [c1] at e
        have q : nI 100 = (100 : Int32) := rfl
        simp (disch := omega) only [f_X8_feed, hy, c, bd2_some, l_0, n_eq, ↓reduceIte, Nat.reduceEqDiff, e, q]
    · refine ⟨nI (s.tl + 1), (s.w_tl (s.tl + 1)).w_tp (putT s.tp s.tl p), ?_, fun σ hc => ⟨st2 (st2 σ 7 s.tl p) 2 1 (nI (s.tl + 1)), ?_, ?_, ?_⟩, fun σ hm => ⟨st2 (st2 σ 189 s.tl p) 183 8 (nI (s.tl + 1)), ?_, ?_, ?_⟩⟩
      · refine ⟨hs.og, hs.om, hs.oa, hs.om1, hs.oi, by show s.tl + 1 ≤ 100; omega, fun k hk => ?_, hs.or, hs.on⟩
        have hk' : k < s.tl + 1 := hk
        show rng (putT s.tp s.tl p k) 0 255
        unfold putT
        by_cases c2 : k = s.tl
        · rw [if_pos c2]; exact c
        · rw [if_neg c2]; exact hs.otp k (by omega)
      · have e := hc.c4.1
        have q : nI s.tl < (100 : Int32) := (n_lt (b := 100) (by omega) (by decide)).mpr (by omega)
        simp (disch := omega) only [f_X7_feed, f_X6_add, hx, c, bd2_some, l_0, l_1, n_eq, ↓reduceIte, Nat.reduceEqDiff, e, q, n_ix, ing_ok, lt_eq, st2_a, n_add, st2_at]
      · refine ⟨hc.c1.fr fun a h1 h2 => ?_, hc.c2.fr fun a h1 h2 => ?_, hc.c3.fr fun a h1 h2 => ?_, ⟨st2_at, fun k hk => ?_⟩, hc.c5.fr ?_ (by rw [st2_row (by omega), st2_row (by omega)]), hc.c6.fr fun a h1 h2 => ?_, hc.c7.fr ?_ ?_⟩
        · rw [st2_row (by omega), st2_row (by omega)]
        · rw [st2_row (by omega), st2_row (by omega)]
        · rw [st2_row (by omega), st2_row (by omega)]
        · have hk' : k < s.tl + 1 := hk
          rw [st2_a (by decide)]
          show _ = putT s.tp s.tl p k
          unfold putT
          by_cases c2 : k = s.tl
          · rw [if_pos c2, c2, st2_at]
          · rw [if_neg c2, st2_k c2]
            exact hc.c4.2 k (by omega)
        · rw [st2_row (by omega), st2_row (by omega)]
        · rw [st2_row (by omega), st2_row (by omega)]
        · rw [st2_row (by omega), st2_row (by omega)]
        · rw [st2_row (by omega), st2_row (by omega)]
      · exact (Fr.st (S := fun a => a < 183) (by omega)).tr (Fr.st (S := fun a => a < 183) (by omega))
      · have e := hm.m4.1
        have q : ¬ nI s.tl = (100 : Int32) := fun h => c1 ((n_eq (b := 100) (by omega) (by decide)).mp h)
        simp (disch := omega) only [f_X8_feed, hy, c, bd2_some, l_0, l_1, n_eq, ↓reduceIte, Nat.reduceEqDiff, e, q, n_ix, ing_ok, lt_eq, st2_a, n_add, st2_at]
      · have e1 : ∀ a, a ≠ 183 → a ≠ 189 → st2 (st2 σ 189 s.tl p) 183 8 (nI (s.tl + 1)) a = σ a := fun a h1 h2 => by rw [st2_row h1, st2_row h2]
        have e2 : ∀ k, k ≠ 8 → st2 (st2 σ 189 s.tl p) 183 8 (nI (s.tl + 1)) 183 k = σ 183 k := fun k h1 => by rw [st2_k h1, st2_a (by decide)]
        refine ⟨hm.m1.fr (e1 187 (by omega) (by omega)), ?_, ⟨?_, fun i hi => ?_⟩, hm.m3.fr (e1 194 (by omega) (by omega)) (e1 195 (by omega) (by omega)), ⟨st2_at, fun k hk => ?_⟩, ⟨?_, ?_⟩, hm.m6.fr (e1 184 (by omega) (by omega)) (e1 185 (by omega) (by omega)) (e1 186 (by omega) (by omega)), ⟨?_, ?_⟩⟩
        · rw [e2 4 (by omega)]; exact hm.m1b
        · rw [e2 17 (by omega)]; exact hm.m2.1
        · rw [shm_eq (e1 191 (by omega) (by omega))]; exact hm.m2.2 i hi
        · have hk' : k < s.tl + 1 := hk
          rw [st2_a (by decide)]
          show _ = putT s.tp s.tl p k
          unfold putT
          by_cases c2 : k = s.tl
          · rw [if_pos c2, c2, st2_at]
          · rw [if_neg c2, st2_k c2]
            exact hm.m4.2 k (by omega)
        · rw [e2 9 (by omega)]; exact hm.m5.1
        · rw [e2 3 (by omega)]; exact hm.m5.2
        · rw [e2 23 (by omega)]; exact hm.m7.1
        · rw [e1 196 (by omega) (by omega)]; exact hm.m7.2
      · exact (Fr.st (S := fun a => 183 ≤ a) (by omega)).tr (Fr.st (S := fun a => 183 ≤ a) (by omega))
  · refine ⟨-1000001, s, hs, XS.rf fun σ hc => ?_, MS.rf fun σ hm => ?_⟩
    · simp (disch := omega) only [f_X7_feed, hx, c, bd2_some, l_0, ↓reduceIte]
    · simp (disch := omega) only [f_X8_feed, hy, c, bd2_some, l_0, ↓reduceIte]
