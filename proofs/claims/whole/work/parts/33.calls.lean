/-! PURE, 9: the calls that only tell -/
theorem sw0 {α : Type} {j n : Nat} {f : Nat → Option α} {g : Option α} (h : j < n) (hn : n < 2147483648) : swi (nI j) 0 n f g = f j := swi_in (lo := 0) (by omega) (by omega) (by omega)
theorem sw0_out {α : Type} {p : Int32} {n m : Nat} {f : Nat → Option α} {g : Option α} (h : ¬ rng p 0 m) (hn : n = m + 1) (hm : m < 2147483647) : swi p 0 n f g = g := by
  unfold swi
  rw [if_pos]
  rw [rng_int (by omega)] at h
  omega
theorem both_fault : BOTH f_X7_fault f_X8_fault := BOTH.rf (v := fun s => s.flt) (fun s hs σ hc => by unfold f_X7_fault; rw [hc.c5.1]) (fun s hs σ hm => by unfold f_X8_fault; rw [hm.m5.1])
theorem both_status : BOTH f_X7_status f_X8_status := BOTH.rf (v := fun s => s.sta) (fun s hs σ hc => by unfold f_X7_status; rw [hc.c5.2.1]) (fun s hs σ hm => by unfold f_X8_status; rw [hm.m5.2])
theorem xnoStreet {σ : Mem} {s : Sys} (h : CI σ s) (hs : SysOk s) : f_X7_noStreet σ = some (if s.g 0 = 0 then nI 1 else nI 0, σ) := by
  have h8 := hs.og.1.1
  by_cases c : s.g 0 = 0
  · simp only [f_X7_noStreet, h.c1.1.1, c, l_0, l_1, ↓reduceIte]
  · simp (disch := omega) only [f_X7_noStreet, h.c1.1.1, c, l_0, l_1, n_eq, ↓reduceIte]
theorem xhouse_y {s : Sys} {j : Nat} (hs : SysOk s) (hj : j < s.g 0) {σ : Mem} (h : CI σ s) : f_X7_isHouse (nI j) σ = some (nI 1, σ) := by
  have d := Classical.propDecidable (hous (nI j) (s.g 0))
  rw [xisHouse h.c1.1.1 hs.og.1, if_pos ⟨j, rfl, hj⟩]
theorem xhouse_n {s : Sys} {p : Int32} (hs : SysOk s) (hp : ¬ hous p (s.g 0)) {σ : Mem} (h : CI σ s) : f_X7_isHouse p σ = some (nI 0, σ) := by
  have d := Classical.propDecidable (hous p (s.g 0))
  rw [xisHouse h.c1.1.1 hs.og.1, if_neg hp]
theorem mhouse_y {s : Sys} {j : Nat} (hs : SysOk s) (hj : j < s.g 0) {σ : Mem} (h : MI σ s) : f_X8_isHouse (nI j) σ = some (nI 1, σ) := by
  have d := Classical.propDecidable (hous (nI j) (s.g 0))
  rw [misHouse h.m1.1.1 hs.og.1, if_pos ⟨j, rfl, hj⟩]
theorem mhouse_n {s : Sys} {p : Int32} (hs : SysOk s) (hp : ¬ hous p (s.g 0)) {σ : Mem} (h : MI σ s) : f_X8_isHouse p σ = some (nI 0, σ) := by
  have d := Classical.propDecidable (hous p (s.g 0))
  rw [misHouse h.m1.1.1 hs.og.1, if_neg hp]
theorem both_kind (p : Int32) : BOTH (f_X7_kind p) (f_X8_kind p) := by
  intro s hs
  have h8 := hs.og.1.1
  by_cases c : hous p (s.g 0)
  · obtain ⟨j, rfl, hj⟩ := c
    refine ⟨nI (s.g (5 + j)), s, hs, XS.rf fun σ hc => ?_, MS.rf fun σ hm => ?_⟩
    · have e := (hc.c1.2 j hj).1
      simp (disch := omega) only [f_X7_kind, xhouse_y hs hj hc, bd2_some, l_0, n_eq, n_ix, ing_ok, ↓reduceIte, Nat.reduceEqDiff, e]
    · have e := (hm.m1.2 j hj).1
      simp (disch := omega) only [f_X8_kind, mhouse_y hs hj hm, bd2_some, l_0, l_5, n_add, n_eq, n_ix, ing_ok, ↓reduceIte, Nat.reduceEqDiff, e]
  · refine ⟨-1000001, s, hs, XS.rf fun σ hc => ?_, MS.rf fun σ hm => ?_⟩
    · simp only [f_X7_kind, xhouse_n hs c hc, bd2_some, l_0, ↓reduceIte]
    · simp only [f_X8_kind, mhouse_n hs c hm, bd2_some, l_0, ↓reduceIte]
theorem both_stand (p : Int32) : BOTH (f_X7_stand p) (f_X8_stand p) := by
  intro s hs
  have h8 := hs.og.1.1
  have hb := hs.og.1
  by_cases c0 : s.g 0 = 0
  · refine ⟨-1000002, s, hs, XS.rf fun σ hc => ?_, MS.rf fun σ hm => ?_⟩
    · simp (disch := omega) only [f_X7_stand, xnoStreet hc hs, c0, bd2_some, l_0, n_eq, ↓reduceIte, Nat.reduceEqDiff]
    · have e := hm.m1b
      rw [if_pos c0] at e
      simp (disch := omega) only [f_X8_stand, e, l_0, ↓reduceIte]
  · by_cases c : rng p 0 5
    · obtain ⟨k, rfl, -, hk⟩ := c
      have e1 : ∀ σ, MI σ s → σ 183 4 = nI 1 := fun σ hm => by rw [hm.m1b, if_neg c0]
      rcases (by omega : k = 0 ∨ k = 1 ∨ k = 2 ∨ k = 3 ∨ k = 4 ∨ k = 5) with rfl | rfl | rfl | rfl | rfl | rfl
      · refine ⟨nI (standG s.g), s, hs, XS.rf fun σ hc => ?_, MS.rf fun σ hm => ?_⟩
        · simp (disch := omega) only [f_X7_stand, xnoStreet hc hs, c0, bd2_some, l_0, ↓reduceIte, sw0, xstanding hc.c1 hb]
        · simp (disch := omega) only [f_X8_stand, e1 σ hm, bd2_some, l_0, n_eq, Nat.reduceEqDiff, ↓reduceIte, sw0, mstanding hm.m1 hb]
      · refine ⟨nI (leanG s.g), s, hs, XS.rf fun σ hc => ?_, MS.rf fun σ hm => ?_⟩
        · simp (disch := omega) only [f_X7_stand, xnoStreet hc hs, c0, bd2_some, l_0, ↓reduceIte, sw0, xleaning hc.c1 hb]
        · simp (disch := omega) only [f_X8_stand, e1 σ hm, bd2_some, l_0, n_eq, Nat.reduceEqDiff, ↓reduceIte, sw0, mleaning hm.m1 hb]
      · refine ⟨nI (s.g 4), s, hs, XS.rf fun σ hc => ?_, MS.rf fun σ hm => ?_⟩
        · simp (disch := omega) only [f_X7_stand, xnoStreet hc hs, c0, bd2_some, l_0, ↓reduceIte, sw0, hc.c1.1.2.2.2.2]
        · simp (disch := omega) only [f_X8_stand, e1 σ hm, bd2_some, l_0, l_4, n_ix, ing_ok, n_eq, Nat.reduceEqDiff, ↓reduceIte, sw0, hm.m1.1.2.2.2.2]
      · refine ⟨nI (sumG s.g (s.g 0)), s, hs, XS.rf fun σ hc => ?_, MS.rf fun σ hm => ?_⟩
        · simp (disch := omega) only [f_X7_stand, xnoStreet hc hs, c0, bd2_some, l_0, ↓reduceIte, sw0, xallSpin hc.c1 hb]
        · simp (disch := omega) only [f_X8_stand, e1 σ hm, bd2_some, l_0, l_1, n_eq, Nat.reduceEqDiff, ↓reduceIte, sw0, mallSpin hm.m1 hb]
      · refine ⟨nI (s.g 1), s, hs, XS.rf fun σ hc => ?_, MS.rf fun σ hm => ?_⟩
        · simp (disch := omega) only [f_X7_stand, xnoStreet hc hs, c0, bd2_some, l_0, ↓reduceIte, sw0, hc.c1.1.2.1]
        · simp (disch := omega) only [f_X8_stand, e1 σ hm, bd2_some, l_0, l_1, n_ix, ing_ok, n_eq, Nat.reduceEqDiff, ↓reduceIte, sw0, hm.m1.1.2.1]
      · refine ⟨nI (s.g 2), s, hs, XS.rf fun σ hc => ?_, MS.rf fun σ hm => ?_⟩
        · simp (disch := omega) only [f_X7_stand, xnoStreet hc hs, c0, bd2_some, l_0, ↓reduceIte, sw0, hc.c1.1.2.2.1]
        · simp (disch := omega) only [f_X8_stand, e1 σ hm, bd2_some, l_0, l_2, n_ix, ing_ok, n_eq, Nat.reduceEqDiff, ↓reduceIte, sw0, hm.m1.1.2.2.1]
    · refine ⟨-1000001, s, hs, XS.rf fun σ hc => ?_, MS.rf fun σ hm => ?_⟩
      · simp (disch := omega) only [f_X7_stand, xnoStreet hc hs, c0, bd2_some, l_0, ↓reduceIte, sw0_out c rfl]
      · have e := hm.m1b
        rw [if_neg c0] at e
        simp (disch := omega) only [f_X8_stand, e, l_0, n_eq, Nat.reduceEqDiff, ↓reduceIte, sw0_out c rfl]
