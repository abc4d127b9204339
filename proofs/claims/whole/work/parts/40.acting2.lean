/-! PURE, 15: a lash, a house put up, an act taken back -/
theorem both_lash (p : Int32) : BOTH (f_X7_lash p) (f_X8_lash p) := by
  intro s hs
  have h8 := hs.og.1.1
  have hb := hs.og.1
  have h30 := hb.2.1
  by_cases c0 : hous p (s.g 0)
  · obtain ⟨j, rfl, hj⟩ := c0
    have h99 := (hb.2.2.2.2 j hj).2.2
    by_cases c : s.g (21 + j) = 0
    · refine ⟨-1000002, s, hs, XS.rf fun σ hc => ?_, MS.rf fun σ hm => ?_⟩
      · have e := (hc.c1.2 j hj).2.2
        rw [c] at e
        simp (disch := omega) only [f_X7_lash, xhouse_y hs hj hc, bd2_some, l_0, n_eq, n_ix, ing_ok, ↓reduceIte, Nat.reduceEqDiff, e]
      · have e := mstands hm.m1 hb hj
        rw [if_neg (by omega)] at e
        simp (disch := omega) only [f_X8_lash, mhouse_y hs hj hm, bd2_some, l_0, n_eq, ↓reduceIte, Nat.reduceEqDiff, e]
    · have ok := hs.note (by omega)
      refine ⟨nI (min 99 (s.g (21 + j) + s.g 1)), s.note.w_g (raiG s.g j (s.g 1)), ok.street ⟨rai_SB hb, ?_⟩ ?_, fun σ hc => ?_, fun σ hm => ?_⟩
      · unfold raiG
        rw [sp_ne (by omega)]
        exact hs.og.2
      · unfold raiG
        rw [sp_ne (by omega)]
        omega
      · have e := (hc.c1.2 j hj).2.2
        obtain ⟨τ1, a1, a2, a3⟩ := hc.keep hs
        have e1 : τ1 8 4 = nI (s.g 1) := a2.c1.1.2.1
        obtain ⟨b1, b2⟩ := xraise (v := s.g 1) a2.c1 ok.og.1 hj (by omega)
        obtain ⟨w1, w2⟩ := a2.street b2 ((Fr.st (S := fun a => 8 ≤ a ∧ a ≤ 11) (by omega)))
        refine ⟨_, ?_, w1, a3.tr w2⟩
        have b1' : f_X5_raise 8 (nI j) (nI (s.g 1)) τ1 = some (st2 τ1 (8 + 3) j (nI (min 99 (s.g (21 + j) + s.g 1)))) := b1
        simp (disch := omega) only [f_X7_lash, xhouse_y hs hj hc, bd2_some, l_0, n_eq, n_ix, ing_ok, ↓reduceIte, Nat.reduceEqDiff, e, c, a1, bd_some, e1, b1', st2_at]
        rfl
      · have e := mstands hm.m1 hb hj
        rw [if_pos (by omega)] at e
        obtain ⟨τ1, a1, a2, a3⟩ := hm.note hs
        have e1 : τ1 187 1 = nI (s.g 1) := a2.m1.1.2.1
        obtain ⟨b1, b2⟩ := mlashBy (v := s.g 1) a2.m1 ok.og.1 hj (by omega)
        have z : s.note.g 0 = 0 ↔ raiG s.note.g j (s.g 1) 0 = 0 := by
          unfold raiG
          rw [sp_ne (by omega)]
        obtain ⟨w1, w2⟩ := a2.street b2 z ((Fr.st (S := fun a => a = 187) rfl))
        refine ⟨_, ?_, w1, a3.tr w2⟩
        have b1' : f_X8_lashBy (nI j) (nI (s.g 1)) τ1 = some (st2 τ1 187 (21 + j) (nI (min 99 (s.g (21 + j) + s.g 1)))) := b1
        simp (disch := omega) only [f_X8_lash, mhouse_y hs hj hm, bd2_some, l_0, l_1, l_21, n_add, n_eq, n_ix, ing_ok, ↓reduceIte, Nat.reduceEqDiff, e, a1, bd_some, e1, b1', st2_at]
        rfl
  · refine ⟨-1000001, s, hs, XS.rf fun σ hc => ?_, MS.rf fun σ hm => ?_⟩
    · simp only [f_X7_lash, xhouse_n hs c0 hc, bd2_some, l_0, ↓reduceIte]
    · simp only [f_X8_lash, mhouse_n hs c0 hm, bd2_some, l_0, ↓reduceIte]
theorem both_putUp (p : Int32) : BOTH (f_X7_putUp p) (f_X8_putUp p) := by
  intro s hs
  have h8 := hs.og.1.1
  have hb := hs.og.1
  by_cases c0 : hous p (s.g 0)
  · obtain ⟨j, rfl, hj⟩ := c0
    have h99 := (hb.2.2.2.2 j hj).2.2
    by_cases c : s.g (21 + j) = 0
    · have ok := hs.note (by omega)
      have hb' : SB (sp s.g j 50) := hb.sp (by omega)
      refine ⟨nI (standG (sp s.g j 50)), s.note.w_g (sp s.g j 50), ok.street ⟨hb', ?_⟩ ?_, fun σ hc => ?_, fun σ hm => ?_⟩
      · rw [sp_ne (by omega)]
        exact hs.og.2
      · rw [sp_ne (by omega)]
        omega
      · have e := (hc.c1.2 j hj).2.2
        rw [c] at e
        obtain ⟨τ1, a1, a2, a3⟩ := hc.keep hs
        have b2 : RS (st2 τ1 (8 + 3) j (nI 50)) 8 (sp s.g j 50) := RS.sp a2.c1 h8
        obtain ⟨w1, w2⟩ := a2.street b2 ((Fr.st (S := fun a => 8 ≤ a ∧ a ≤ 11) (by omega)))
        refine ⟨_, ?_, w1, a3.tr w2⟩
        simp (disch := omega) only [f_X7_putUp, xhouse_y hs hj hc, bd2_some, l_0, l_50, n_eq, n_ix, ing_ok, ↓reduceIte, Nat.reduceEqDiff, e, a1, bd_some, lt_eq, xstanding b2 hb']
      · have e := mstands hm.m1 hb hj
        rw [if_neg (by omega)] at e
        obtain ⟨τ1, a1, a2, a3⟩ := hm.note hs
        have b2 : RA (st2 τ1 187 (21 + j) (nI 50)) 187 (sp s.g j 50) := RA.sp a2.m1 h8
        have z : s.note.g 0 = 0 ↔ sp s.g j 50 0 = 0 := by
          rw [sp_ne (by omega)]
          exact Iff.rfl
        obtain ⟨w1, w2⟩ := a2.street b2 z ((Fr.st (S := fun a => a = 187) rfl))
        refine ⟨_, ?_, w1, a3.tr w2⟩
        simp (disch := omega) only [f_X8_putUp, mhouse_y hs hj hm, bd2_some, l_0, l_21, l_50, n_add, n_eq, n_ix, ing_ok, ↓reduceIte, Nat.reduceEqDiff, e, a1, bd_some, lt_eq, mstanding b2 hb']
    · refine ⟨-1000002, s, hs, XS.rf fun σ hc => ?_, MS.rf fun σ hm => ?_⟩
      · have e := (hc.c1.2 j hj).2.2
        simp (disch := omega) only [f_X7_putUp, xhouse_y hs hj hc, bd2_some, l_0, n_eq, n_ix, ing_ok, ↓reduceIte, Nat.reduceEqDiff, e, c]
      · have e := mstands hm.m1 hb hj
        rw [if_pos (by omega)] at e
        simp (disch := omega) only [f_X8_putUp, mhouse_y hs hj hm, bd2_some, l_0, n_eq, ↓reduceIte, Nat.reduceEqDiff, e]
  · refine ⟨-1000001, s, hs, XS.rf fun σ hc => ?_, MS.rf fun σ hm => ?_⟩
    · simp only [f_X7_putUp, xhouse_n hs c0 hc, bd2_some, l_0, ↓reduceIte]
    · simp only [f_X8_putUp, mhouse_n hs c0 hm, bd2_some, l_0, ↓reduceIte]
