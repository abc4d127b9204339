/-! PURE, 21: a row made -/
theorem both_row (p q z : Int32) : BOTH (f_X7_row p q z) (f_X8_row p q z) := by
  intro s hs
  have d := Classical.propDecidable (rng p 0 7)
  have d2 := Classical.propDecidable (rng q 0 2)
  have hx : ∀ σ, f_X7_within q (nI 0) (nI 2) σ = some (if rng q 0 2 then nI 1 else nI 0, σ) := fun σ => xin_rng (by decide) (by decide)
  have hy : ∀ σ, f_X8_in q.toInt64 0 2 σ = some (if rng q 0 2 then nI 1 else nI 0, σ) := fun σ => min_rng (a := 0) (b := 2) rfl rfl (by decide)
  by_cases c : rng p 0 7
  · by_cases cq : rng q 0 2
    · by_cases c40 : z ≤ nI 40
      · by_cases c0 : nI 0 ≤ z
        · have cz : rng z 0 40 := by
            rw [rng_int (by decide)]
            rw [Int32.le_iff_toInt_le, n_int (by decide)] at c40 c0
            exact ⟨c0, c40⟩
          have c' := c
          obtain ⟨i, rfl, -, hi⟩ := c'
          have cq' := cq
          obtain ⟨k, rfl, -, hk⟩ := cq'
          obtain ⟨v, rfl, -, hv⟩ := cz
          refine ⟨nI v, (s.w_rows (putB s.gone i false) (putB s.lane i k) (putB s.size i v) (putB s.item i (fun _ => nI 0))).w_sta 0, SysOk.sta (hs.rows fun r hr => ?_), fun σ hc => ?_, fun σ hm => ?_⟩
          · by_cases e : r = i
            · rw [e, putB_at, putB_at]; exact ⟨hk, hv⟩
            · rw [putB_ne e, putB_ne e]; exact hs.or r hr
          · obtain ⟨τ, t1, t2, -, t4⟩ := xmake_17 (b := 159 + 2 * i) (p := nI k) (q := nI v) FU 0 (st2 (st2 (st2 σ (159 + 2 * i) 1 (nI 0)) (159 + 2 * i) 2 (nI k)) (159 + 2 * i) 3 (nI v)) (by omega) (by rw [FU_eq]; omega)
            have e0 : ∀ a, a ≠ 159 + 2 * i → a ≠ 160 + 2 * i → τ a = σ a := fun a h5 h6 => by
              rw [t4 a (by omega), st2_row h5, st2_row h5, st2_row h5]
            have eb := t4 (159 + 2 * i) (by omega)
            have h6 : C6 τ (putB s.gone i false) (putB s.lane i k) (putB s.size i v) (putB s.item i (fun _ => nI 0)) := by
              intro r hr
              by_cases e : r = i
              · subst e
                rw [putB_at, putB_at, putB_at, putB_at]
                refine ⟨?_, fun _ => ⟨?_, ?_, fun w hw => ?_⟩⟩
                · rw [eb, st2_k (by omega), st2_k (by omega), st2_at]
                  rfl
                · rw [eb, st2_k (by omega), st2_at]
                · rw [eb, st2_at]
                · have := t2 w (by omega) hw
                  rw [show 159 + 2 * r + 1 = 160 + 2 * r by omega] at this
                  exact this
              · rw [putB_ne e, putB_ne e, putB_ne e, putB_ne e, e0 (159 + 2 * r) (by omega) (by omega), e0 (160 + 2 * r) (by omega) (by omega)]
                exact hc.c6 r hr
            obtain ⟨w1, w2⟩ := hc.rows h6 fun a ha => e0 a (by omega) (by omega)
            obtain ⟨υ, u1, u2, u3⟩ := xfine (p := nI v) w1
            refine ⟨υ, ?_, u2, w2.tr u3⟩
            have tm : f_X4_make (159 + 2 * i) (nI k) (nI v) σ = some τ := by
              unfold f_X4_make
              rw [lt_eq, lt_eq, lt_eq, lt_eq, l_0]
              exact t1
            clear t1
            simp (disch := omega) only [f_X7_row, xisRow, c, bd2_some, l_0, l_2, l_40, hx, cq, n_eq, ↓reduceIte, Nat.reduceEqDiff, c40, c0, n_ix, ing_ok, tm, bd_some, u1]
          · obtain ⟨τ, t1, t2, t3, t4⟩ := mrow_55 (i := i) (q := nI k) (z := nI v) (by omega) FU 0 (st2 (st2 σ 184 i (nI k)) 185 i (nI v)) (by omega) (by rw [FU_eq]; omega)
            have e184 : ∀ r, τ 184 r = st2 σ 184 i (nI k) 184 r := fun r => by rw [t4 184 (by omega), st2_a (by omega)]
            have e185 : ∀ r, τ 185 r = st2 (st2 σ 184 i (nI k)) 185 i (nI v) 185 r := fun r => by rw [t4 185 (by omega)]
            have e186 : ∀ r, (r < 40 * i ∨ 40 * i + 40 ≤ r) → τ 186 r = σ 186 r := fun r hr => by rw [t3 r (by omega), st2_a (by omega), st2_a (by omega)]
            have h6 : R6 τ (putB s.gone i false) (putB s.lane i k) (putB s.size i v) (putB s.item i (fun _ => nI 0)) := by
              intro r hr
              by_cases e : r = i
              · subst e
                rw [putB_at, putB_at, putB_at, putB_at]
                refine ⟨?_, fun _ => ⟨?_, fun w hw => t2 w (by omega) hw⟩⟩
                · rw [e185, st2_at]
                  rfl
                · rw [e184, st2_at]
              · rw [putB_ne e, putB_ne e, putB_ne e, putB_ne e, e184, e185, st2_k e, st2_k e, st2_a (by omega)]
                refine ⟨(hm.m6 r hr).1, fun hg => ⟨((hm.m6 r hr).2 hg).1, fun w hw => ?_⟩⟩
                rw [e186 _ (by omega)]
                exact ((hm.m6 r hr).2 hg).2 w hw
            obtain ⟨w1, w2⟩ := hm.rows h6 fun a ha _ => by rw [t4 a (by omega), st2_row (by omega), st2_row (by omega)]
            obtain ⟨υ, u1, u2, u3⟩ := mwell (p := nI v) w1
            refine ⟨υ, ?_, u2, w2.tr u3⟩
            have c0' : (0 : Int32) ≤ nI v := c0
            unfold f_X8_row
            rw [misRow, if_pos c, bd2_some, if_neg (by decide), hy, if_pos cq, bd2_some, if_neg (by decide), l_40, if_pos c40, if_pos c0', ing_ok (by omega) (by decide), lt_eq, ing_ok (by omega) (by decide), lt_eq, lt_eq, n_ix (by omega), l_0, t1, u1, bd2_some]
        · refine ⟨-1000010 - 4, s.w_sta 4, hs.sta, fun σ hc => ?_, fun σ hm => ?_⟩
          · obtain ⟨τ, t1, t2⟩ := xfound (p := 4) hc
            refine ⟨τ, ?_, t2⟩
            simp (disch := omega) only [f_X7_row, xisRow, c, bd2_some, l_0, l_2, l_40, hx, cq, n_eq, ↓reduceIte, Nat.reduceEqDiff, c40, c0, t1]
          · obtain ⟨τ, t1, t2⟩ := mfind (p := 4) hm
            refine ⟨τ, ?_, t2⟩
            simp (disch := omega) only [f_X8_row, misRow, c, bd2_some, l_0, l_40, hy, cq, n_eq, ↓reduceIte, Nat.reduceEqDiff, c40, c0, t1]
      · refine ⟨-1000001, s, hs, XS.rf fun σ hc => ?_, MS.rf fun σ hm => ?_⟩
        · simp (disch := omega) only [f_X7_row, xisRow, c, bd2_some, l_0, l_2, l_40, hx, cq, n_eq, ↓reduceIte, Nat.reduceEqDiff, c40]
        · simp (disch := omega) only [f_X8_row, misRow, c, bd2_some, l_0, l_40, hy, cq, n_eq, ↓reduceIte, Nat.reduceEqDiff, c40]
    · refine ⟨-1000001, s, hs, XS.rf fun σ hc => ?_, MS.rf fun σ hm => ?_⟩
      · simp (disch := omega) only [f_X7_row, xisRow, c, bd2_some, l_0, l_2, hx, cq, n_eq, ↓reduceIte, Nat.reduceEqDiff]
      · simp (disch := omega) only [f_X8_row, misRow, c, bd2_some, l_0, hy, cq, n_eq, ↓reduceIte, Nat.reduceEqDiff]
  · refine ⟨-1000001, s, hs, XS.rf fun σ hc => ?_, MS.rf fun σ hm => ?_⟩
    · simp (disch := omega) only [f_X7_row, xisRow, c, bd2_some, l_0, ↓reduceIte]
    · simp (disch := omega) only [f_X8_row, misRow, c, bd2_some, l_0, ↓reduceIte]
