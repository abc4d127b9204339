/-! PURE, 40: round, on both sides -/
theorem big_nn {z : Int32} (h : ¬ z < nI 0) : ∃ a, z = nI a ∧ a < 2147483648 := nn_of h
theorem both_round (p q z : Int32) : BOTH (f_X7_round p q z) (f_X8_round p q z) := by
  intro s hs
  have h8 := hs.og.1.1
  have hb := hs.og.1
  have d := Classical.propDecidable (rng q 1 7)
  have hx : ∀ σ, f_X7_within q (nI 1) (nI 7) σ = some (if rng q 1 7 then nI 1 else nI 0, σ) := fun σ => xin_rng (by decide) (by decide)
  have hy : ∀ σ, f_X8_in q.toInt64 1 7 σ = some (if rng q 1 7 then nI 1 else nI 0, σ) := fun σ => min_rng (a := 1) (b := 7) rfl rfl (by decide)
  by_cases c0 : hous p (s.g 0)
  · obtain ⟨j, rfl, hj⟩ := c0
    by_cases c : rng q 1 7
    · have c' := c
      obtain ⟨n, rfl, hn1, hn⟩ := c'
      by_cases cz : (-2 : Int32) ≤ z
      · obtain ⟨w, hw⟩ := DW_some n s.g j 0 none hj
        obtain ⟨y, v, l⟩ := w
        have p3 := p3_le hn
        -- what the reference does
        have mall : ∀ σ, MI σ s → ∃ τ, f_X8_round (nI j) (nI n) z σ = (if 0 ≤ z then (f_X8_round_179 (nI j) (nI n) z FU (nI y) (nI (3 ^ n / 3)) (nI 0) τ) else if z = (-1 : Int32) then (some (nI v, τ)) else some (nI l, τ)) ∧ y < 3 ^ n ∧ RA τ 187 s.g ∧ Fr (fun a => a = 187 ∨ a = 192 ∨ a = 193) σ τ := fun σ hm => by
          obtain ⟨τ1, a1, a2, a3, a4⟩ := masi hm hs
          obtain ⟨τ2, m5, m6, m7, b1, b2, b3, b4⟩ := mround_69 (p3 := z) (m5 := nI 0) (m6 := -1) (m7 := nI 0) hb hj hn FU 0 τ1 a2 a3 ⟨rfl, rfl, rfl⟩ (Nat.zero_le _) (by rw [FU_eq]; omega)
          rw [← DW_RB, hw] at b2
          obtain ⟨q1, q2, q3, q4, q5, q6⟩ := b2
          refine ⟨τ2, ?_, q4, b3, a4.tr b4⟩
          have w35 := mround_35 (p1 := nI j) (p3 := z) hn a1 FU 0 (Nat.zero_le _) (by rw [FU_eq]; omega)
          rw [Nat.pow_zero] at w35
          rw [f_X8_round, mhouse_y hs hj hm, bd2_some, if_neg (by decide), hy, if_pos c, bd2_some, if_neg (by decide), if_pos cz, lt_eq, lt_eq]
          refine Eq.trans w35 ?_
          rw [b1, q1, q2, q3]
        have xall : ∀ σ, CI σ s → z < nI n → ∃ τ, f_X7_round (nI j) (nI n) z σ = (if z = (-1 : Int32) then (some (nI v, τ)) else if z = (-2 : Int32) then (some (nI l, τ)) else ing z 7 <| some (τ 124 z.toNatClampNeg, τ)) ∧ (∀ k, k < n → τ 124 k = nI (y / 3 ^ (n - 1 - k) % 3)) ∧ Fr (fun a => 111 ≤ a ∧ a ≤ 156) σ τ := fun σ hc hz => by
          obtain ⟨τ, t1, t2, t3⟩ := xsearch hc hs hn hj
          rw [hw] at t2
          obtain ⟨q1, q2, q3, q4, q5⟩ := t2
          refine ⟨τ, ?_, q5, t3⟩
          rw [f_X7_round, xhouse_y hs hj hc, bd2_some, if_neg (by decide), l_1, l_7, hx, if_pos c, bd2_some, if_neg (by decide), if_pos cz, if_pos hz, t1, bd_some, q1, q2]
        by_cases z0 : z < nI 0
        · have zn : z < nI n := by
            rw [Int32.lt_iff_toInt_lt, n_int (by omega)] at z0 ⊢
            omega
          have z0' : ¬ (0 : Int32) ≤ z := by
            rw [Int32.lt_iff_toInt_lt, n_int (by omega)] at z0
            rw [Int32.le_iff_toInt_le, show (0 : Int32).toInt = 0 from rfl]
            omega
          have z12 : z = -1 ∨ z = -2 := by
            rw [Int32.lt_iff_toInt_lt, n_int (by omega)] at z0
            rw [Int32.le_iff_toInt_le, show (-2 : Int32).toInt = -2 by decide] at cz
            rcases (by omega : z.toInt = -1 ∨ z.toInt = -2) with e | e
            · exact Or.inl (Int32.toInt_inj.mp (by rw [e]; decide))
            · exact Or.inr (Int32.toInt_inj.mp (by rw [e]; decide))
          rcases z12 with z1 | z2
          · refine ⟨nI v, s, hs, XT.xs fun σ hc => ?_, MT.ms fun σ hm => ?_⟩
            · obtain ⟨τ, t1, -, t3⟩ := xall σ hc zn
              exact ⟨τ, by rw [t1, if_pos z1], t3⟩
            · obtain ⟨τ, t1, -, t3, t4⟩ := mall σ hm
              exact ⟨τ, by rw [t1, if_neg z0', if_pos z1], t3, t4⟩
          · have z1 : ¬ z = -1 := by rw [z2]; decide
            refine ⟨nI l, s, hs, XT.xs fun σ hc => ?_, MT.ms fun σ hm => ?_⟩
            · obtain ⟨τ, t1, -, t3⟩ := xall σ hc zn
              exact ⟨τ, by rw [t1, if_neg z1, if_pos z2], t3⟩
            · obtain ⟨τ, t1, -, t3, t4⟩ := mall σ hm
              exact ⟨τ, by rw [t1, if_neg z0', if_neg z1], t3, t4⟩
        · obtain ⟨k, rfl, hk⟩ := nn_of z0
          have zp : (0 : Int32) ≤ nI k := by rw [l_0, n_le (by omega) hk]; omega
          have z1 : ¬ nI k = -1 := by
            intro e
            have := congrArg Int32.toInt e
            rw [n_int hk, show (-1 : Int32).toInt = -1 by decide] at this
            omega
          have z2 : ¬ nI k = -2 := by
            intro e
            have := congrArg Int32.toInt e
            rw [n_int hk, show (-2 : Int32).toInt = -2 by decide] at this
            omega
          by_cases ck : k < n
          · refine ⟨nI (y / 3 ^ (n - 1 - k) % 3), s, hs, XT.xs fun σ hc => ?_, MT.ms fun σ hm => ?_⟩
            · obtain ⟨τ, t1, t2, t3⟩ := xall σ hc ((n_lt hk (by omega)).mpr ck)
              exact ⟨τ, by rw [t1, if_neg z1, if_neg z2, ing_ok (by omega) (by omega), n_ix (by omega), t2 k ck], t3⟩
            · obtain ⟨τ, t1, t2, t3, t4⟩ := mall σ hm
              have w := mround_179 (p1 := nI j) (σ := τ) hn ck t2 FU 0 (Nat.zero_le _) (by rw [FU_eq]; omega)
              rw [Nat.sub_zero, Nat.mod_eq_of_lt t2] at w
              exact ⟨τ, by rw [t1, if_pos zp, w], t3, t4⟩
          · refine ⟨-1000000, s, hs, XS.rf fun σ hc => ?_, MT.ms fun σ hm => ?_⟩
            · rw [f_X7_round, xhouse_y hs hj hc, bd2_some, if_neg (by decide), l_1, l_7, hx, if_pos c, bd2_some, if_neg (by decide), if_pos cz, if_neg (by rw [n_lt hk (by omega)]; exact ck)]
            · obtain ⟨τ, t1, t2, t3, t4⟩ := mall σ hm
              have w := mround_out (p1 := nI j) (σ := τ) hn (by omega) hk t2 FU 0 (Nat.zero_le _) (by rw [FU_eq]; omega)
              rw [Nat.sub_zero, Nat.mod_eq_of_lt t2] at w
              exact ⟨τ, by rw [t1, if_pos zp, w], t3, t4⟩
      · refine ⟨-1000001, s, hs, XS.rf fun σ hc => ?_, MS.rf fun σ hm => ?_⟩
        · rw [f_X7_round, xhouse_y hs hj hc, bd2_some, if_neg (by decide), l_1, l_7, hx, if_pos c, bd2_some, if_neg (by decide), if_neg cz]
        · rw [f_X8_round, mhouse_y hs hj hm, bd2_some, if_neg (by decide), hy, if_pos c, bd2_some, if_neg (by decide), if_neg cz]
    · refine ⟨-1000001, s, hs, XS.rf fun σ hc => ?_, MS.rf fun σ hm => ?_⟩
      · rw [f_X7_round, xhouse_y hs hj hc, bd2_some, if_neg (by decide), l_1, l_7, hx, if_neg c, bd2_some, if_pos l_0.symm]
      · rw [f_X8_round, mhouse_y hs hj hm, bd2_some, if_neg (by decide), hy, if_neg c, bd2_some, if_pos l_0.symm]
  · refine ⟨-1000001, s, hs, XS.rf fun σ hc => ?_, MS.rf fun σ hm => ?_⟩
    · rw [f_X7_round, xhouse_n hs c0 hc, bd2_some, if_pos l_0.symm]
    · rw [f_X8_round, mhouse_n hs c0 hm, bd2_some, if_pos l_0.symm]
