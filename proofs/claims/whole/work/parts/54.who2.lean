/-! PURE, 29: who, on both sides -/
theorem span_of {p : Int32} {n z : Nat} (h : span p (nI n) z) (hz : z ≤ 40) (hn : n < 2147483648) : ∃ a, p = nI a ∧ a + n ≤ z := by
  obtain ⟨a, b, rfl, hb, hab⟩ := h
  have := (n_eq (a := n) (b := b) hn (by omega)).mp hb
  exact ⟨a, rfl, by omega⟩
def whoV (g : Nat → Nat) (i w n : Nat) (hum : Nat → Int32) : Int32 := if w = 0 then bitsF (kdF g i hum n) one1 5 else if w = 1 then bitsF (rbF g i hum n) one1 9 else spsV (spsF (spF g i hum n) 100) w
theorem mfinish {σ τ : Mem} {s : Sys} {v : Int32} (hm : MI σ s) (hR : RA τ 187 s.g) (hF : Fr (fun a => a = 187 ∨ a = 192 ∨ a = 193) σ τ) : ∃ υ, (bd2 (f_X8_well v τ) fun x8 s9 => some (x8, s9)) = some (v, υ) ∧ MI υ (s.w_sta 0) ∧ Fr (fun a => 183 ≤ a) σ υ := by
  obtain ⟨υ, u1, u2, u3⟩ := mwell (p := v) (hm.bk hR hF)
  exact ⟨υ, by rw [u1, bd2_some], u2, (hF.le fun a ha => by omega).tr u3⟩
theorem both_who (p q x y z : Int32) : BOTH (f_X7_who p q x y z) (f_X8_who p q x y z) := by
  intro s hs
  have h8 := hs.og.1.1
  have hb := hs.og.1
  have d1 := Classical.propDecidable (rng q 0 4)
  have d2 := Classical.propDecidable (rng x 0 7)
  have d3 := Classical.propDecidable (rng z 1 12)
  have hx1 : ∀ σ, f_X7_within q (nI 0) (nI 4) σ = some (if rng q 0 4 then nI 1 else nI 0, σ) := fun σ => xin_rng (by decide) (by decide)
  have hy1 : ∀ σ, f_X8_in q.toInt64 0 4 σ = some (if rng q 0 4 then nI 1 else nI 0, σ) := fun σ => min_rng (a := 0) (b := 4) rfl rfl (by decide)
  have hx3 : ∀ σ, f_X7_within z (nI 1) (nI 12) σ = some (if rng z 1 12 then nI 1 else nI 0, σ) := fun σ => xin_rng (by decide) (by decide)
  have hy3 : ∀ σ, f_X8_in z.toInt64 1 12 σ = some (if rng z 1 12 then nI 1 else nI 0, σ) := fun σ => min_rng (a := 1) (b := 12) rfl rfl (by decide)
  have ng : ∀ σ, f_X8_who_54 p q x y z (-1000001) σ = some (-1000001, σ) := fun σ => by
    rw [f_X8_who_54, lt_eq, if_neg (by decide)]
  by_cases c0 : hous p (s.g 0)
  · obtain ⟨i, rfl, hi⟩ := c0
    by_cases c1 : rng q 0 4
    · by_cases c2 : rng x 0 7
      · by_cases c3 : rng z 1 12
        · have c1' := c1
          obtain ⟨w, rfl, -, hw⟩ := c1'
          have c2' := c2
          obtain ⟨r, rfl, -, hr⟩ := c2'
          have c3' := c3
          obtain ⟨n, rfl, hn1, hn⟩ := c3'
          have hr8 : r < 8 := by omega
          have hz := (hs.or r hr8).2
          cases cg : s.gone r
          · by_cases cs : span y (nI n) (s.size r)
            · obtain ⟨a, rfl, ha⟩ := span_of cs hz (by omega)
              refine ⟨whoV s.g i w n (fun k => s.item r (a + k)), s.w_sta 0, hs.sta, fun σ hc => ?_, fun σ hm => ?_⟩
              · have u1 := xspan_y hc hs hr8 cg cs
                obtain ⟨τ, t1, t2, t3⟩ := xlisten hc hr8 cg (show a + n ≤ 40 by omega) hn
                have hc' := hc.fo t3
                unfold whoV
                by_cases w0 : w = 0
                · subst w0
                  obtain ⟨υ, v1, v2⟩ := xkinds_5 hs hi hn FU 0 τ hc' t2 (Nat.zero_le _) (by rw [FU_eq]; omega)
                  obtain ⟨φ, f1, f2, f3⟩ := xfine (p := bitsF (kdF s.g i (fun k => s.item r (a + k)) n) one1 5) (hc'.fo (fr45 v2))
                  refine ⟨φ, ?_, f2, (t3.tr (fr45 v2)).le (fun a ha => by omega) |>.tr f3⟩
                  have w1 : f_X2_kindsHeard 8 (nI i) τ = some (bitsF (kdF s.g i (fun k => s.item r (a + k)) n) one1 5, υ) := by
                    unfold f_X2_kindsHeard
                    rw [lt_eq, lt_eq]
                    exact v1
                  simp (disch := omega) only [f_X7_who, xhouse_y hs hi hc, hx1, c1, xisRow, c2, hx3, c3, bd2_some, bd_some, l_0, l_1, l_4, l_12, n_eq, ↓reduceIte, Nat.reduceEqDiff, n_ix, ing_ok, u1, lt_eq, t1, w1, f1]
                · by_cases w1 : w = 1
                  · subst w1
                    obtain ⟨υ, v1, v2⟩ := xrubs_5 hs hi hn FU 0 τ hc' t2 (Nat.zero_le _) (by rw [FU_eq]; omega)
                    obtain ⟨φ, f1, f2, f3⟩ := xfine (p := bitsF (rbF s.g i (fun k => s.item r (a + k)) n) one1 9) (hc'.fo (fr45 v2))
                    refine ⟨φ, ?_, f2, (t3.tr (fr45 v2)).le (fun a ha => by omega) |>.tr f3⟩
                    have w1 : f_X2_rubsHeard 8 (nI i) τ = some (bitsF (rbF s.g i (fun k => s.item r (a + k)) n) one1 9, υ) := by
                      unfold f_X2_rubsHeard
                      rw [lt_eq, lt_eq]
                      exact v1
                    simp (disch := omega) only [f_X7_who, f_X7_who_140, xhouse_y hs hi hc, hx1, c1, xisRow, c2, hx3, c3, bd2_some, bd_some, l_0, l_1, l_4, l_12, n_eq, ↓reduceIte, Nat.reduceEqDiff, n_ix, ing_ok, u1, lt_eq, t1, w1, f1]
                  · obtain ⟨υ, v1, v2⟩ := xspins_14 hs hi hn hw FU 0 τ hc' t2 (Nat.zero_le _) (by rw [FU_eq]; omega)
                    obtain ⟨φ, f1, f2, f3⟩ := xfine (p := spsV (spsF (spF s.g i (fun k => s.item r (a + k)) n) 100) w) (hc'.fo (fr45 v2))
                    refine ⟨φ, ?_, f2, (t3.tr (fr45 v2)).le (fun a ha => by omega) |>.tr f3⟩
                    have w2 : f_X2_spinsHeard 8 (nI i) (nI w) τ = some (spsV (spsF (spF s.g i (fun k => s.item r (a + k)) n) 100) w, υ) := by
                      unfold f_X2_spinsHeard
                      rw [lt_eq, lt_eq, lt_eq, lt_eq]
                      exact v1
                    simp (disch := omega) only [f_X7_who, f_X7_who_140, xhouse_y hs hi hc, hx1, c1, xisRow, c2, hx3, c3, bd2_some, bd_some, l_0, l_1, l_4, l_12, n_eq, ↓reduceIte, Nat.reduceEqDiff, n_ix, ing_ok, u1, lt_eq, t1, w0, w1, w2, f1]
              · have u1 := mlacks_y hm hs hr8 cg hn cs
                obtain ⟨τ1, a1, a2, a3, a4⟩ := masi hm hs
                have hI : ∀ k, k < n → τ1 186 (40 * r + a + k) = s.item r (a + k) := fun k hk => by
                  rw [a4 186 (by omega), Nat.add_assoc]
                  exact ((hm.m6 r hr8).2 cg).2 (a + k) (by omega)
                have key : ∃ τ2, f_X8_who_54 (nI i) (nI w) (nI r) (nI a) (nI n) (nI 0) σ = (bd2 (f_X8_well (whoV s.g i w n (fun k => s.item r (a + k))) τ2) fun x8 s9 => some (x8, s9)) ∧ RA τ2 187 s.g ∧ Fr (fun a => a = 187) τ1 τ2 := by
                  unfold whoV
                  by_cases w0 : w = 0
                  · subst w0
                    obtain ⟨τ2, b1, b2, b3⟩ := mwho_k hb hi hn hr8 (show a + n ≤ 40 by omega) FU 0 τ1 a2 a3 hI (Nat.zero_le _) (by rw [FU_eq]; omega)
                    refine ⟨τ2, ?_, b2, b3⟩
                    rw [f_X8_who_54, lt_eq, if_pos (by decide), a1, bd_some, if_pos (by decide), if_pos (by decide), lt_eq, lt_eq, lt_eq, l_5, n_add]
                    exact b1
                  · by_cases w1 : w = 1
                    · subst w1
                      obtain ⟨τ2, b1, b2, b3⟩ := mwho_r hb hi hn hr8 (show a + n ≤ 40 by omega) FU 0 τ1 a2 a3 hI (Nat.zero_le _) (by rw [FU_eq]; omega)
                      refine ⟨τ2, ?_, b2, b3⟩
                      rw [f_X8_who_54, lt_eq, if_pos (by decide), a1, bd_some, if_pos (by decide), if_neg (by decide), lt_eq, lt_eq, lt_eq, l_13, n_add]
                      exact b1
                    · obtain ⟨τ2, b1, b2, b3⟩ := mspins_14 hb hi hn hr8 (show a + n ≤ 40 by omega) hw FU 0 τ1 a2 a3 hI (Nat.zero_le _) (by rw [FU_eq]; omega)
                      refine ⟨τ2, ?_, b2, b3⟩
                      have cw : ¬ nI w ≤ nI 1 := by rw [n_le (by omega) (by omega)]; omega
                      have e2 : f_X8_spinsBy (nI i) (nI w) (nI (40 * r + a)) (nI n) τ1 = (bd2 (f_X8_well (spsV (spsF (spF s.g i (fun k => s.item r (a + k)) n) 100) w) τ2) fun x8 s9 => some (x8, s9)) := by
                        unfold f_X8_spinsBy
                        rw [lt_eq, lt_eq, lt_eq, lt_eq]
                        exact b1
                      rw [f_X8_who_54, lt_eq, if_pos (by decide), a1, bd_some, l_1, if_neg cw, l_40, n_mul, n_add, e2, if_neg w0, if_neg w1]
                      rfl
                obtain ⟨τ2, k1, k2, k3⟩ := key
                obtain ⟨υ, v1, v2, v3⟩ := mfinish (v := whoV s.g i w n (fun k => s.item r (a + k))) hm k2 (a4.tr (k3.le fun a ha => by omega))
                refine ⟨υ, ?_, v2, v3⟩
                rw [f_X8_who, mhouse_y hs hi hm, bd2_some, if_neg (by decide), hy1, if_pos c1, bd2_some, if_neg (by decide), misRow, if_pos c2, bd2_some, if_neg (by decide), hy3, if_pos c3, bd2_some, if_neg (by decide), u1, bd2_some, k1]
                exact v1
            · refine ⟨-1000010 - nI 2, s.w_sta (nI 2), hs.sta, fun σ hc => ?_, fun σ hm => ?_⟩
              · have u1 := xspan_n hc hs hr8 cg cs
                obtain ⟨τ, t1, t2⟩ := xfound (p := nI 2) hc
                refine ⟨τ, ?_, t2⟩
                simp (disch := omega) only [f_X7_who, xhouse_y hs hi hc, hx1, c1, xisRow, c2, hx3, c3, bd2_some, l_0, l_1, l_4, l_12, n_eq, ↓reduceIte, Nat.reduceEqDiff, n_ix, ing_ok, u1, lt_eq, t1]
              · obtain ⟨τ, t1, t2⟩ := mlacks_n hm hs hr8 cg hn cs
                refine ⟨τ, ?_, t2⟩
                rw [f_X8_who, mhouse_y hs hi hm, bd2_some, if_neg (by decide), hy1, if_pos c1, bd2_some, if_neg (by decide), misRow, if_pos c2, bd2_some, if_neg (by decide), hy3, if_pos c3, bd2_some, if_neg (by decide), t1, bd2_some, f_X8_who_54, lt_eq, if_neg (by decide)]
          · refine ⟨-1000010 - nI 1, s.w_sta (nI 1), hs.sta, fun σ hc => ?_, fun σ hm => ?_⟩
            · have u1 := xspan_g (p := y) (q := nI n) hc hr8 cg
              obtain ⟨τ, t1, t2⟩ := xfound (p := nI 1) hc
              refine ⟨τ, ?_, t2⟩
              simp (disch := omega) only [f_X7_who, xhouse_y hs hi hc, hx1, c1, xisRow, c2, hx3, c3, bd2_some, l_0, l_1, l_4, l_12, n_eq, ↓reduceIte, Nat.reduceEqDiff, n_ix, ing_ok, u1, lt_eq, t1]
            · obtain ⟨τ, t1, t2⟩ := mlacks_g (p := y) (q := nI n) hm hr8 cg
              refine ⟨τ, ?_, t2⟩
              rw [f_X8_who, mhouse_y hs hi hm, bd2_some, if_neg (by decide), hy1, if_pos c1, bd2_some, if_neg (by decide), misRow, if_pos c2, bd2_some, if_neg (by decide), hy3, if_pos c3, bd2_some, if_neg (by decide), t1, bd2_some, f_X8_who_54, lt_eq, if_neg (by decide)]
        · refine ⟨-1000001, s, hs, XS.rf fun σ hc => ?_, MS.rf fun σ hm => ?_⟩
          · simp (disch := omega) only [f_X7_who, xhouse_y hs hi hc, hx1, c1, xisRow, c2, hx3, c3, bd2_some, l_0, l_1, l_4, l_12, n_eq, ↓reduceIte, Nat.reduceEqDiff]
          · rw [f_X8_who, mhouse_y hs hi hm, bd2_some, if_neg (by decide), hy1, if_pos c1, bd2_some, if_neg (by decide), misRow, if_pos c2, bd2_some, if_neg (by decide), hy3, if_neg c3, bd2_some, if_pos l_0.symm, ng]
      · refine ⟨-1000001, s, hs, XS.rf fun σ hc => ?_, MS.rf fun σ hm => ?_⟩
        · simp (disch := omega) only [f_X7_who, xhouse_y hs hi hc, hx1, c1, xisRow, c2, bd2_some, l_0, l_1, l_4, l_12, n_eq, ↓reduceIte, Nat.reduceEqDiff]
        · rw [f_X8_who, mhouse_y hs hi hm, bd2_some, if_neg (by decide), hy1, if_pos c1, bd2_some, if_neg (by decide), misRow, if_neg c2, bd2_some, if_pos l_0.symm, ng]
    · refine ⟨-1000001, s, hs, XS.rf fun σ hc => ?_, MS.rf fun σ hm => ?_⟩
      · simp (disch := omega) only [f_X7_who, xhouse_y hs hi hc, hx1, c1, bd2_some, l_0, l_1, l_4, l_12, n_eq, ↓reduceIte, Nat.reduceEqDiff]
      · rw [f_X8_who, mhouse_y hs hi hm, bd2_some, if_neg (by decide), hy1, if_neg c1, bd2_some, if_pos l_0.symm, ng]
  · refine ⟨-1000001, s, hs, XS.rf fun σ hc => ?_, MS.rf fun σ hm => ?_⟩
    · simp only [f_X7_who, xhouse_n hs c0 hc, bd2_some, l_0, ↓reduceIte]
    · rw [f_X8_who, mhouse_n hs c0 hm, bd2_some, if_pos l_0.symm, ng]
