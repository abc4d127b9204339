/-! PURE, 30: which one was touched, lashed -/
theorem l_256 : (256 : Int32) = nI 256 := by decide +kernel
def fgB (g : Nat → Nat) (i : Nat) (hum : Nat → Int32) (n j : Nat) : Nat := hearB (sp g j (g (21 + j) / 2)) i hum n 0
def fgF (g : Nat → Nat) (i : Nat) (hum : Nat → Int32) (n : Nat) : Nat → Int32
  | 0 => if hearB g i hum n 0 = 0 then nI 0 else nI 256
  | j + 1 => if 0 < g (21 + j) then fgF g i hum n j ||| (if fgB g i hum n j = 0 then nI 0 else nI 1 <<< (nI j &&& nI 31)) else fgF g i hum n j
theorem xfinger_27 {s : Sys} {i n : Nat} {hum : Nat → Int32} (hs : SysOk s) (hi : i < s.g 0) (hn : n ≤ 12) : ∀ m j σ, CI σ s → HU σ n hum → j ≤ s.g 0 → s.g 0 - j < m → ∃ τ, f_X2_fingersHeard_27 8 (nI i) m (fgF s.g i hum n j) (nI j) σ = some (fgF s.g i hum n (s.g 0), τ) ∧ Fr (fun a => 112 ≤ a ∧ a ≤ 115) σ τ := by
  intro m
  induction m with
  | zero => intro j σ _ _ _ h; omega
  | succ m ih =>
    intro j σ hc hU h2 h3
    have h8 := hs.og.1.1
    by_cases c : s.g 0 ≤ j
    · have e : j = s.g 0 := by omega
      subst e
      refine ⟨σ, ?_, Fr.rf⟩
      simp (disch := omega) only [f_X2_fingersHeard_27, hc.c1.1.1, n_le, c, ↓reduceIte]
    · have s1 := (hc.c1.2 j (by omega)).2.2
      have b9 := (hs.og.1.2.2.2.2 j (by omega)).2.2
      by_cases c3 : 0 < s.g (21 + j)
      · have c4 : ¬ s.g (21 + j) ≤ 0 := by omega
        obtain ⟨τ1, a1, a2, a3⟩ := xthenF hc hs
        have s2 := (a2.2 j (by omega)).2.2
        have a4 := RS.sp (j := j) (v := s.g (21 + j) / 2) a2 h8
        have hF0 : Fr (fun a => 112 ≤ a ∧ a ≤ 115) τ1 (st2 τ1 (112 + 3) j (nI (s.g (21 + j) / 2))) := Fr.st (S := fun a => 112 ≤ a ∧ a ≤ 115) (by omega)
        obtain ⟨τ2, b1, b2⟩ := xheard (i := i) a4 (hs.og.1.sp (by omega)) (by rw [sp_ne (by omega)]; exact hi) hn (hU.fr (a3.tr hF0))
        have hF := (a3.tr hF0).tr b2
        obtain ⟨υ, u1, u2⟩ := ih (j + 1) τ2 (hc.fo (fr45 hF)) (hU.fr hF) (by omega) (by omega)
        refine ⟨υ, ?_, hF.tr u2⟩
        rw [← u1, fgF, if_pos c3]
        have b1' : f_X2_isHeard (nI i) (st2 τ1 (112 + 3) j (nI (s.g (21 + j) / 2))) = some (nI (fgB s.g i hum n j), τ2) := b1
        rcases (hearB_01 (sp s.g j (s.g (21 + j) / 2)) i hum n 0) with w | w
        · have w' : fgB s.g i hum n j = 0 := w
          rw [w'] at b1'
          rw [if_pos w']
          simp (disch := omega) only [f_X2_fingersHeard_27, hc.c1.1.1, l_0, l_1, l_2, n_le, c, c4, s1, s2, n_div, ↓reduceIte, a1, bd_some, n_ix, ing_ok, lt_eq, b1', bd2_some, n_add]
        · have w' : fgB s.g i hum n j = 1 := w
          rw [w'] at b1'
          rw [if_neg (by omega)]
          simp (disch := omega) only [f_X2_fingersHeard_27, hc.c1.1.1, l_0, l_1, l_2, l_31, n_le, n_eq, Nat.reduceEqDiff, c, c4, s1, s2, n_div, ↓reduceIte, a1, bd_some, n_ix, ing_ok, lt_eq, b1', bd2_some, n_add]
      · have c4 : s.g (21 + j) ≤ 0 := by omega
        obtain ⟨υ, u1, u2⟩ := ih (j + 1) σ hc hU (by omega) (by omega)
        refine ⟨υ, ?_, u2⟩
        rw [← u1, fgF, if_neg c3]
        simp (disch := omega) only [f_X2_fingersHeard_27, hc.c1.1.1, l_0, l_1, n_le, c, c4, s1, ↓reduceIte, n_ix, ing_ok, lt_eq, n_add]
theorem mfinger_83 {g : Nat → Nat} {i n r a : Nat} {hum : Nat → Int32} (hb : SB g) (hi : i < g 0) (hn : n ≤ 12) (hr : r < 8) (ha : a + n ≤ 40) : ∀ m j σ, RA σ 187 g → RA σ 192 g → (∀ k, k < n → σ 186 (40 * r + a + k) = hum k) → j ≤ g 0 → g 0 - j < m → ∃ τ, f_X8_finger_83 (nI i) (nI r) (nI a) (nI n) m (fgF g i hum n j) (nI j) σ = (bd2 (f_X8_well (fgF g i hum n (g 0)) τ) fun x8 s9 => some (x8, s9)) ∧ RA τ 187 g ∧ Fr (fun a => a = 187) σ τ := by
  intro m
  induction m with
  | zero => intro j σ _ _ _ _ h; omega
  | succ m ih =>
    intro j σ hR hA hI h2 h3
    have h8 := hb.1
    by_cases c : g 0 ≤ j
    · have e : j = g 0 := by omega
      subst e
      refine ⟨σ, ?_, hR, Fr.rf⟩
      simp (disch := omega) only [f_X8_finger_83, l_0, n_ix, ing_ok, hR.1.1, n_le, c, ↓reduceIte]
    · have s1 := mstands hR hb (j := j) (by omega)
      have s2 := (hR.2 j (by omega)).2.2
      have b9 := (hb.2.2.2.2 j (by omega)).2.2
      by_cases c3 : 0 < g (21 + j)
      · rw [if_pos c3] at s1
        have a4 := RA.sp (j := j) (v := g (21 + j) / 2) hR h8
        have hF0 : Fr (fun a => a = 187) σ (st2 σ 187 (21 + j) (nI (g (21 + j) / 2))) := Fr.st (S := fun a => a = 187) rfl
        obtain ⟨τ2, b1, b2, b3, b4⟩ := misSo (i := i) (n := n) (at' := 40 * r + a) (hum := hum) a4 (hA.fr (hF0 192 (by omega))) (hb.sp (by omega)) (by rw [sp_ne (by omega)]; omega) (by rw [sp_ne (by omega)]; exact hi) h8 hn (by omega) (fun k hk => by rw [hF0 186 (by omega)]; exact hI k hk)
        have hF := hF0.tr b4
        obtain ⟨υ, u1, u2, u3⟩ := ih (j + 1) τ2 b2 b3 (fun k hk => by rw [hF 186 (by omega)]; exact hI k hk) (by omega) (by omega)
        refine ⟨υ, ?_, u2, hF.tr u3⟩
        rw [← u1, fgF, if_pos c3]
        have b1' : f_X8_isSo (nI i) (nI (40 * r + a)) (nI n) (st2 σ 187 (21 + j) (nI (g (21 + j) / 2))) = some (nI (fgB g i hum n j), τ2) := b1
        rcases (hearB_01 (sp g j (g (21 + j) / 2)) i hum n 0) with w | w
        · have w' : fgB g i hum n j = 0 := w
          rw [w'] at b1'
          rw [if_pos w']
          simp (disch := omega) only [f_X8_finger_83, l_0, l_1, l_2, l_21, l_40, hR.1.1, n_le, n_eq, Nat.reduceEqDiff, c, s1, s2, n_div, ↓reduceIte, n_ix, ing_ok, n_mul, n_add, lt_eq, b1', bd2_some]
        · have w' : fgB g i hum n j = 1 := w
          rw [w'] at b1'
          rw [if_neg (by omega)]
          simp (disch := omega) only [f_X8_finger_83, l_0, l_1, l_2, l_21, l_31, l_40, hR.1.1, n_le, n_eq, Nat.reduceEqDiff, c, s1, s2, n_div, ↓reduceIte, n_ix, ing_ok, n_mul, n_add, lt_eq, b1', bd2_some]
      · rw [if_neg c3] at s1
        obtain ⟨υ, u1, u2, u3⟩ := ih (j + 1) σ hR hA hI (by omega) (by omega)
        refine ⟨υ, ?_, u2, u3⟩
        rw [← u1, fgF, if_neg c3]
        simp (disch := omega) only [f_X8_finger_83, l_0, l_1, hR.1.1, n_le, c, s1, ↓reduceIte, n_ix, ing_ok, n_add, lt_eq, bd2_some]
theorem both_finger (p x y z : Int32) : BOTH (f_X7_finger p x y z) (f_X8_finger p x y z) := by
  intro s hs
  have h8 := hs.og.1.1
  have hb := hs.og.1
  have d2 := Classical.propDecidable (rng x 0 7)
  have d3 := Classical.propDecidable (rng z 1 12)
  have hx3 : ∀ σ, f_X7_within z (nI 1) (nI 12) σ = some (if rng z 1 12 then nI 1 else nI 0, σ) := fun σ => xin_rng (by decide) (by decide)
  have hy3 : ∀ σ, f_X8_in z.toInt64 1 12 σ = some (if rng z 1 12 then nI 1 else nI 0, σ) := fun σ => min_rng (a := 1) (b := 12) rfl rfl (by decide)
  have ng : ∀ σ, f_X8_finger_41 p x y z (-1000001) σ = some (-1000001, σ) := fun σ => by
    rw [f_X8_finger_41, lt_eq, if_neg (by decide)]
  by_cases c0 : hous p (s.g 0)
  · obtain ⟨i, rfl, hi⟩ := c0
    by_cases c2 : rng x 0 7
    · by_cases c3 : rng z 1 12
      · have c2' := c2
        obtain ⟨r, rfl, -, hr⟩ := c2'
        have c3' := c3
        obtain ⟨n, rfl, hn1, hn⟩ := c3'
        have hr8 : r < 8 := by omega
        have hz := (hs.or r hr8).2
        cases cg : s.gone r
        · by_cases cs : span y (nI n) (s.size r)
          · obtain ⟨a, rfl, ha⟩ := span_of cs hz (by omega)
            refine ⟨fgF s.g i (fun k => s.item r (a + k)) n (s.g 0), s.w_sta 0, hs.sta, fun σ hc => ?_, fun σ hm => ?_⟩
            · have u1 := xspan_y hc hs hr8 cg cs
              obtain ⟨τ, t1, t2, t3⟩ := xlisten hc hr8 cg (show a + n ≤ 40 by omega) hn
              have hc' := hc.fo t3
              obtain ⟨τ1, a1, a2, a3⟩ := xthenF hc' hs
              obtain ⟨τ2, b1, b2⟩ := xheard (i := i) a2 hb hi hn (t2.fr a3)
              have hF := a3.tr b2
              obtain ⟨υ, v1, v2⟩ := xfinger_27 hs hi hn FU 0 τ2 (hc'.fo (fr45 hF)) (t2.fr hF) (Nat.zero_le _) (by rw [FU_eq]; omega)
              have hF2 := hF.tr v2
              obtain ⟨φ, f1, f2, f3⟩ := xfine (p := fgF s.g i (fun k => s.item r (a + k)) n (s.g 0)) (hc'.fo (fr45 hF2))
              refine ⟨φ, ?_, f2, (t3.tr (fr45 hF2)).le (fun a ha => by omega) |>.tr f3⟩
              have w1 : f_X2_fingersHeard 8 (nI i) τ = some (fgF s.g i (fun k => s.item r (a + k)) n (s.g 0), υ) := by
                rw [fgF] at v1
                rcases (hearB_01 s.g i (fun k => s.item r (a + k)) n 0) with w | w
                · rw [w] at b1
                  rw [if_pos w] at v1
                  rw [f_X2_fingersHeard, a1, bd_some, b1, bd2_some, if_pos l_0.symm, lt_eq, lt_eq]
                  exact v1
                · rw [w] at b1
                  rw [if_neg (by omega)] at v1
                  rw [f_X2_fingersHeard, a1, bd_some, b1, bd2_some, if_neg (by decide), lt_eq, lt_eq, l_256]
                  exact v1
              simp (disch := omega) only [f_X7_finger, xhouse_y hs hi hc, xisRow, c2, hx3, c3, bd2_some, bd_some, l_0, l_1, l_12, n_eq, ↓reduceIte, Nat.reduceEqDiff, n_ix, ing_ok, u1, lt_eq, t1, w1, f1]
            · have u1 := mlacks_y hm hs hr8 cg hn cs
              obtain ⟨τ1, a1, a2, a3, a4⟩ := masi hm hs
              have hI : ∀ k, k < n → τ1 186 (40 * r + a + k) = s.item r (a + k) := fun k hk => by
                rw [a4 186 (by omega), Nat.add_assoc]
                exact ((hm.m6 r hr8).2 cg).2 (a + k) (by omega)
              obtain ⟨τ2, b1, b2, b3, b4⟩ := misSo (i := i) (n := n) (at' := 40 * r + a) (hum := fun k => s.item r (a + k)) a2 a3 hb (by omega) hi h8 hn (by omega) hI
              obtain ⟨τ3, k1, k2, k3⟩ := mfinger_83 (hum := fun k => s.item r (a + k)) hb hi hn hr8 (show a + n ≤ 40 by omega) FU 0 τ2 b2 b3 (fun k hk => by rw [b4 186 (by omega)]; exact hI k hk) (Nat.zero_le _) (by rw [FU_eq]; omega)
              obtain ⟨υ, v1, v2, v3⟩ := mfinish (v := fgF s.g i (fun k => s.item r (a + k)) n (s.g 0)) hm k2 (a4.tr ((b4.tr k3).le fun a ha => by omega))
              refine ⟨υ, ?_, v2, v3⟩
              rw [← v1]
              rw [fgF] at k1
              rw [f_X8_finger, mhouse_y hs hi hm, bd2_some, if_neg (by decide), misRow, if_pos c2, bd2_some, if_neg (by decide), hy3, if_pos c3, bd2_some, if_neg (by decide), u1, bd2_some, f_X8_finger_41, lt_eq, if_pos (by decide), a1, bd_some, l_40, n_mul, n_add, b1, bd2_some]
              rcases (hearB_01 s.g i (fun k => s.item r (a + k)) n 0) with w | w
              · rw [if_pos w] at k1
                rw [w, if_pos l_0.symm, lt_eq, lt_eq]
                exact k1
              · rw [if_neg (by omega)] at k1
                rw [w, if_neg (by decide), lt_eq, lt_eq, l_256]
                exact k1
          · refine ⟨-1000010 - nI 2, s.w_sta (nI 2), hs.sta, fun σ hc => ?_, fun σ hm => ?_⟩
            · have u1 := xspan_n hc hs hr8 cg cs
              obtain ⟨τ, t1, t2⟩ := xfound (p := nI 2) hc
              refine ⟨τ, ?_, t2⟩
              simp (disch := omega) only [f_X7_finger, xhouse_y hs hi hc, xisRow, c2, hx3, c3, bd2_some, l_0, l_1, l_12, n_eq, ↓reduceIte, Nat.reduceEqDiff, n_ix, ing_ok, u1, lt_eq, t1]
            · obtain ⟨τ, t1, t2⟩ := mlacks_n hm hs hr8 cg hn cs
              refine ⟨τ, ?_, t2⟩
              rw [f_X8_finger, mhouse_y hs hi hm, bd2_some, if_neg (by decide), misRow, if_pos c2, bd2_some, if_neg (by decide), hy3, if_pos c3, bd2_some, if_neg (by decide), t1, bd2_some, f_X8_finger_41, lt_eq, if_neg (by decide)]
        · refine ⟨-1000010 - nI 1, s.w_sta (nI 1), hs.sta, fun σ hc => ?_, fun σ hm => ?_⟩
          · have u1 := xspan_g (p := y) (q := nI n) hc hr8 cg
            obtain ⟨τ, t1, t2⟩ := xfound (p := nI 1) hc
            refine ⟨τ, ?_, t2⟩
            simp (disch := omega) only [f_X7_finger, xhouse_y hs hi hc, xisRow, c2, hx3, c3, bd2_some, l_0, l_1, l_12, n_eq, ↓reduceIte, Nat.reduceEqDiff, n_ix, ing_ok, u1, lt_eq, t1]
          · obtain ⟨τ, t1, t2⟩ := mlacks_g (p := y) (q := nI n) hm hr8 cg
            refine ⟨τ, ?_, t2⟩
            rw [f_X8_finger, mhouse_y hs hi hm, bd2_some, if_neg (by decide), misRow, if_pos c2, bd2_some, if_neg (by decide), hy3, if_pos c3, bd2_some, if_neg (by decide), t1, bd2_some, f_X8_finger_41, lt_eq, if_neg (by decide)]
      · refine ⟨-1000001, s, hs, XS.rf fun σ hc => ?_, MS.rf fun σ hm => ?_⟩
        · simp (disch := omega) only [f_X7_finger, xhouse_y hs hi hc, xisRow, c2, hx3, c3, bd2_some, l_0, l_1, l_12, n_eq, ↓reduceIte, Nat.reduceEqDiff]
        · rw [f_X8_finger, mhouse_y hs hi hm, bd2_some, if_neg (by decide), misRow, if_pos c2, bd2_some, if_neg (by decide), hy3, if_neg c3, bd2_some, if_pos l_0.symm, ng]
    · refine ⟨-1000001, s, hs, XS.rf fun σ hc => ?_, MS.rf fun σ hm => ?_⟩
      · simp (disch := omega) only [f_X7_finger, xhouse_y hs hi hc, xisRow, c2, bd2_some, l_0, l_1, l_12, n_eq, ↓reduceIte, Nat.reduceEqDiff]
      · rw [f_X8_finger, mhouse_y hs hi hm, bd2_some, if_neg (by decide), misRow, if_neg c2, bd2_some, if_pos l_0.symm, ng]
  · refine ⟨-1000001, s, hs, XS.rf fun σ hc => ?_, MS.rf fun σ hm => ?_⟩
    · simp only [f_X7_finger, xhouse_n hs c0 hc, bd2_some, l_0, ↓reduceIte]
    · rw [f_X8_finger, mhouse_n hs c0 hm, bd2_some, if_pos l_0.symm, ng]
def lsB (g : Nat → Nat) (i o : Nat) (hum : Nat → Int32) (n j : Nat) : Nat := hearB (raiG g o (1 + j)) i hum n 0
def one2 (j : Nat) : Nat := 1 + j - 1
theorem xlashes_6 {s : Sys} {i n o : Nat} {hum : Nat → Int32} (hs : SysOk s) (hi : i < s.g 0) (ho : o < s.g 0) (hn : n ≤ 12) : ∀ m j σ, CI σ s → HU σ n hum → j ≤ 30 → 30 - j < m → ∃ τ, f_X2_lashesHeard_6 8 (nI i) (nI o) m (bitsF (lsB s.g i o hum n) one2 j) (nI (1 + j)) σ = some (bitsF (lsB s.g i o hum n) one2 30, τ) ∧ Fr (fun a => 112 ≤ a ∧ a ≤ 115) σ τ := by
  intro m
  induction m with
  | zero => intro j σ _ _ _ h; omega
  | succ m ih =>
    intro j σ hc hU h2 h3
    have h8 := hs.og.1.1
    by_cases c : 30 < 1 + j
    · have e : j = 30 := by omega
      subst e
      refine ⟨σ, ?_, Fr.rf⟩
      simp (disch := omega) only [f_X2_lashesHeard_6, l_30, n_lt, c, ↓reduceIte]
    · obtain ⟨τ1, a1, a2, a3⟩ := xthenF hc hs
      obtain ⟨a4, a5⟩ := xraise (j := o) (v := 1 + j) a2 hs.og.1 ho (by omega)
      have hF0 : Fr (fun a => 112 ≤ a ∧ a ≤ 115) τ1 (st2 τ1 (112 + 3) o (nI (min 99 (s.g (21 + o) + (1 + j))))) := Fr.st (S := fun a => 112 ≤ a ∧ a ≤ 115) (by omega)
      obtain ⟨τ2, b1, b2⟩ := xheard (i := i) a5 (rai_SB hs.og.1) (by unfold raiG; rw [sp_ne (by omega)]; exact hi) hn (hU.fr (a3.tr hF0))
      have hF := (a3.tr hF0).tr b2
      obtain ⟨υ, u1, u2⟩ := ih (j + 1) τ2 (hc.fo (fr45 hF)) (hU.fr hF) (by omega) (by omega)
      refine ⟨υ, ?_, hF.tr u2⟩
      rw [← u1, bitsF]
      rw [show 1 + (j + 1) = 1 + j + 1 by omega]
      have b1' : f_X2_isHeard (nI i) (st2 τ1 (112 + 3) o (nI (min 99 (s.g (21 + o) + (1 + j))))) = some (nI (lsB s.g i o hum n j), τ2) := b1
      rcases (hearB_01 (raiG s.g o (1 + j)) i hum n 0) with w | w
      · have w' : lsB s.g i o hum n j = 0 := w
        rw [w'] at b1'
        rw [if_pos w']
        simp (disch := omega) only [f_X2_lashesHeard_6, l_0, l_1, l_30, n_lt, c, ↓reduceIte, a1, a4, bd_some, lt_eq, b1', bd2_some, n_add]
      · have w' : lsB s.g i o hum n j = 1 := w
        rw [w'] at b1'
        rw [if_neg (by omega)]
        simp (disch := omega) only [f_X2_lashesHeard_6, l_0, l_1, l_31, l_30, n_lt, n_eq, Nat.reduceEqDiff, c, ↓reduceIte, a1, a4, bd_some, lt_eq, b1', bd2_some, n_add, n_sub, one2]
theorem mlashes_81 {g : Nat → Nat} {i n r a o : Nat} {hum : Nat → Int32} (hb : SB g) (hi : i < g 0) (ho : o < g 0) (hn : n ≤ 12) (hr : r < 8) (ha : a + n ≤ 40) : ∀ m j σ, RA σ 187 g → RA σ 192 g → (∀ k, k < n → σ 186 (40 * r + a + k) = hum k) → j ≤ 30 → 30 - j < m → ∃ τ, f_X8_lashes_81 (nI i) (nI o) (nI r) (nI a) (nI n) m (bitsF (lsB g i o hum n) one2 j) (nI (1 + j)) σ = (bd2 (f_X8_well (bitsF (lsB g i o hum n) one2 30) τ) fun x8 s9 => some (x8, s9)) ∧ RA τ 187 g ∧ Fr (fun a => a = 187) σ τ := by
  intro m
  induction m with
  | zero => intro j σ _ _ _ _ h; omega
  | succ m ih =>
    intro j σ hR hA hI h2 h3
    have h8 := hb.1
    by_cases c : 30 < 1 + j
    · have e : j = 30 := by omega
      subst e
      refine ⟨σ, ?_, hR, Fr.rf⟩
      simp (disch := omega) only [f_X8_lashes_81, l_30, n_lt, c, ↓reduceIte]
    · obtain ⟨a4, a5⟩ := mlashBy (j := o) (v := 1 + j) hR hb ho (by omega)
      have hF0 : Fr (fun a => a = 187) σ (st2 σ 187 (21 + o) (nI (min 99 (g (21 + o) + (1 + j))))) := Fr.st (S := fun a => a = 187) rfl
      obtain ⟨τ2, b1, b2, b3, b4⟩ := misSo (i := i) (n := n) (at' := 40 * r + a) (hum := hum) a5 (hA.fr (hF0 192 (by omega))) (rai_SB hb) (by unfold raiG; rw [sp_ne (by omega)]; omega) (by unfold raiG; rw [sp_ne (by omega)]; exact hi) h8 hn (by omega) (fun k hk => by rw [hF0 186 (by omega)]; exact hI k hk)
      have hF := hF0.tr b4
      obtain ⟨υ, u1, u2, u3⟩ := ih (j + 1) τ2 b2 b3 (fun k hk => by rw [hF 186 (by omega)]; exact hI k hk) (by omega) (by omega)
      refine ⟨υ, ?_, u2, hF.tr u3⟩
      rw [← u1, bitsF]
      rw [show 1 + (j + 1) = 1 + j + 1 by omega]
      have b1' : f_X8_isSo (nI i) (nI (40 * r + a)) (nI n) (st2 σ 187 (21 + o) (nI (min 99 (g (21 + o) + (1 + j))))) = some (nI (lsB g i o hum n j), τ2) := b1
      rcases (hearB_01 (raiG g o (1 + j)) i hum n 0) with w | w
      · have w' : lsB g i o hum n j = 0 := w
        rw [w'] at b1'
        rw [if_pos w']
        simp (disch := omega) only [f_X8_lashes_81, l_0, l_1, l_30, l_40, n_lt, c, ↓reduceIte, a4, bd_some, n_mul, n_add, lt_eq, b1', bd2_some]
      · have w' : lsB g i o hum n j = 1 := w
        rw [w'] at b1'
        rw [if_neg (by omega)]
        simp (disch := omega) only [f_X8_lashes_81, l_0, l_1, l_30, l_31, l_40, n_lt, n_eq, Nat.reduceEqDiff, c, ↓reduceIte, a4, bd_some, n_mul, n_add, n_sub, lt_eq, b1', bd2_some, one2]
theorem both_lashes (p q x y z : Int32) : BOTH (f_X7_lashes p q x y z) (f_X8_lashes p q x y z) := by
  intro s hs
  have h8 := hs.og.1.1
  have hb := hs.og.1
  have d2 := Classical.propDecidable (rng x 0 7)
  have d3 := Classical.propDecidable (rng z 1 12)
  have hx3 : ∀ σ, f_X7_within z (nI 1) (nI 12) σ = some (if rng z 1 12 then nI 1 else nI 0, σ) := fun σ => xin_rng (by decide) (by decide)
  have hy3 : ∀ σ, f_X8_in z.toInt64 1 12 σ = some (if rng z 1 12 then nI 1 else nI 0, σ) := fun σ => min_rng (a := 1) (b := 12) rfl rfl (by decide)
  by_cases c0 : hous p (s.g 0)
  · obtain ⟨i, rfl, hi⟩ := c0
    by_cases c1 : hous q (s.g 0)
    · obtain ⟨o, rfl, ho⟩ := c1
      by_cases c2 : rng x 0 7
      · by_cases c3 : rng z 1 12
        · have c2' := c2
          obtain ⟨r, rfl, -, hr⟩ := c2'
          have c3' := c3
          obtain ⟨n, rfl, hn1, hn⟩ := c3'
          have hr8 : r < 8 := by omega
          have hz := (hs.or r hr8).2
          have b9 := (hb.2.2.2.2 o ho).2.2
          by_cases c4 : s.g (21 + o) = 0
          · refine ⟨-1000002, s, hs, XS.rf fun σ hc => ?_, MS.rf fun σ hm => ?_⟩
            · have e := (hc.c1.2 o ho).2.2
              rw [c4] at e
              simp (disch := omega) only [f_X7_lashes, xhouse_y hs hi hc, xhouse_y hs ho hc, xisRow, c2, hx3, c3, bd2_some, l_0, l_1, l_12, n_eq, ↓reduceIte, Nat.reduceEqDiff, n_ix, ing_ok, e]
            · have e := mstands hm.m1 hb ho
              rw [if_neg (by omega)] at e
              rw [f_X8_lashes, mhouse_y hs hi hm, bd2_some, if_neg (by decide), mhouse_y hs ho hm, bd2_some, if_neg (by decide), misRow, if_pos c2, bd2_some, if_neg (by decide), hy3, if_pos c3, bd2_some, if_neg (by decide), e, bd2_some, if_pos l_0.symm, f_X8_lashes_61, lt_eq, if_neg (by decide)]
          · have ms : ∀ σ, MI σ s → f_X8_stands (nI o) σ = some (nI 1, σ) := fun σ hm => by
              rw [mstands hm.m1 hb ho, if_pos (by omega)]
            cases cg : s.gone r
            · by_cases cs : span y (nI n) (s.size r)
              · obtain ⟨a, rfl, ha⟩ := span_of cs hz (by omega)
                refine ⟨bitsF (lsB s.g i o (fun k => s.item r (a + k)) n) one2 30, s.w_sta 0, hs.sta, fun σ hc => ?_, fun σ hm => ?_⟩
                · have e := (hc.c1.2 o ho).2.2
                  have u1 := xspan_y hc hs hr8 cg cs
                  obtain ⟨τ, t1, t2, t3⟩ := xlisten hc hr8 cg (show a + n ≤ 40 by omega) hn
                  have hc' := hc.fo t3
                  obtain ⟨υ, v1, v2⟩ := xlashes_6 hs hi ho hn FU 0 τ hc' t2 (Nat.zero_le _) (by rw [FU_eq]; omega)
                  obtain ⟨φ, f1, f2, f3⟩ := xfine (p := bitsF (lsB s.g i o (fun k => s.item r (a + k)) n) one2 30) (hc'.fo (fr45 v2))
                  refine ⟨φ, ?_, f2, (t3.tr (fr45 v2)).le (fun a ha => by omega) |>.tr f3⟩
                  have w1 : f_X2_lashesHeard 8 (nI i) (nI o) τ = some (bitsF (lsB s.g i o (fun k => s.item r (a + k)) n) one2 30, υ) := by
                    unfold f_X2_lashesHeard
                    rw [lt_eq, lt_eq]
                    exact v1
                  simp (disch := omega) only [f_X7_lashes, xhouse_y hs hi hc, xhouse_y hs ho hc, xisRow, c2, hx3, c3, bd2_some, bd_some, l_0, l_1, l_12, n_eq, ↓reduceIte, Nat.reduceEqDiff, n_ix, ing_ok, e, c4, u1, lt_eq, t1, w1, f1]
                · have u1 := mlacks_y hm hs hr8 cg hn cs
                  obtain ⟨τ1, a1, a2, a3, a4⟩ := masi hm hs
                  have hI : ∀ k, k < n → τ1 186 (40 * r + a + k) = s.item r (a + k) := fun k hk => by
                    rw [a4 186 (by omega), Nat.add_assoc]
                    exact ((hm.m6 r hr8).2 cg).2 (a + k) (by omega)
                  obtain ⟨τ3, k1, k2, k3⟩ := mlashes_81 (hum := fun k => s.item r (a + k)) hb hi ho hn hr8 (show a + n ≤ 40 by omega) FU 0 τ1 a2 a3 hI (Nat.zero_le _) (by rw [FU_eq]; omega)
                  obtain ⟨υ, v1, v2, v3⟩ := mfinish (v := bitsF (lsB s.g i o (fun k => s.item r (a + k)) n) one2 30) hm k2 (a4.tr (k3.le fun a ha => by omega))
                  refine ⟨υ, ?_, v2, v3⟩
                  rw [← v1]
                  rw [f_X8_lashes, mhouse_y hs hi hm, bd2_some, if_neg (by decide), mhouse_y hs ho hm, bd2_some, if_neg (by decide), misRow, if_pos c2, bd2_some, if_neg (by decide), hy3, if_pos c3, bd2_some, if_neg (by decide), ms σ hm, bd2_some, if_neg (by decide), u1, bd2_some, f_X8_lashes_61, lt_eq, if_pos (by decide), a1, bd_some, lt_eq, lt_eq]
                  exact k1
              · refine ⟨-1000010 - nI 2, s.w_sta (nI 2), hs.sta, fun σ hc => ?_, fun σ hm => ?_⟩
                · have e := (hc.c1.2 o ho).2.2
                  have u1 := xspan_n hc hs hr8 cg cs
                  obtain ⟨τ, t1, t2⟩ := xfound (p := nI 2) hc
                  refine ⟨τ, ?_, t2⟩
                  simp (disch := omega) only [f_X7_lashes, xhouse_y hs hi hc, xhouse_y hs ho hc, xisRow, c2, hx3, c3, bd2_some, l_0, l_1, l_12, n_eq, ↓reduceIte, Nat.reduceEqDiff, n_ix, ing_ok, e, c4, u1, lt_eq, t1]
                · obtain ⟨τ, t1, t2⟩ := mlacks_n hm hs hr8 cg hn cs
                  refine ⟨τ, ?_, t2⟩
                  rw [f_X8_lashes, mhouse_y hs hi hm, bd2_some, if_neg (by decide), mhouse_y hs ho hm, bd2_some, if_neg (by decide), misRow, if_pos c2, bd2_some, if_neg (by decide), hy3, if_pos c3, bd2_some, if_neg (by decide), ms σ hm, bd2_some, if_neg (by decide), t1, bd2_some, f_X8_lashes_61, lt_eq, if_neg (by decide)]
            · refine ⟨-1000010 - nI 1, s.w_sta (nI 1), hs.sta, fun σ hc => ?_, fun σ hm => ?_⟩
              · have e := (hc.c1.2 o ho).2.2
                have u1 := xspan_g (p := y) (q := nI n) hc hr8 cg
                obtain ⟨τ, t1, t2⟩ := xfound (p := nI 1) hc
                refine ⟨τ, ?_, t2⟩
                simp (disch := omega) only [f_X7_lashes, xhouse_y hs hi hc, xhouse_y hs ho hc, xisRow, c2, hx3, c3, bd2_some, l_0, l_1, l_12, n_eq, ↓reduceIte, Nat.reduceEqDiff, n_ix, ing_ok, e, c4, u1, lt_eq, t1]
              · obtain ⟨τ, t1, t2⟩ := mlacks_g (p := y) (q := nI n) hm hr8 cg
                refine ⟨τ, ?_, t2⟩
                rw [f_X8_lashes, mhouse_y hs hi hm, bd2_some, if_neg (by decide), mhouse_y hs ho hm, bd2_some, if_neg (by decide), misRow, if_pos c2, bd2_some, if_neg (by decide), hy3, if_pos c3, bd2_some, if_neg (by decide), ms σ hm, bd2_some, if_neg (by decide), t1, bd2_some, f_X8_lashes_61, lt_eq, if_neg (by decide)]
        · refine ⟨-1000001, s, hs, XS.rf fun σ hc => ?_, MS.rf fun σ hm => ?_⟩
          · simp (disch := omega) only [f_X7_lashes, xhouse_y hs hi hc, xhouse_y hs ho hc, xisRow, c2, hx3, c3, bd2_some, l_0, l_1, l_12, n_eq, ↓reduceIte, Nat.reduceEqDiff]
          · rw [f_X8_lashes, mhouse_y hs hi hm, bd2_some, if_neg (by decide), mhouse_y hs ho hm, bd2_some, if_neg (by decide), misRow, if_pos c2, bd2_some, if_neg (by decide), hy3, if_neg c3, bd2_some, if_pos l_0.symm]
      · refine ⟨-1000001, s, hs, XS.rf fun σ hc => ?_, MS.rf fun σ hm => ?_⟩
        · simp (disch := omega) only [f_X7_lashes, xhouse_y hs hi hc, xhouse_y hs ho hc, xisRow, c2, bd2_some, l_0, n_eq, ↓reduceIte, Nat.reduceEqDiff]
        · rw [f_X8_lashes, mhouse_y hs hi hm, bd2_some, if_neg (by decide), mhouse_y hs ho hm, bd2_some, if_neg (by decide), misRow, if_neg c2, bd2_some, if_pos l_0.symm]
    · refine ⟨-1000001, s, hs, XS.rf fun σ hc => ?_, MS.rf fun σ hm => ?_⟩
      · simp (disch := omega) only [f_X7_lashes, xhouse_y hs hi hc, xhouse_n hs c1 hc, bd2_some, l_0, n_eq, ↓reduceIte, Nat.reduceEqDiff]
      · rw [f_X8_lashes, mhouse_y hs hi hm, bd2_some, if_neg (by decide), mhouse_n hs c1 hm, bd2_some, if_pos l_0.symm]
  · refine ⟨-1000001, s, hs, XS.rf fun σ hc => ?_, MS.rf fun σ hm => ?_⟩
    · simp only [f_X7_lashes, xhouse_n hs c0 hc, bd2_some, l_0, ↓reduceIte]
    · rw [f_X8_lashes, mhouse_n hs c0 hm, bd2_some, if_pos l_0.symm]
