/-! PURE, 46: street, on both sides -/
theorem mzero_7 : ∀ m k σ, k ≤ 29 → 29 - k < m → (∀ i, i < k → σ 190 i = nI 0) → ∃ τ m', f_X8_readStreet_7 m (nI k) σ = f_X8_readStreet_7 (m' + 1) (nI 29) τ ∧ (∀ i, i < 29 → τ 190 i = nI 0) ∧ (∀ a i, a ≠ 190 → τ a i = σ a i) := by
  intro m
  induction m with
  | zero => intro k σ _ h; omega
  | succ m ih =>
    intro k σ h1 h2 hZ
    by_cases c : k = 29
    · subst c
      exact ⟨σ, m, rfl, hZ, fun _ _ _ => rfl⟩
    · obtain ⟨τ, m', t1, t2, t3⟩ := ih (k + 1) (st2 σ 190 k (nI 0)) (by omega) (by omega) (fun i hi => by
        by_cases e : i = k
        · rw [e, st2_at]
        · rw [st2_k e]; exact hZ i (by omega))
      refine ⟨τ, m', ?_, t2, fun a i n => by rw [t3 a i n, st2_a n]⟩
      rw [← t1, f_X8_readStreet_7, l_29, if_neg (by rw [n_le (by omega) (by omega)]; omega), ing_ok (by omega) (by omega), n_ix (by omega), l_0, lt_eq, lt_eq, l_1, n_add]
theorem srtP_f {t : Nat → Nat} {L h : Nat} {q : Nat × Nat} (hq : q.2 ≠ 0) : srtP t L h q = q := if_pos hq
theorem houS_f {t : Nat → Nat} {L : Nat} {s : (Nat × Nat) × (Nat → Nat)} (h : s.1.2 ≠ 0) : (houS t L s).1 = s.1 := by
  obtain ⟨q, g⟩ := s
  have h' : q.2 ≠ 0 := h
  show houQ t L (g 0) q = q
  unfold houQ
  rw [srtP_f h', numP_f h', sgnP_f h', numP_f h', sgnP_f h']
theorem pr_eq {q : Nat × Nat} (z : q.2 = 0) : q = (q.1, 0) := by
  obtain ⟨a, f⟩ := q
  have z' : f = 0 := z
  rw [z']
theorem pr2_eq {s : (Nat × Nat) × (Nat → Nat)} (z : s.1.2 = 0) : s = ((s.1.1, 0), s.2) := by
  obtain ⟨⟨a, f⟩, g⟩ := s
  have z' : f = 0 := z
  rw [z']
theorem par_ff {t : Nat → Nat} {L : Nat} {q : Nat × Nat} {g : Nat → Nat} (h : q.2 ≠ 0) : (hlS t L 8 (houS t L (q, g))).1 = q := by
  have e : (houS t L (q, g)).1 = q := houS_f (s := (q, g)) h
  rw [hlS_f (by rw [e]; exact h), e]
theorem par_f {t : Nat → Nat} {L : Nat} (h : (hdQ t L).2 ≠ 0) : (parS2 t L).1 = hdQ t L := par_ff h
theorem mreadStreet {σ : Mem} {t : Nat → Nat} {L : Nat} (hT : TM σ t L) : ∃ τ v, f_X8_readStreet σ = some (nI v, τ) ∧ RE τ (parS2 t L) v ∧ MFr σ τ := by
  have hL := hT.1
  have i116 : isG 116 := Or.inl (by omega)
  have i44 : isG 44 := Or.inr (Or.inl rfl)
  have i59 : isG 59 := Or.inr (Or.inr rfl)
  have l116 : (116 : Int32) = nI 116 := rfl
  have l44 : (44 : Int32) = nI 44 := rfl
  have l59 : (59 : Int32) = nI 59 := rfl
  obtain ⟨τ0, m', z1, z2, z3⟩ := mzero_7 FU 0 (st2 σ 183 10 (nI 0)) (by omega) (by rw [FU_eq]; omega) (fun i hi => absurd hi (Nat.not_lt_zero i))
  have f0 : MFr σ τ0 := fun a i n1 n2 => by
    rw [z3 a i n2]
    by_cases e : a = 183
    · subst e
      rw [st2_k (by omega)]
    · rw [st2_a e]
  have hT0 := hT.fr f0
  obtain ⟨τ1, a1, a2, a3⟩ := mnext hT0 (p := 0) (Nat.zero_le _) (by rw [z3 183 10 (by omega), st2_at])
  have f1 := f0.tr a3.toR
  obtain ⟨τ2, v2, b1, b2, b3⟩ := mtakes (c := 116) (hT.fr f1) a2 (Nat.zero_le _) i116 (by omega)
  have f2 := f1.tr (b3 1000).toR
  have b2' : RQ t L τ2 (hdQ1 t L) v2 := b2
  have e0 : f_X8_readStreet σ = bd2 (some (nI v2, τ2)) fun x5 s6 => if x5 = 0 then (some ((0 : Int32), s6)) else bd2 (f_X8_takesNumber (1 : Int32) (30 : Int32) (1 : Int32) (44 : Int32) s6) fun x7 s8 => if x7 = 0 then (some ((0 : Int32), s8)) else bd2 (f_X8_takesNumber (0 : Int32) (40 : Int32) (2 : Int32) (59 : Int32) s8) fun x9 s10 => if x9 = 0 then (some ((0 : Int32), s10)) else lt ((1 : Int32)) fun x11 => f_X8_readStreet_69 FU x11 s10 := by
    rw [f_X8_readStreet, l_0, lt_eq, lt_eq, z1, f_X8_readStreet_7, l_29, if_pos (by decide), a1, bd_some, l116, b1, l_0]
  have bad : ∀ τ v q, RQ t L τ q v → q.2 ≠ 0 → hdQ t L = q → RE τ (parS2 t L) 0 := fun τ v q h1 h2 h3 => by
    obtain ⟨w1, w2, w3⟩ := h1.2 h2
    have e := par_f (t := t) (L := L) (by rw [h3]; exact h2)
    rw [h3] at e
    refine ⟨fun w => absurd (by rw [e] at w; exact w) h2, fun _ => ⟨rfl, ?_, ?_⟩⟩
    · rw [e]; exact w2
    · rw [e]; exact w3
  by_cases y1 : (hdQ1 t L).2 = 0
  · obtain ⟨r1, r2⟩ := b2'.1 y1
    have q1 : hdQ1 t L = ((hdQ1 t L).1, 0) := pr_eq y1
    have k1 : Qok L (hdQ1 t L) := sgnP_ok ⟨Nat.zero_le _, Nat.zero_le _⟩
    obtain ⟨τ3, v3, c1, c2, c3, c4⟩ := mtakesNumber (lo := 1) (hi := 30) (pos := 1) (c := 44) (hT.fr f2) r2 k1.1 (by omega) (by omega) (by omega) i44 (by omega)
    have f3 := f2.tr c3.toR
    rw [← q1] at c2 c4
    have c2' : RQ t L τ3 (hdQ3 t L) v3 := c2
    by_cases y3 : (hdQ3 t L).2 = 0
    · obtain ⟨s1, s2⟩ := c2'.1 y3
      have q3 : hdQ3 t L = ((hdQ3 t L).1, 0) := pr_eq y3
      have k3 : Qok L (hdQ3 t L) := sgnP_ok (numP_ok k1)
      obtain ⟨τ4, v4, d1, d2, d3, d4⟩ := mtakesNumber (lo := 0) (hi := 40) (pos := 2) (c := 59) (hT.fr f3) s2 k3.1 (by omega) (by omega) (by omega) i59 (by omega)
      have f4 := f3.tr d3.toR
      rw [← q3] at d2 d4
      have d2' : RQ t L τ4 (hdQ t L) v4 := d2
      by_cases y5 : (hdQ t L).2 = 0
      · obtain ⟨u1, u2⟩ := d2'.1 y5
        have q5 : hdQ t L = ((hdQ t L).1, 0) := pr_eq y5
        have hP := hd_PI t L
        have k5 : (hdQ t L).1 ≤ L := hP.1.1
        obtain ⟨x4, -⟩ := sgnP_z y5
        obtain ⟨x2, -⟩ := sgnP_z y3
        have w2 : τ4 190 2 = nI (nv t L (hdQ3 t L).1) := d4 x4
        have w1 : τ4 190 1 = nI (nv t L (hdQ1 t L).1) := by
          rw [d3 190 1 (by omega) (by omega)]
          exact c4 x2
        have w0 : ∀ i, i < 29 → i ≠ 1 → i ≠ 2 → τ4 190 i = nI 0 := fun i h1 h2 h3 => by
          rw [d3 190 i (by omega) (by omega), c3 190 i (by omega) (by omega), b3 1000 190 i (by omega) (by omega), a3 190 i (by omega)]
          exact z2 i h1
        have hR : RA τ4 190 (hdG t L) := ⟨⟨w0 0 (by omega) (by omega) (by omega), w1, w2, w0 3 (by omega) (by omega) (by omega), w0 4 (by omega) (by omega) (by omega)⟩, fun h hh => absurd hh (Nat.not_lt_zero h)⟩
        have h80 : hdG t L 0 ≤ 8 := hP.2.1
        obtain ⟨τ5, v5, g1, g2, g3, g4⟩ := mhouse (hT.fr f4) u2 k5 hR h80
        rw [← q5] at g2 g3
        have f5 := f4.tr g4
        have obt : ∃ m, FU = m + 1 + 1 := ⟨2998, rfl⟩
        obtain ⟨fu, hfu⟩ := obt
        have hfb : 20 < fu := by rw [FU_eq] at hfu; omega
        have h69 : f_X8_readStreet_69 (fu + 1 + 1) (nI 1) τ4 = f_X8_readStreet_69 (fu + 1) (nI v5) τ5 := by
          rw [f_X8_readStreet_69, if_neg (by decide), l_0, ing_ok (by omega) (by omega), n_ix (by omega), w0 0 (by omega) (by omega) (by omega), if_pos rfl, f_X8_readStreet_90, g1, bd2_some, lt_eq]
          by_cases c3 : τ4 183 11 = 3
          · rw [if_pos c3]
          · rw [if_neg c3]
        have e1 : f_X8_readStreet σ = f_X8_readStreet_69 (fu + 1) (nI v5) τ5 := by
          rw [e0, bd2_some, r1, if_neg (by decide), l_1, l_30, l44, c1, bd2_some, s1, if_neg (by decide), l_0, l_40, l_2, l59, d1, bd2_some, u1, if_neg (by decide), lt_eq, hfu, h69]
        obtain ⟨i1, i2⟩ := houS_PI (t := t) hP
        by_cases z : (houS t L (hdQ t L, hdG t L)).1.2 = 0
        · obtain ⟨b1', b2''⟩ := g2.1 z
          have b3' := g3 z
          have b4 : (houS t L (hdQ t L, hdG t L)).2 0 = 0 + 1 := i2 z
          have hw : houS t L (hdQ t L, hdG t L) = (((houS t L (hdQ t L, hdG t L)).1.1, 0), (houS t L (hdQ t L, hdG t L)).2) := pr2_eq z
          have i1a : (houS t L (hdQ t L, hdG t L)).1.1 ≤ L := i1.1.1
          rw [hw] at i1
          unfold parS2
          generalize (houS t L (hdQ t L, hdG t L)).1.1 = a' at hw b2'' i1 i1a
          generalize (houS t L (hdQ t L, hdG t L)).2 = g' at hw b3' b4 i1
          rw [hw]
          obtain ⟨τ, w, p1, p2, p3⟩ := mloop_69 8 (fu + 1) a' g' τ5 (by omega) (by omega) (by omega) (hT.fr f5) b2'' i1a b3' i1
          refine ⟨τ, w, ?_, p2, f5.tr p3⟩
          rw [e1, b1']
          exact p1
        · obtain ⟨b1', b2'', b3'⟩ := g2.2 z
          refine ⟨τ5, 0, ?_, ?_, f5⟩
          · rw [e1, b1', m69_0]
          · unfold parS2
            rw [hlS_f z]
            exact ⟨fun w => absurd w z, fun _ => ⟨rfl, b2'', b3'⟩⟩
      · refine ⟨τ4, 0, ?_, bad τ4 v4 _ d2' y5 rfl, f4⟩
        have u1 := (d2'.2 y5).1
        rw [e0, bd2_some, r1, if_neg (by decide), l_1, l_30, l44, c1, bd2_some, s1, if_neg (by decide), l_0, l_40, l_2, l59, d1, bd2_some, u1, if_pos rfl]
    · refine ⟨τ3, 0, ?_, bad τ3 v3 _ c2' y3 (by unfold hdQ; rw [numP_f y3, sgnP_f y3]), f3⟩
      have s1 := (c2'.2 y3).1
      rw [e0, bd2_some, r1, if_neg (by decide), l_1, l_30, l44, c1, bd2_some, s1, if_pos l_0.symm, l_0]
  · have e3 : hdQ3 t L = hdQ1 t L := by unfold hdQ3; rw [numP_f y1, sgnP_f y1]
    refine ⟨τ2, 0, ?_, bad τ2 v2 _ b2' y1 (by unfold hdQ; rw [e3, numP_f y1, sgnP_f y1]), f2⟩
    have r1 := (b2'.2 y1).1
    rw [e0, bd2_some, r1, if_pos l_0.symm, l_0]
theorem mcopy_32 : ∀ m k σ, k ≤ 29 → 29 - k < m → ∃ τ, f_X8_street_32 m (nI k) σ = some (τ 187 0, st2 (st2 τ 183 4 (nI 1)) 183 17 (nI 0)) ∧ (∀ i, k ≤ i → i < 29 → τ 187 i = σ 190 i) ∧ (∀ i, i < k → τ 187 i = σ 187 i) ∧ Fr (fun a => a = 187) σ τ := by
  intro m
  induction m with
  | zero => intro k σ _ h; omega
  | succ m ih =>
    intro k σ h1 h2
    by_cases c : k = 29
    · subst c
      refine ⟨σ, ?_, fun i h3 h4 => by omega, fun i _ => rfl, Fr.rf⟩
      rw [f_X8_street_32, l_29, if_pos (by decide), l_0, l_1, lt_eq, lt_eq, ing_ok (by omega) (by omega), n_ix (by omega), st2_a (by omega), st2_a (by omega)]
    · obtain ⟨τ, t1, t2, t3, t4⟩ := ih (k + 1) (st2 σ 187 k (σ 190 k)) (by omega) (by omega)
      refine ⟨τ, ?_, fun i h3 h4 => ?_, fun i h3 => ?_, (Fr.st (S := fun a => a = 187) rfl).tr t4⟩
      · rw [← t1, f_X8_street_32, l_29, if_neg (by rw [n_le (by omega) (by omega)]; omega), ing_ok (by omega) (by omega), ing_ok (by omega) (by omega), n_ix (by omega), lt_eq, lt_eq, l_1, n_add]
      · by_cases e : i = k
        · subst e
          rw [t3 i (by omega), st2_at]
        · rw [t2 i (by omega) h4, st2_a (by omega)]
      · rw [t3 i (by omega), st2_k (by omega)]
theorem mstreet {s : Sys} (hs : SysOk s) : MS f_X8_street (stV s) s (stS s) := by
  intro σ hm
  have hT : TM σ (tpN s) s.tl := ⟨hs.ot, hm.m4.1, fun k hk => by
    obtain ⟨e1, e2⟩ := tpN_ok hs hk
    rw [hm.m4.2 k hk]
    exact ⟨e1, e2⟩⟩
  obtain ⟨τ1, v, a1, a2, a3⟩ := mreadStreet hT
  obtain ⟨p1, p2⟩ := par_PI (tpN s) s.tl
  unfold stV stS
  generalize parS2 (tpN s) s.tl = w at a2 p1 p2 ⊢
  have fo : ∀ a, a ≠ 183 → a ≠ 190 → τ1 a = σ a := fun a n1 n2 => funext fun i => a3 a i (by omega) n2
  have f183 : ∀ i, ¬ (10 ≤ i ∧ i ≤ 14) → τ1 183 i = σ 183 i := fun i h => a3 183 i (by omega) (by omega)
  by_cases z : w.1.2 = 0
  · obtain ⟨rfl, hR⟩ := a2.1 z
    rw [if_pos z, if_pos z]
    obtain ⟨τ2, b1, b2, -, b4⟩ := mcopy_32 FU 0 (st2 τ1 183 8 (nI 0)) (by omega) (by rw [FU_eq]; omega)
    have hR2 : RA τ2 187 w.2 := RA_of hR p1.2.1 fun k hk => by
      rw [b2 k (by omega) hk, st2_a (by omega)]
    have h1 := p2 z
    have g : ∀ a, a ≠ 183 → a ≠ 187 → a ≠ 190 → st2 (st2 τ2 183 4 (nI 1)) 183 17 (nI 0) a = σ a := fun a n1 n2 n3 => by
      rw [st2_row n1, st2_row n1, b4 a n2, st2_row n1, fo a n1 n3]
    have g183 : ∀ i, ¬ (10 ≤ i ∧ i ≤ 14) → i ≠ 4 → i ≠ 17 → i ≠ 8 → st2 (st2 τ2 183 4 (nI 1)) 183 17 (nI 0) 183 i = σ 183 i := fun i n1 n2 n3 n4 => by
      rw [st2_k n3, st2_k n2, b4 183 (by omega), st2_k n4, f183 i n1]
    refine ⟨st2 (st2 τ2 183 4 (nI 1)) 183 17 (nI 0), ?_, ⟨?_, ?_, ?_, ?_, ?_, ?_, ?_, ?_⟩, fun a ha => g a (by omega) (by omega) (by omega)⟩
    · rw [f_X8_street, a1, bd2_some, lt_eq, l_0, lt_eq, if_neg (by decide), lt_eq, b1, hR2.1.1]
    · exact hR2.fr (by rw [st2_row (by omega), st2_row (by omega)])
    · show _ = if w.2 0 = 0 then nI 0 else nI 1
      rw [if_neg (by omega), st2_k (by omega), st2_at]
    · exact ⟨st2_at, fun i hi => absurd hi (Nat.not_lt_zero i)⟩
    · exact hm.m3.fr (g 194 (by omega) (by omega) (by omega)) (g 195 (by omega) (by omega) (by omega))
    · refine ⟨?_, fun k hk => absurd hk (Nat.not_lt_zero k)⟩
      rw [st2_k (by omega), st2_k (by omega), b4 183 (by omega), st2_at]
      rfl
    · exact ⟨by rw [g183 9 (by omega) (by omega) (by omega) (by omega)]; exact hm.m5.1, by rw [g183 3 (by omega) (by omega) (by omega) (by omega)]; exact hm.m5.2⟩
    · exact hm.m6.fr (g 184 (by omega) (by omega) (by omega)) (g 185 (by omega) (by omega) (by omega)) (g 186 (by omega) (by omega) (by omega))
    · refine ⟨by rw [g183 23 (by omega) (by omega) (by omega) (by omega)]; exact hm.m7.1, ?_⟩
      rw [g 196 (by omega) (by omega) (by omega)]
      exact hm.m7.2
  · obtain ⟨rfl, r1, r2⟩ := a2.2 z
    rw [if_neg z, if_neg z]
    have e14 : st2 τ1 183 8 (nI 0) 183 14 = nI w.1.2 := by rw [st2_k (by omega)]; exact r2
    have e13 : st2 (st2 τ1 183 8 (nI 0)) 183 9 (nI w.1.2) 183 13 = nI w.1.1 := by rw [st2_k (by omega), st2_k (by omega)]; exact r1
    have g : ∀ a, a ≠ 183 → a ≠ 190 → st2 (st2 τ1 183 8 (nI 0)) 183 9 (nI w.1.2) a = σ a := fun a n1 n2 => by
      rw [st2_row n1, st2_row n1, fo a n1 n2]
    have g183 : ∀ i, ¬ (10 ≤ i ∧ i ≤ 14) → i ≠ 9 → i ≠ 8 → st2 (st2 τ1 183 8 (nI 0)) 183 9 (nI w.1.2) 183 i = σ 183 i := fun i n1 n2 n3 => by
      rw [st2_k n2, st2_k n3, f183 i n1]
    refine ⟨st2 (st2 τ1 183 8 (nI 0)) 183 9 (nI w.1.2), ?_, ⟨?_, ?_, ⟨?_, fun i hi => ?_⟩, ?_, ?_, ?_, ?_, ?_⟩, fun a ha => g a (by omega) (by omega)⟩
    · rw [f_X8_street, a1, bd2_some, lt_eq, l_0, lt_eq, if_pos rfl, e14, lt_eq, e13]
    · exact hm.m1.fr (g 187 (by omega) (by omega))
    · rw [g183 4 (by omega) (by omega) (by omega)]; exact hm.m1b
    · rw [g183 17 (by omega) (by omega) (by omega)]; exact hm.m2.1
    · rw [shm_eq (g 191 (by omega) (by omega))]; exact hm.m2.2 i hi
    · exact hm.m3.fr (g 194 (by omega) (by omega)) (g 195 (by omega) (by omega))
    · refine ⟨?_, fun k hk => absurd hk (Nat.not_lt_zero k)⟩
      rw [st2_k (by omega), st2_at]
      rfl
    · exact ⟨st2_at, by rw [g183 3 (by omega) (by omega) (by omega)]; exact hm.m5.2⟩
    · exact hm.m6.fr (g 184 (by omega) (by omega)) (g 185 (by omega) (by omega)) (g 186 (by omega) (by omega))
    · refine ⟨by rw [g183 23 (by omega) (by omega) (by omega)]; exact hm.m7.1, ?_⟩
      rw [g 196 (by omega) (by omega)]
      exact hm.m7.2
theorem both_street : BOTH f_X7_street f_X8_street := fun s hs => ⟨stV s, stS s, stS_ok hs, xstreet hs, mstreet hs⟩
