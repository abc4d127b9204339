/-! PURE, 43: the whole street, read by the class -/
noncomputable def hdQ1 (t : Nat → Nat) (L : Nat) : Nat × Nat := sgnP t L 116 (0, 0)
noncomputable def hdQ3 (t : Nat → Nat) (L : Nat) : Nat × Nat := sgnP t L 44 (numP t L 1 30 (hdQ1 t L))
noncomputable def hdQ (t : Nat → Nat) (L : Nat) : Nat × Nat := sgnP t L 59 (numP t L 0 40 (hdQ3 t L))
noncomputable def hdG (t : Nat → Nat) (L : Nat) : Nat → Nat := fun k => if k = 1 then nv t L (hdQ1 t L).1 else if k = 2 then nv t L (hdQ3 t L).1 else 0
noncomputable def hlS (t : Nat → Nat) (L : Nat) : Nat → (Nat × Nat) × (Nat → Nat) → (Nat × Nat) × (Nat → Nat)
  | 0, s => s
  | k + 1, s => if s.1.2 = 0 ∧ s.1.1 < L then hlS t L k (houS t L s) else s
noncomputable def parS2 (t : Nat → Nat) (L : Nat) : (Nat × Nat) × (Nat → Nat) := hlS t L 8 (houS t L (hdQ t L, hdG t L))
/-- what is so of a street that is read so far -/
def PI (L : Nat) (s : (Nat × Nat) × (Nat → Nat)) : Prop := Qok L s.1 ∧ s.2 0 ≤ 8 ∧ (s.1.2 = 0 → SB s.2 ∧ s.2 3 = 0 ∧ s.2 4 = 0)
theorem houS_PI {t : Nat → Nat} {L : Nat} {s : (Nat × Nat) × (Nat → Nat)} (h : PI L s) : PI L (houS t L s) ∧ ((houS t L s).1.2 = 0 → (houS t L s).2 0 = s.2 0 + 1) := by
  obtain ⟨q, g⟩ := s
  obtain ⟨h1, h2, h3⟩ := h
  have h2' : g 0 ≤ 8 := h2
  by_cases z : (houQ t L (g 0) q).2 = 0
  · obtain ⟨z4, z4a, z4b, z4c⟩ := sgnP_z z
    obtain ⟨z3, z3a, z3b, z3c, z3d⟩ := numP_z z4
    obtain ⟨z2, z2a, z2b, z2c⟩ := sgnP_z z3
    obtain ⟨z1, z1a, z1b, z1c, z1d⟩ := numP_z z2
    obtain ⟨z0, z0a, z0b, z0c, z0d⟩ := srtP_z z1
    have es : (houS t L (q, g)).2 = addG g (kindN (t q.1)) (nv t L (srtP t L (g 0) q).1) (nv t L (sgnP t L 44 (numP t L 0 99 (srtP t L (g 0) q))).1) := if_pos z
    obtain ⟨b1, b2, b3⟩ := h3 z0
    have kl := kindN_le (t q.1)
    refine ⟨⟨houQ_ok h1, ?_, fun _ => ⟨?_, ?_, ?_⟩⟩, fun _ => ?_⟩
    · rw [es]; show g 0 + 1 ≤ 8; omega
    · rw [es]; exact addG_SB b1 z0c (by omega) kl z1c z3b z3c
    · rw [es, addG_lo (by omega) (by omega)]; exact b2
    · rw [es, addG_lo (by omega) (by omega)]; exact b3
    · rw [es]; rfl
  · have es : (houS t L (q, g)).2 = g := if_neg z
    exact ⟨⟨houQ_ok h1, by rw [es]; exact h2, fun w => absurd w z⟩, fun w => absurd w z⟩
theorem hlS_PI {t : Nat → Nat} {L : Nat} : ∀ k s, PI L s → PI L (hlS t L k s) ∧ ((hlS t L k s).1.2 = 0 → s.1.2 = 0 ∧ s.2 0 ≤ (hlS t L k s).2 0) := by
  intro k
  induction k with
  | zero => intro s h; exact ⟨h, fun w => ⟨w, Nat.le_refl _⟩⟩
  | succ k ih =>
    intro s h
    rw [hlS]
    by_cases c : s.1.2 = 0 ∧ s.1.1 < L
    · rw [if_pos c]
      obtain ⟨i1, i2⟩ := houS_PI (t := t) h
      obtain ⟨j1, j2⟩ := ih _ i1
      refine ⟨j1, fun w => ⟨c.1, ?_⟩⟩
      obtain ⟨e1, e2⟩ := j2 w
      rw [i2 e1] at e2
      omega
    · rw [if_neg c]
      exact ⟨h, fun w => ⟨w, Nat.le_refl _⟩⟩
theorem hd_PI (t : Nat → Nat) (L : Nat) : PI L (hdQ t L, hdG t L) := by
  have k0 : Qok L ((0, 0) : Nat × Nat) := ⟨Nat.zero_le _, Nat.zero_le _⟩
  have k : Qok L (hdQ t L) := sgnP_ok (numP_ok (sgnP_ok (numP_ok (sgnP_ok k0))))
  refine ⟨k, ?_, fun z => ⟨⟨?_, ?_, ?_, ?_, fun h hh => ?_⟩, rfl, rfl⟩⟩
  · show 0 ≤ 8; omega
  · show 0 ≤ 8; omega
  · obtain ⟨z4, -⟩ := sgnP_z z
    obtain ⟨z3, -⟩ := numP_z z4
    obtain ⟨z2, -⟩ := sgnP_z z3
    exact (numP_z z2).2.2.2.1
  · obtain ⟨z4, -⟩ := sgnP_z z
    exact (numP_z z4).2.2.2.1
  · show 0 < 128; omega
  · exact absurd hh (Nat.not_lt_zero h)
theorem par_PI (t : Nat → Nat) (L : Nat) : PI L (parS2 t L) ∧ ((parS2 t L).1.2 = 0 → 1 ≤ (parS2 t L).2 0) := by
  obtain ⟨i1, i2⟩ := houS_PI (t := t) (hd_PI t L)
  obtain ⟨j1, j2⟩ := hlS_PI (t := t) 8 _ i1
  unfold parS2
  refine ⟨j1, fun w => ?_⟩
  obtain ⟨e1, e2⟩ := j2 w
  have e4 : (houS t L (hdQ t L, hdG t L)).2 0 = 0 + 1 := i2 e1
  rw [e4] at e2
  exact e2
theorem xread_70 {t : Nat → Nat} {L : Nat} : ∀ k m s σ, k ≤ 8 → k < m → TP σ t L → QX σ s.1 → PI L s → (s.1.2 = 0 → RS σ 3 s.2) → ∃ τ, f_X6_read_70 m (nI (9 - k)) σ = some τ ∧ QX τ (hlS t L k s).1 ∧ ((hlS t L k s).1.2 = 0 → RS τ 3 (hlS t L k s).2) ∧ XF3 σ τ := by
  intro k
  induction k with
  | zero =>
    intro m s σ _ hm hT hq hP hR
    obtain ⟨m, rfl⟩ : ∃ m', m = m' + 1 := ⟨m - 1, by omega⟩
    refine ⟨σ, ?_, hq, hR, XF3.rf⟩
    rw [f_X6_read_70, l_8, if_pos (by decide)]
  | succ k ih =>
    intro m s σ hk hm hT hq hP hR
    obtain ⟨m, rfl⟩ : ∃ m', m = m' + 1 := ⟨m - 1, by omega⟩
    obtain ⟨q, g⟩ := s
    obtain ⟨p1, p2, p3⟩ := hP
    have p1a : q.1 ≤ L := p1.1
    have p1b : q.2 ≤ 3 := p1.2
    have hL := hT.1
    have e2 : σ 2 2 = nI q.1 := hq.1
    have e3 : σ 2 3 = nI q.2 := hq.2
    have c8 : ¬ nI 8 < nI (9 - (k + 1)) := by rw [n_lt (by omega) (by omega)]; omega
    rw [hlS]
    by_cases c1 : q.2 = 0
    · by_cases c2 : q.1 < L
      · rw [if_pos ⟨c1, c2⟩]
        obtain ⟨τ1, a1, a2, a3, a4⟩ := xhouse hT hq p1 hR p2
        obtain ⟨τ, t1, t2, t3, t4⟩ := ih m (houS t L (q, g)) τ1 (by omega) (by omega) (hT.fr3 a4) a2 (houS_PI ⟨p1, p2, p3⟩).1 a3
        refine ⟨τ, ?_, t2, t3, a4.tr t4⟩
        rw [f_X6_read_70, l_8, if_neg c8, e3, c1, if_pos l_0.symm, hT.2.1, e2, if_neg (by rw [n_le (by omega) (by omega)]; omega), a1, bd_some, lt_eq, l_1, n_add, show 9 - (k + 1) + 1 = 9 - k by omega]
        exact t1
      · rw [if_neg (fun w => c2 w.2)]
        refine ⟨σ, ?_, hq, hR, XF3.rf⟩
        rw [f_X6_read_70, l_8, if_neg c8, e3, c1, if_pos l_0.symm, hT.2.1, e2, if_pos ((n_le (by omega) (by omega)).mpr (by omega))]
    · rw [if_neg (fun w => c1 w.1)]
      refine ⟨σ, ?_, hq, hR, XF3.rf⟩
      rw [f_X6_read_70, l_8, if_neg c8, e3, l_0, if_neg (by rw [n_eq (by omega) (by omega)]; exact c1)]
/-- all that is left alone by a reading -/
def XF4 (σ τ : Mem) : Prop := ∀ a i, ¬ (a = 2 ∧ (i = 2 ∨ i = 3)) → ¬ (a = 3 ∧ (i = 3 ∨ i = 4 ∨ i = 5)) → ¬ (4 ≤ a ∧ a ≤ 6) → τ a i = σ a i
theorem XF4.tr {σ τ υ : Mem} (h1 : XF4 σ τ) (h2 : XF4 τ υ) : XF4 σ υ := fun a i n1 n2 n3 => (h2 a i n1 n2 n3).trans (h1 a i n1 n2 n3)
theorem XF2.to4 {σ τ : Mem} (h : XF2 σ τ) : XF4 σ τ := fun a i n1 _ _ => h a i n1
theorem XF3.to4 {σ τ : Mem} (h : XF3 σ τ) : XF4 σ τ := fun a i n1 n2 n3 => h a i n1 (by omega) n3
theorem XF4.st {σ : Mem} {k : Nat} {x : Int32} (h : k = 3 ∨ k = 4 ∨ k = 5) : XF4 σ (st2 σ 3 k x) := fun a i n1 n2 n3 => by
  by_cases e : a = 3
  · subst e
    rw [st2_k (by omega)]
  · rw [st2_a e]
theorem TP.fr4 {σ τ : Mem} {t : Nat → Nat} {L : Nat} (h : TP σ t L) (hF : XF4 σ τ) : TP τ t L := ⟨h.1, by rw [hF 2 1 (by omega) (by omega) (by omega)]; exact h.2.1, fun k hk => by rw [hF 7 k (by omega) (by omega) (by omega)]; exact h.2.2 k hk⟩
theorem QX.st {σ : Mem} {q : Nat × Nat} {k : Nat} {x : Int32} (h : QX σ q) : QX (st2 σ 3 k x) q := ⟨by rw [st2_a (by omega)]; exact h.1, by rw [st2_a (by omega)]; exact h.2⟩
theorem xread {σ : Mem} {t : Nat → Nat} {L : Nat} (hT : TP σ t L) (h6 : σ 3 6 = nI 0) (h7 : σ 3 7 = nI 0) : ∃ τ, f_X6_read σ = some τ ∧ QX τ (parS2 t L).1 ∧ ((parS2 t L).1.2 = 0 → RS τ 3 (parS2 t L).2) ∧ XF4 σ τ := by
  have k0 : Qok L ((0, 0) : Nat × Nat) := ⟨Nat.zero_le _, Nat.zero_le _⟩
  have q0 : QX (st2 (st2 (st2 σ 2 2 (nI 0)) 2 3 (nI 0)) 3 3 (nI 0)) (0, 0) := ⟨by rw [st2_a (by omega), st2_k (by omega), st2_at], by rw [st2_a (by omega), st2_at]⟩
  have f0 : XF4 σ (st2 (st2 (st2 σ 2 2 (nI 0)) 2 3 (nI 0)) 3 3 (nI 0)) := ((XF2.st (Or.inl rfl)).tr (XF2.st (Or.inr rfl))).to4.tr (XF4.st (Or.inl rfl))
  obtain ⟨τ1, a1, a2, a3⟩ := xsgn (c := 116) (hT.fr4 f0) q0 k0 (by omega)
  have k1 := sgnP_ok (t := t) (c := 116) k0
  have f1 := f0.tr a3.to4
  obtain ⟨τ2, v2, b1, b2, b3, b4, b5⟩ := xnum (lo := 1) (hi := 30) (hT.fr4 f1) a2 k1 (by omega) (by omega)
  have k2 := numP_ok (t := t) (lo := 1) (hi := 30) k1
  have f2 := (f1.tr b4.to4).tr (XF4.st (k := 4) (x := nI v2) (Or.inr (Or.inl rfl)))
  obtain ⟨τ3, c1, c2, c3⟩ := xsgn (c := 44) (hT.fr4 f2) (b3.st (k := 4)) k2 (by omega)
  have k3 := sgnP_ok (t := t) (c := 44) k2
  have f3 := f2.tr c3.to4
  obtain ⟨τ4, v4, d1, d2, d3, d4, d5⟩ := xnum (lo := 0) (hi := 40) (hT.fr4 f3) c2 k3 (by omega) (by omega)
  have k4 := numP_ok (t := t) (lo := 0) (hi := 40) k3
  have f4 := (f3.tr d4.to4).tr (XF4.st (k := 5) (x := nI v4) (Or.inr (Or.inr rfl)))
  obtain ⟨τ5, e1, e2, e3⟩ := xsgn (c := 59) (hT.fr4 f4) (d3.st (k := 5)) k4 (by omega)
  have f5 := f4.tr e3.to4
  have hR5 : (hdQ t L).2 = 0 → RS τ5 3 (hdG t L) := fun z => by
    obtain ⟨z4, -⟩ := sgnP_z z
    obtain ⟨z3, -⟩ := numP_z z4
    obtain ⟨z2, -⟩ := sgnP_z z3
    have w2 := b5 z2
    have w4 := d5 z4
    have g2 : τ2 3 3 = nI 0 := by rw [b4 3 3 (by omega), a3 3 3 (by omega), st2_at]
    refine ⟨⟨?_, ?_, ?_, ?_, ?_⟩, fun h hh => absurd hh (Nat.not_lt_zero h)⟩
    · rw [e3 3 3 (by omega), st2_k (by omega), d4 3 3 (by omega), c3 3 3 (by omega), st2_k (by omega), g2]; rfl
    · rw [e3 3 4 (by omega), st2_k (by omega), d4 3 4 (by omega), c3 3 4 (by omega), st2_at, w2]; rfl
    · rw [e3 3 5 (by omega), st2_at, w4]; rfl
    · rw [f5 3 6 (by omega) (by omega) (by omega), h6]; rfl
    · rw [f5 3 7 (by omega) (by omega) (by omega), h7]; rfl
  have hP := hd_PI t L
  obtain ⟨τ6, i1, i2, i3, i4⟩ := xhouse (q := hdQ t L) (hT.fr4 f5) e2 hP.1 hR5 hP.2.1
  obtain ⟨τ, j1, j2, j3, j4⟩ := xread_70 8 FU (houS t L (hdQ t L, hdG t L)) τ6 (by omega) (by rw [FU_eq]; omega) ((hT.fr4 f5).fr3 i4) i2 (houS_PI hP).1 i3
  have j1' : f_X6_read_70 FU (nI 1) τ6 = some τ := j1
  unfold parS2
  refine ⟨τ, ?_, j2, j3, (f5.tr i4.to4).tr j4.to4⟩
  have l116 : (116 : Int32) = nI 116 := rfl
  have l44 : (44 : Int32) = nI 44 := rfl
  have l59 : (59 : Int32) = nI 59 := rfl
  rw [f_X6_read, l_0, lt_eq, lt_eq, lt_eq, l116, a1, bd_some, l_1, l_30, b1, bd2_some, lt_eq, l44, c1, bd_some, l_40, d1, bd2_some, lt_eq, l59, e1, bd_some, i1, bd_some, lt_eq, j1']
/-- the tape as numbers -/
def tpN (s : Sys) : Nat → Nat := fun k => (s.tp k).toInt.toNat
theorem tpN_ok {s : Sys} (hs : SysOk s) {k : Nat} (hk : k < s.tl) : s.tp k = nI (tpN s k) ∧ tpN s k ≤ 255 := by
  obtain ⟨j, e, -, hj⟩ := hs.otp k hk
  unfold tpN
  rw [e, n_int (by omega)]
  exact ⟨rfl, hj⟩
noncomputable def stV (s : Sys) : Int32 := if (parS2 (tpN s) s.tl).1.2 = 0 then nI ((parS2 (tpN s) s.tl).2 0) else -1000100 - nI (parS2 (tpN s) s.tl).1.1
def Sys.w_told1 (s : Sys) (g : Nat → Nat) : Sys := (g, 0, s.act, s.im, 0, s.tp, s.flt, s.sta, s.gone, s.lane, s.size, s.item, s.tn, s.tr)
def Sys.w_told0 (s : Sys) (x : Int32) : Sys := (s.g, s.m, s.act, s.im, 0, s.tp, x, s.sta, s.gone, s.lane, s.size, s.item, s.tn, s.tr)
noncomputable def stS (s : Sys) : Sys := if (parS2 (tpN s) s.tl).1.2 = 0 then s.w_told1 (parS2 (tpN s) s.tl).2 else s.w_told0 (nI (parS2 (tpN s) s.tl).1.2)
theorem stS_ok {s : Sys} (hs : SysOk s) : SysOk (stS s) := by
  obtain ⟨p1, p2⟩ := par_PI (tpN s) s.tl
  unfold stS
  generalize parS2 (tpN s) s.tl = w at p1 p2 ⊢
  by_cases z : w.1.2 = 0
  · rw [if_pos z]
    obtain ⟨b1, b2, b3⟩ := p1.2.2 z
    have h1 := p2 z
    exact ⟨⟨b1, by show w.2 3 ≤ 999; omega⟩, Nat.zero_le _, fun i hi => absurd hi (Nat.not_lt_zero i), fun h => absurd h (Nat.not_lt_zero 0), fun i hi => ⟨(hs.oi i hi).1, fun _ => h1⟩, Nat.zero_le _, fun k hk => absurd hk (Nat.not_lt_zero k), hs.or, hs.on⟩
  · rw [if_neg z]
    exact ⟨hs.og, hs.om, hs.oa, hs.om1, hs.oi, Nat.zero_le _, fun k hk => absurd hk (Nat.not_lt_zero k), hs.or, hs.on⟩
theorem xstreet {s : Sys} (hs : SysOk s) : XS f_X7_street (stV s) s (stS s) := by
  intro σ hc
  have hT : TP σ (tpN s) s.tl := ⟨hs.ot, hc.c4.1, fun k hk => by
    obtain ⟨e1, e2⟩ := tpN_ok hs hk
    rw [hc.c4.2 k hk]
    exact ⟨e1, e2⟩⟩
  obtain ⟨τ1, a1, a2, a3, a4⟩ := xread hT hc.c5.2.2.1 hc.c5.2.2.2
  obtain ⟨p1, p2⟩ := par_PI (tpN s) s.tl
  unfold stV stS
  generalize parS2 (tpN s) s.tl = w at a2 a3 p1 p2 ⊢
  have p1b : w.1.2 ≤ 3 := p1.1.2
  have fo : ∀ a, ¬ (a = 2) → ¬ (3 ≤ a ∧ a ≤ 6) → τ1 a = σ a := fun a n1 n2 => funext fun i => a4 a i (by omega) (by omega) (by omega)
  have e23 : st2 τ1 2 1 (nI 0) 2 3 = nI w.1.2 := by rw [st2_k (by omega)]; exact a2.2
  have e22 : st2 τ1 2 1 (nI 0) 2 2 = nI w.1.1 := by rw [st2_k (by omega)]; exact a2.1
  have c36 : τ1 3 6 = nI 0 := by rw [a4 3 6 (by omega) (by omega) (by omega)]; exact hc.c5.2.2.1
  have c37 : τ1 3 7 = nI 0 := by rw [a4 3 7 (by omega) (by omega) (by omega)]; exact hc.c5.2.2.2
  have c08 : τ1 0 = σ 0 := fo 0 (by omega) (by omega)
  have hF1 : Fr (fun a => a < 183) σ τ1 := fun a ha => fo a (by omega) (by omega)
  by_cases z : w.1.2 = 0
  · rw [if_pos z, if_pos z]
    have hR : RS (st2 τ1 2 1 (nI 0)) 3 w.2 := (a3 z).fr fun a h1 h2 => st2_row (by omega)
    obtain ⟨τ2, b1, b2, b3⟩ := xtake (b := 8) hR p1.2.1 (Or.inr (by omega))
    have g : ∀ a, a ≠ 13 → a ≠ 2 → ¬ (8 ≤ a ∧ a ≤ 11) → st2 τ2 13 2 (nI 0) a = τ1 a := fun a n1 n2 n3 => by
      rw [st2_row n1, b3 a (by omega), st2_row n2]
    have g2 : ∀ a, a ≠ 13 → a ≠ 2 → ¬ (3 ≤ a ∧ a ≤ 11) → st2 τ2 13 2 (nI 0) a = σ a := fun a n1 n2 n3 => by
      rw [g a n1 n2 (by omega), fo a n2 (by omega)]
    have r8 : RS (st2 τ2 13 2 (nI 0)) 8 w.2 := b2.fr fun a h1 h2 => st2_row (by omega)
    refine ⟨st2 τ2 13 2 (nI 0), ?_, ⟨r8, ?_, ?_, ?_, ?_, ?_, ?_⟩, ?_⟩
    · rw [f_X7_street, a1, bd_some, l_0, lt_eq, e23, z, if_pos rfl, b1, bd_some, f_X0_forget, l_0, lt_eq, bd_some, r8.1.1]
    · obtain ⟨o, o1, o2, o3, o4⟩ := hc.c2
      exact ⟨o, o1, by rw [st2_k (by omega), b3 13 (by omega), st2_row (by omega), fo 13 (by omega) (by omega)]; exact o2, st2_at, fun i hi => absurd hi (Nat.not_lt_zero i)⟩
    · exact hc.c3.fr fun a h1 h2 => g2 a (by omega) (by omega) (by omega)
    · exact ⟨by rw [st2_a (by omega), b3 2 (by omega), st2_at]; rfl, fun k hk => absurd hk (Nat.not_lt_zero k)⟩
    · refine ⟨?_, ?_, ?_, ?_⟩
      · rw [g2 0 (by omega) (by omega) (by omega)]; exact hc.c5.1
      · rw [g2 0 (by omega) (by omega) (by omega)]; exact hc.c5.2.1
      · rw [g 3 (by omega) (by omega) (by omega)]; exact c36
      · rw [g 3 (by omega) (by omega) (by omega)]; exact c37
    · exact hc.c6.fr fun a h1 h2 => g2 a (by omega) (by omega) (by omega)
    · exact hc.c7.fr (g2 157 (by omega) (by omega) (by omega)) (g2 158 (by omega) (by omega) (by omega))
    · exact fun a ha => g2 a (by omega) (by omega) (by omega)
  · rw [if_neg z, if_neg z]
    have zn : ¬ nI w.1.2 = nI 0 := by rw [n_eq (by omega) (by omega)]; exact z
    have g : ∀ a, a ≠ 0 → a ≠ 2 → st2 (st2 τ1 2 1 (nI 0)) 0 8 (nI w.1.2) a = τ1 a := fun a n1 n2 => by
      rw [st2_row n1, st2_row n2]
    have g2 : ∀ a, a ≠ 0 → a ≠ 2 → ¬ (3 ≤ a ∧ a ≤ 6) → st2 (st2 τ1 2 1 (nI 0)) 0 8 (nI w.1.2) a = σ a := fun a n1 n2 n3 => by
      rw [g a n1 n2, fo a n2 n3]
    refine ⟨st2 (st2 τ1 2 1 (nI 0)) 0 8 (nI w.1.2), ?_, ⟨?_, ?_, ?_, ?_, ?_, ?_, ?_⟩, ?_⟩
    · rw [f_X7_street, a1, bd_some, l_0, lt_eq, e23, if_neg zn, lt_eq, st2_a (by omega), e22]
    · exact hc.c1.fr fun a h1 h2 => g2 a (by omega) (by omega) (by omega)
    · exact hc.c2.fr fun a h1 h2 => g2 a (by omega) (by omega) (by omega)
    · exact hc.c3.fr fun a h1 h2 => g2 a (by omega) (by omega) (by omega)
    · exact ⟨by rw [st2_a (by omega), st2_at]; rfl, fun k hk => absurd hk (Nat.not_lt_zero k)⟩
    · refine ⟨st2_at, ?_, ?_, ?_⟩
      · rw [st2_k (by omega), st2_a (by omega), c08]; exact hc.c5.2.1
      · rw [g 3 (by omega) (by omega)]; exact c36
      · rw [g 3 (by omega) (by omega)]; exact c37
    · exact hc.c6.fr fun a h1 h2 => g2 a (by omega) (by omega) (by omega)
    · exact hc.c7.fr (g2 157 (by omega) (by omega) (by omega)) (g2 158 (by omega) (by omega) (by omega))
    · exact fun a ha => g2 a (by omega) (by omega) (by omega)
