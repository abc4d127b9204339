/-! PURE, 45: a street told, read by the reference -/
/-- what a reading step says of itself -/
def RQ (t : Nat → Nat) (L : Nat) (σ : Mem) (q : Nat × Nat) (v : Nat) : Prop := (q.2 = 0 → v = 1 ∧ TK t L σ q.1) ∧ (q.2 ≠ 0 → v = 0 ∧ σ 183 13 = nI q.1 ∧ σ 183 14 = nI q.2)
theorem RQ.v {t : Nat → Nat} {L : Nat} {σ : Mem} {q : Nat × Nat} {v : Nat} (h : RQ t L σ q v) : v = 0 ∨ v = 1 := by
  by_cases c : q.2 = 0
  · exact Or.inr (h.1 c).1
  · exact Or.inl (h.2 c).1
theorem gd_v {α : Type} {v : Nat} {k : Option α} (h : v = 0 ∨ v = 1) : gd (nI v = 0 ∨ nI v = 1) k = k := gd_ok (by rcases h with rfl | rfl; exact Or.inl rfl; exact Or.inr rfl)
theorem mfaults {σ : Mem} {f : Nat} : f_X8_faults (nI f) σ = some (0, st2 σ 183 14 (nI f)) := by
  rw [f_X8_faults, lt_eq]
theorem mfaultF {σ : Mem} {n f : Nat} : MFn n σ (st2 σ 183 14 (nI f)) := fun a i n1 _ => by
  by_cases e : a = 183
  · subst e
    rw [st2_k (by omega)]
  · rw [st2_a e]
theorem mtakes {σ : Mem} {t : Nat → Nat} {L a c : Nat} (hT : TM σ t L) (hK : TK t L σ a) (ha : a ≤ L) (hc : isG c) (hc2 : c ≤ 255) : ∃ τ v, f_X8_takes (nI c) σ = some (nI v, τ) ∧ RQ t L τ (sgnP t L c (a, 0)) v ∧ (∀ n, MFn n σ τ) := by
  have hL := hT.1
  obtain ⟨k1, k2, k3, k4⟩ := hK
  have z : ¬ ((a, 0) : Nat × Nat).2 ≠ 0 := by show ¬ (0 ≠ 0); omega
  have hc' : (97 ≤ c ∧ c ≤ 122) ∨ c = 44 ∨ c = 59 := hc
  have no : ¬ (a < L ∧ t a = c) → f_X8_takes (nI c) σ = f_X8_takes_16 (nI c) σ → ∃ τ v, f_X8_takes (nI c) σ = some (nI v, τ) ∧ RQ t L τ (sgnP t L c (a, 0)) v ∧ (∀ n, MFn n σ τ) := fun w e => by
    have es : sgnP t L c (a, 0) = (a, 1) := by rw [sgnP, if_neg z, if_neg w]
    refine ⟨st2 σ 183 14 (nI 1), 0, ?_, ?_, fun n => mfaultF⟩
    · rw [e, f_X8_takes_16, l_1, mfaults, bd2_some, l_0, gd_ok (Or.inl rfl)]
    · rw [es]
      exact ⟨fun w2 => absurd w2 (by show ¬ (1 = 0); omega), fun _ => ⟨rfl, by rw [st2_k (by omega)]; exact k1, st2_at⟩⟩
  by_cases c1 : a < L
  · obtain ⟨v1, v2⟩ := hT.2.2 a c1
    by_cases c2 : dR t L a = 0
    · obtain ⟨g1, g2, g3, g4⟩ := k3 c1 c2
      by_cases c3 : t a = c
      · have g5 := g1 (by rw [c3]; exact hc)
        obtain ⟨τ, t1, t2, t3⟩ := mnext hT (p := a + 1) (by omega) g4
        have es : sgnP t L c (a, 0) = (a + 1, 0) := by rw [sgnP, if_neg z, if_pos ⟨c1, c3⟩]
        refine ⟨τ, 1, ?_, ?_, fun n => t3.toN⟩
        · rw [f_X8_takes, g5, if_pos l_1.symm, g3, c3, if_pos rfl, t1, bd_some, l_1]
        · rw [es]
          exact ⟨fun _ => ⟨rfl, t2⟩, fun w => absurd rfl w⟩
      · apply no (fun w => c3 w.2)
        rcases Classical.em (isG (t a)) with c4 | c4
        · rw [f_X8_takes, g1 c4, if_pos l_1.symm, g3, if_neg (by rw [n_eq (by omega) (by omega)]; exact c3)]
        · rw [f_X8_takes, g2 c4, if_neg (by decide)]
    · have dg : isD (t a) := (Classical.not_not.mp (fun w => c2 (dR_0.mpr w)) : a < L ∧ isD (t a)).2
      have dg' : 48 ≤ t a ∧ t a ≤ 57 := dg
      apply no (fun w => by omega)
      obtain ⟨g1, g2, g3⟩ := k4 c2
      by_cases c4 : dR t L a ≤ 2
      · rw [f_X8_takes, (g1 c4).1, if_neg (by decide)]
      · rw [f_X8_takes, g2 c4, if_neg (by decide)]
  · apply no (fun w => c1 w.1)
    rw [f_X8_takes, k2 (by omega), if_neg (by decide)]
theorem mtakesNumber {σ : Mem} {t : Nat → Nat} {L a lo hi pos c : Nat} (hT : TM σ t L) (hK : TK t L σ a) (ha : a ≤ L) (hlo : lo < 100) (hhi : hi < 100) (hpos : pos < 29) (hc : isG c) (hc2 : c ≤ 255) : ∃ τ v, f_X8_takesNumber (nI lo) (nI hi) (nI pos) (nI c) σ = some (nI v, τ) ∧ RQ t L τ (sgnP t L c (numP t L lo hi (a, 0))) v ∧ MFn pos σ τ ∧ ((numP t L lo hi (a, 0)).2 = 0 → τ 190 pos = nI (nv t L a)) := by
  have hL := hT.1
  have dl := dR_le (t := t) ha
  obtain ⟨k1, k2, k3, k4⟩ := hK
  have z : ¬ ((a, 0) : Nat × Nat).2 ≠ 0 := by show ¬ (0 ≠ 0); omega
  have no : ∀ f, f ≠ 0 → numP t L lo hi (a, 0) = (a, f) → f_X8_takesNumber (nI lo) (nI hi) (nI pos) (nI c) σ = f_X8_takesNumber_37 (nI lo) (nI hi) (nI pos) (nI c) (nI f) σ → ∃ τ v, f_X8_takesNumber (nI lo) (nI hi) (nI pos) (nI c) σ = some (nI v, τ) ∧ RQ t L τ (sgnP t L c (numP t L lo hi (a, 0))) v ∧ MFn pos σ τ ∧ ((numP t L lo hi (a, 0)).2 = 0 → τ 190 pos = nI (nv t L a)) := fun f hf en e => by
    have es : sgnP t L c (a, f) = (a, f) := by rw [sgnP, if_pos hf]
    refine ⟨st2 σ 183 14 (nI f), 0, ?_, ?_, mfaultF, fun w => by rw [en] at w; exact absurd w hf⟩
    · rw [e, f_X8_takesNumber_37, mfaults, bd2_some, gd_ok (Or.inl rfl), l_0]
    · rw [en, es]
      exact ⟨fun w2 => absurd w2 hf, fun _ => ⟨rfl, by rw [st2_k (by omega)]; exact k1, st2_at⟩⟩
  have lo1 : (nI 1) = (1 : Int32) := rfl
  by_cases c1 : dR t L a = 1 ∨ dR t L a = 2
  · obtain ⟨g1, g2, g3⟩ := k4 (by omega)
    obtain ⟨g4, g5⟩ := g1 (by omega)
    have cd : dR t L ((a, 0) : Nat × Nat).1 = 1 ∨ dR t L ((a, 0) : Nat × Nat).1 = 2 := c1
    have nl := nv_le c1
    have dd := Classical.propDecidable (rng (nI (nv t L a)) lo hi)
    have rw1 : f_X8_in (nI (nv t L a)).toInt64 (nI lo).toInt64 (nI hi).toInt64 σ = some (if rng (nI (nv t L a)) lo hi then nI 1 else nI 0, σ) := min_rng (by rw [w_int, n_int (by omega)]) (by rw [w_int, n_int (by omega)]) (by omega)
    have r1 : rng (nI (nv t L a)) lo hi ↔ lo ≤ nv t L a ∧ nv t L a ≤ hi := by
      rw [rng_int (by omega), n_int (by omega)]
      omega
    by_cases c2 : lo ≤ nv t L a ∧ nv t L a ≤ hi
    · have c2' : lo ≤ nv t L ((a, 0) : Nat × Nat).1 ∧ nv t L ((a, 0) : Nat × Nat).1 ≤ hi := c2
      have en : numP t L lo hi (a, 0) = (a + dR t L a, 0) := by rw [numP, if_neg z, if_pos cd, if_pos c2']
      have hF0 : MFn pos σ (st2 σ 190 pos (nI (nv t L a))) := fun b i n1 n2 => by
        by_cases e : b = 190
        · subst e
          rw [st2_k (by omega)]
        · rw [st2_a e]
      obtain ⟨τ1, a1, a2, a3⟩ := mnext (hT.fr hF0.toR) (p := a + dR t L a) dl (by rw [st2_a (by omega)]; exact g3)
      obtain ⟨τ, v, b1, b2, b3⟩ := mtakes ((hT.fr hF0.toR).fr a3.toR) a2 dl hc hc2
      refine ⟨τ, v, ?_, by rw [en]; exact b2, (hF0.tr a3.toN).tr (b3 pos), fun _ => ?_⟩
      · rw [f_X8_takesNumber, g4, l_2, if_pos rfl, g5, rw1, if_pos (r1.mpr c2), bd2_some, if_neg (by decide), ing_ok hpos (by omega), n_ix (by omega), g5, lt_eq, a1, bd_some, b1, bd2_some]
        exact gd_v b2.v
      · have b4 := b3 1000 190 pos (by omega) (by omega)
        rw [b4, a3 190 pos (by omega), st2_at]
    · have c2' : ¬ (lo ≤ nv t L ((a, 0) : Nat × Nat).1 ∧ nv t L ((a, 0) : Nat × Nat).1 ≤ hi) := c2
      have en : numP t L lo hi (a, 0) = (a, 2) := by rw [numP, if_neg z, if_pos cd, if_neg c2']
      apply no 2 (by omega) en
      rw [f_X8_takesNumber, g4, l_2, if_pos rfl, g5, rw1, if_neg (fun w => c2 (r1.mp w)), bd2_some, if_pos l_0.symm, f_X8_takesNumber_23, g4, l_2, if_pos rfl]
  · have cd : ¬ (dR t L ((a, 0) : Nat × Nat).1 = 1 ∨ dR t L ((a, 0) : Nat × Nat).1 = 2) := c1
    have en : numP t L lo hi (a, 0) = (a, 1) := by rw [numP, if_neg z, if_neg cd]
    have t2 : ¬ σ 183 11 = 2 := by
      by_cases c2 : dR t L a = 0
      · by_cases c3 : a < L
        · obtain ⟨g1, g2, -⟩ := k3 c3 c2
          rcases Classical.em (isG (t a)) with c4 | c4
          · rw [g1 c4]; decide
          · rw [g2 c4]; decide
        · rw [k2 (by omega)]; decide
      · rw [(k4 c2).2.1 (by omega)]; decide
    apply no 1 (by omega) en
    rw [f_X8_takesNumber, if_neg t2, f_X8_takesNumber_23, if_neg t2, l_1]
theorem sgnP_f {t : Nat → Nat} {L c : Nat} {q : Nat × Nat} (h : q.2 ≠ 0) : sgnP t L c q = q := if_pos h
theorem numP_f {t : Nat → Nat} {L lo hi : Nat} {q : Nat × Nat} (h : q.2 ≠ 0) : numP t L lo hi q = q := if_pos h
theorem mkind {c : Nat} {σ : Mem} (hc : c < 2147483648) : f_X8_kindBy (nI c) σ = some (nI (kindN c), σ) := by
  have l1 : (119 : Int32) = nI 119 := rfl
  have l2 : (99 : Int32) = nI 99 := rfl
  have l3 : (115 : Int32) = nI 115 := rfl
  have l4 : (112 : Int32) = nI 112 := rfl
  have l5 : (107 : Int32) = nI 107 := rfl
  rw [f_X8_kindBy, l1, l2, l3, l4, l5, l_0, l_1, l_2, l_3, l_4, l_5]
  unfold kindN
  by_cases c1 : c = 119
  · rw [if_pos c1, if_pos (by rw [c1])]
  · rw [if_neg c1, if_neg (by rw [n_eq hc (by omega)]; exact c1)]
    by_cases c2 : c = 99
    · rw [if_pos c2, if_pos (by rw [c2])]
    · rw [if_neg c2, if_neg (by rw [n_eq hc (by omega)]; exact c2)]
      by_cases c3 : c = 115
      · rw [if_pos c3, if_pos (by rw [c3])]
      · rw [if_neg c3, if_neg (by rw [n_eq hc (by omega)]; exact c3)]
        by_cases c4 : c = 112
        · rw [if_pos c4, if_pos (by rw [c4])]
        · rw [if_neg c4, if_neg (by rw [n_eq hc (by omega)]; exact c4)]
          by_cases c5 : c = 107
          · rw [if_pos c5, if_pos (by rw [c5])]
          · rw [if_neg c5, if_neg (by rw [n_eq hc (by omega)]; exact c5)]
theorem kind_G {c : Nat} (h : kindN c ≠ 0) : isG c ∧ ¬ isD c := by
  have e : c = 119 ∨ c = 99 ∨ c = 115 ∨ c = 112 ∨ c = 107 := by
    unfold kindN at h
    repeat' split at h
    all_goals omega
  refine ⟨Or.inl (by omega), fun w => ?_⟩
  have w' : 48 ≤ c ∧ c ≤ 57 := w
  omega
theorem mhouse {σ : Mem} {t : Nat → Nat} {L a : Nat} {g : Nat → Nat} (hT : TM σ t L) (hK : TK t L σ a) (ha : a ≤ L) (hR : RA σ 190 g) (h8 : g 0 ≤ 8) : ∃ τ v, f_X8_readHouse σ = some (nI v, τ) ∧ RQ t L τ (houS t L ((a, 0), g)).1 v ∧ ((houS t L ((a, 0), g)).1.2 = 0 → RA τ 190 (houS t L ((a, 0), g)).2) ∧ MFr σ τ := by
  have hL := hT.1
  have z : ¬ ((a, 0) : Nat × Nat).2 ≠ 0 := by show ¬ (0 ≠ 0); omega
  obtain ⟨k1, k2, k3, k4⟩ := id hK
  -- the sort that stands here
  have sort : ∃ k, k ≤ 5 ∧ f_X8_readHouse σ = f_X8_readHouse_26 (nI (g 0)) (nI k) σ ∧ (k ≠ 0 ↔ a < L ∧ kindN (t a) ≠ 0) ∧ (k ≠ 0 → k = kindN (t a) ∧ σ 183 10 = nI (a + 1)) := by
    have head : f_X8_readHouse σ = if (σ 183 11) = (1 : Int32) then (bd2 (f_X8_kindBy (σ 183 12) σ) fun x2 s3 => f_X8_readHouse_26 (nI (g 0)) x2 s3) else f_X8_readHouse_26 (nI (g 0)) (0 : Int32) σ := by
      rw [f_X8_readHouse, l_0, ing_ok (by omega) (by omega), n_ix (by omega), hR.1.1, lt_eq]
    have no : ¬ (a < L ∧ kindN (t a) ≠ 0) → f_X8_readHouse σ = f_X8_readHouse_26 (nI (g 0)) (nI 0) σ → ∃ k, k ≤ 5 ∧ f_X8_readHouse σ = f_X8_readHouse_26 (nI (g 0)) (nI k) σ ∧ (k ≠ 0 ↔ a < L ∧ kindN (t a) ≠ 0) ∧ (k ≠ 0 → k = kindN (t a) ∧ σ 183 10 = nI (a + 1)) := fun w e => ⟨0, by omega, e, ⟨fun h => absurd rfl h, fun h => absurd h w⟩, fun h => absurd rfl h⟩
    by_cases c1 : a < L
    · obtain ⟨v1, v2⟩ := hT.2.2 a c1
      by_cases c2 : dR t L a = 0
      · obtain ⟨g1, g2, g3, g4⟩ := k3 c1 c2
        rcases Classical.em (isG (t a)) with c3 | c3
        · refine ⟨kindN (t a), kindN_le _, ?_, ⟨fun h => ⟨c1, h⟩, fun h => h.2⟩, fun _ => ⟨rfl, g4⟩⟩
          rw [head, g1 c3, if_pos l_1.symm, g3, mkind (by omega), bd2_some]
        · apply no (fun w => c3 (kind_G w.2).1)
          rw [head, g2 c3, if_neg (by decide), l_0]
      · have dg : isD (t a) := (Classical.not_not.mp (fun w => c2 (dR_0.mpr w)) : a < L ∧ isD (t a)).2
        apply no (fun w => (kind_G w.2).2 dg)
        by_cases c4 : dR t L a ≤ 2
        · rw [head, ((k4 c2).1 c4).1, if_neg (by decide), l_0]
        · rw [head, (k4 c2).2.1 c4, if_neg (by decide), l_0]
    · apply no (fun w => c1 w.1)
      rw [head, k2 (by omega), if_neg (by decide), l_0]
  obtain ⟨k, s1, s2, s3, s4⟩ := sort
  have fault : ∀ f, f ≠ 0 → srtP t L (g 0) (a, 0) = (a, f) → f_X8_readHouse_26 (nI (g 0)) (nI k) σ = f_X8_readHouse_47 (nI f) σ → ∃ τ v, f_X8_readHouse σ = some (nI v, τ) ∧ RQ t L τ (houS t L ((a, 0), g)).1 v ∧ ((houS t L ((a, 0), g)).1.2 = 0 → RA τ 190 (houS t L ((a, 0), g)).2) ∧ MFr σ τ := fun f hf es e => by
    have eq : houQ t L (g 0) (a, 0) = (a, f) := by
      unfold houQ
      rw [es, numP_f (q := (a, f)) hf, sgnP_f (q := (a, f)) hf, numP_f (q := (a, f)) hf, sgnP_f (q := (a, f)) hf]
    have eS : (houS t L ((a, 0), g)).1 = (a, f) := eq
    refine ⟨st2 σ 183 14 (nI f), 0, ?_, ?_, fun w => by rw [eS] at w; exact absurd w hf, (mfaultF (n := 1000)).toR⟩
    · rw [s2, e, f_X8_readHouse_47, mfaults, bd2_some, gd_ok (Or.inl rfl), l_0]
    · rw [eS]
      exact ⟨fun w2 => absurd w2 hf, fun _ => ⟨rfl, by rw [st2_k (by omega)]; exact k1, st2_at⟩⟩
  by_cases ck : k = 0
  · have w : ¬ (((a, 0) : Nat × Nat).1 < L ∧ kindN (t ((a, 0) : Nat × Nat).1) ≠ 0) := fun w => s3.mpr w ck
    apply fault 1 (by omega) (by rw [srtP, if_neg z, if_neg w])
    rw [ck, f_X8_readHouse_26, lt_eq, if_pos l_0.symm, f_X8_readHouse_37, if_pos l_0.symm, l_1]
  · have w := s3.mp ck
    have w' : ((a, 0) : Nat × Nat).1 < L ∧ kindN (t ((a, 0) : Nat × Nat).1) ≠ 0 := w
    have kn : ¬ nI k = 0 := by rw [l_0, n_eq (by omega) (by omega)]; exact ck
    obtain ⟨ek, e10⟩ := s4 ck
    by_cases c8 : g 0 = 8
    · apply fault 3 (by omega) (by rw [srtP, if_neg z, if_pos w', if_pos (by omega)])
      rw [f_X8_readHouse_26, lt_eq, if_neg kn, c8, if_pos l_8.symm, f_X8_readHouse_37, if_neg kn, l_3]
    · have es : srtP t L (g 0) (a, 0) = (a + 1, 0) := by rw [srtP, if_neg z, if_pos w', if_neg (by omega)]
      obtain ⟨τ1, a1, a2, a3⟩ := mnext hT (p := a + 1) (by omega) e10
      have R1 : ∀ i, τ1 190 i = σ 190 i := fun i => a3 190 i (by omega)
      have f4 : MFr τ1 (st2 (st2 τ1 190 (5 + g 0) (nI k)) 190 0 (nI (g 0 + 1))) := fun b i n1 n2 => by rw [st2_a n2, st2_a n2]
      have hT4 := (hT.fr a3.toR).fr f4
      have K4 : TK t L (st2 (st2 τ1 190 (5 + g 0) (nI k)) 190 0 (nI (g 0 + 1))) (a + 1) := by
        unfold TK at a2 ⊢
        simp only [st2_a (show 183 ≠ 190 by omega)]
        exact a2
      have i44 : isG 44 := Or.inr (Or.inl rfl)
      have i59 : isG 59 := Or.inr (Or.inr rfl)
      obtain ⟨τ2, v2, b1, b2, b3, b4⟩ := mtakesNumber (lo := 0) (hi := 99) (pos := 21 + g 0) (c := 44) hT4 K4 (by omega) (by omega) (by omega) (by omega) i44 (by omega)
      have fR2 := (a3.toR.tr f4).tr b3.toR
      have head : f_X8_readHouse σ = bd2 (some (nI v2, τ2)) fun x6 s7 => if x6 = 0 then (some ((0 : Int32), s7)) else bd2 (f_X8_takesNumber (1 : Int32) (9 : Int32) ((13 : Int32) + nI (g 0)) (59 : Int32) s7) fun x8 s9 => if x8 = 0 then (some ((0 : Int32), s9)) else some ((1 : Int32), s9) := by
        have l44 : (44 : Int32) = nI 44 := rfl
        have n8 : ¬ nI (g 0) = 8 := by rw [l_8, n_eq (by omega) (by omega)]; exact c8
        have r0 : st2 τ1 190 (5 + g 0) (nI k) 190 0 = nI (g 0) := by rw [st2_k (by omega), R1]; exact hR.1.1
        rw [s2, f_X8_readHouse_26, lt_eq, if_neg kn, if_neg n8, a1, bd_some, l_5, n_add, ing_ok (by omega) (by omega), n_ix (by omega), lt_eq, l_0, ing_ok (by omega) (by omega), ing_ok (by omega) (by omega), n_ix (by omega), r0, l_1, n_add, lt_eq, l_21, n_add, l_99, l44, b1]
      have qeq : houQ t L (g 0) (a, 0) = sgnP t L 59 (numP t L 1 9 (sgnP t L 44 (numP t L 0 99 (a + 1, 0)))) := by
        unfold houQ
        rw [es]
      by_cases y2 : (sgnP t L 44 (numP t L 0 99 (a + 1, 0))).2 = 0
      · obtain ⟨r1, r2⟩ := b2.1 y2
        obtain ⟨x2, x2a, x2b, x2c⟩ := sgnP_z y2
        have qa := sgnP_ok (t := t) (c := 44) (numP_ok (t := t) (lo := 0) (hi := 99) (show Qok L (a + 1, 0) from ⟨by show a + 1 ≤ L; omega, Nat.zero_le _⟩))
        have hq3 : sgnP t L 44 (numP t L 0 99 (a + 1, 0)) = ((sgnP t L 44 (numP t L 0 99 (a + 1, 0))).1, 0) := Prod.ext rfl y2
        obtain ⟨τ3, v3, d1, d2, d3, d4⟩ := mtakesNumber (lo := 1) (hi := 9) (pos := 13 + g 0) (c := 59) (hT.fr fR2) r2 qa.1 (by omega) (by omega) (by omega) i59 (by omega)
        rw [← hq3, ← qeq] at d2
        rw [← hq3] at d4
        have eS : (houS t L ((a, 0), g)).1 = houQ t L (g 0) (a, 0) := rfl
        refine ⟨τ3, v3, ?_, by rw [eS]; exact d2, fun y => ?_, fR2.tr d3.toR⟩
        · have l59 : (59 : Int32) = nI 59 := rfl
          rw [head, bd2_some, r1, if_neg (by decide), l_13, n_add, l_1, l_9, l59, d1, bd2_some]
          rcases d2.v with e | e
          · rw [e, if_pos l_0.symm, l_0]
          · rw [e, if_neg (by decide)]
        · have y' : (houQ t L (g 0) (a, 0)).2 = 0 := y
          have y5 := y'
          rw [qeq] at y5
          obtain ⟨y4, -⟩ := sgnP_z y5
          have eg : (houS t L ((a, 0), g)).2 = addG g (kindN (t a)) (nv t L (srtP t L (g 0) (a, 0)).1) (nv t L (sgnP t L 44 (numP t L 0 99 (srtP t L (g 0) (a, 0)))).1) := if_pos y'
          have w5 : τ3 190 (13 + g 0) = nI (nv t L (sgnP t L 44 (numP t L 0 99 (a + 1, 0))).1) := d4 y4
          have w4 : τ2 190 (21 + g 0) = nI (nv t L (a + 1)) := b4 x2
          have c3' : ∀ i, i ≠ 13 + g 0 → τ3 190 i = τ2 190 i := fun i hi => d3 190 i (by omega) (by omega)
          have c2' : ∀ i, i ≠ 21 + g 0 → τ2 190 i = st2 (st2 τ1 190 (5 + g 0) (nI k)) 190 0 (nI (g 0 + 1)) 190 i := fun i hi => b3 190 i (by omega) (by omega)
          have old : ∀ i, i ≠ 13 + g 0 → i ≠ 21 + g 0 → i ≠ 5 + g 0 → i ≠ 0 → τ3 190 i = σ 190 i := fun i n1 n2 n3 n4 => by
            rw [c3' i n1, c2' i n2, st2_k n4, st2_k n3, R1]
          rw [eg, es]
          refine ⟨⟨?_, ?_, ?_, ?_, ?_⟩, fun h hh => ⟨?_, ?_, ?_⟩⟩
          · rw [c3' 0 (by omega), c2' 0 (by omega), st2_at]; rfl
          · rw [addG_lo (by omega) (by omega), old 1 (by omega) (by omega) (by omega) (by omega)]; exact hR.1.2.1
          · rw [addG_lo (by omega) (by omega), old 2 (by omega) (by omega) (by omega) (by omega)]; exact hR.1.2.2.1
          · rw [addG_lo (by omega) (by omega), old 3 (by omega) (by omega) (by omega) (by omega)]; exact hR.1.2.2.2.1
          · rw [addG_lo (by omega) (by omega), old 4 (by omega) (by omega) (by omega) (by omega)]; exact hR.1.2.2.2.2
          · have hh' : h < g 0 + 1 := hh
            by_cases e : h = g 0
            · subst e
              rw [c3' _ (by omega), c2' _ (by omega), st2_k (by omega), st2_at, ek]
              unfold addG; rw [if_neg (by omega), if_pos rfl]
            · rw [old _ (by omega) (by omega) (by omega) (by omega), (hR.2 h (by omega)).1]
              unfold addG; rw [if_neg (by omega), if_neg (by omega), if_neg (by omega), if_neg (by omega)]
          · have hh' : h < g 0 + 1 := hh
            by_cases e : h = g 0
            · subst e
              rw [w5]
              unfold addG; rw [if_neg (by omega), if_neg (by omega), if_pos rfl]
            · rw [old _ (by omega) (by omega) (by omega) (by omega), (hR.2 h (by omega)).2.1]
              unfold addG; rw [if_neg (by omega), if_neg (by omega), if_neg (by omega), if_neg (by omega)]
          · have hh' : h < g 0 + 1 := hh
            by_cases e : h = g 0
            · subst e
              rw [c3' _ (by omega), w4]
              unfold addG; rw [if_neg (by omega), if_neg (by omega), if_neg (by omega), if_pos rfl]
            · rw [old _ (by omega) (by omega) (by omega) (by omega), (hR.2 h (by omega)).2.2]
              unfold addG; rw [if_neg (by omega), if_neg (by omega), if_neg (by omega), if_neg (by omega)]
      · obtain ⟨r1, r2, r3⟩ := b2.2 y2
        have eq2 : houQ t L (g 0) (a, 0) = sgnP t L 44 (numP t L 0 99 (a + 1, 0)) := by
          rw [qeq, numP_f y2, sgnP_f y2]
        have eS : (houS t L ((a, 0), g)).1 = sgnP t L 44 (numP t L 0 99 (a + 1, 0)) := eq2
        refine ⟨τ2, 0, ?_, ?_, fun y => by rw [eS] at y; exact absurd y y2, fR2⟩
        · rw [head, bd2_some, r1, if_pos l_0.symm, l_0]
        · rw [eS]
          exact ⟨fun y => absurd y y2, fun _ => ⟨rfl, r2, r3⟩⟩
theorem hlS_f {t : Nat → Nat} {L : Nat} {s : (Nat × Nat) × (Nat → Nat)} (h : s.1.2 ≠ 0) : ∀ k, hlS t L k s = s := by
  intro k
  cases k with
  | zero => rfl
  | succ k => rw [hlS, if_neg (fun w => h w.1)]
/-- how a whole reading ends -/
def RE (σ : Mem) (s : (Nat × Nat) × (Nat → Nat)) (v : Nat) : Prop := (s.1.2 = 0 → v = 1 ∧ RA σ 190 s.2) ∧ (s.1.2 ≠ 0 → v = 0 ∧ σ 183 13 = nI s.1.1 ∧ σ 183 14 = nI s.1.2)
theorem m69_0 {σ : Mem} {m : Nat} : f_X8_readStreet_69 (m + 1) (nI 0) σ = some (nI 0, σ) := by
  rw [f_X8_readStreet_69, if_pos l_0.symm, gd_ok (Or.inl l_0.symm)]
theorem mloop_69 {t : Nat → Nat} {L : Nat} : ∀ k m a g σ, 1 ≤ g 0 → g 0 + k = 9 → k + 1 < m → TM σ t L → TK t L σ a → a ≤ L → RA σ 190 g → PI L ((a, 0), g) → ∃ τ v, f_X8_readStreet_69 m (nI 1) σ = some (nI v, τ) ∧ RE τ (hlS t L k ((a, 0), g)) v ∧ MFr σ τ := by
  intro k
  induction k with
  | zero =>
    intro m a g σ h1 h2 _ _ _ _ _ hP
    have : g 0 ≤ 8 := hP.2.1
    omega
  | succ k ih =>
    intro m a g σ h1 h2 h3 hT hK ha hR hP
    obtain ⟨m, rfl⟩ : ∃ m', m = m' + 1 := ⟨m - 1, by omega⟩
    have h8 : g 0 ≤ 8 := hP.2.1
    by_cases c1 : a < L
    · obtain ⟨τ1, v, a1, a2, a3, a4⟩ := mhouse hT hK ha hR h8
      have t3 : ¬ σ 183 11 = 3 := by
        obtain ⟨k1, k2, k3, k4⟩ := hK
        by_cases c2 : dR t L a = 0
        · obtain ⟨g1, g2, -⟩ := k3 c1 c2
          rcases Classical.em (isG (t a)) with c4 | c4
          · rw [g1 c4]; decide
          · rw [g2 c4]; decide
        · by_cases c4 : dR t L a ≤ 2
          · rw [((k4 c2).1 c4).1]; decide
          · rw [(k4 c2).2.1 c4]; decide
      have head : f_X8_readStreet_69 (m + 1) (nI 1) σ = f_X8_readStreet_69 m (nI v) τ1 := by
        rw [f_X8_readStreet_69, if_neg (by decide), if_neg t3, f_X8_readStreet_90, a1, bd2_some, lt_eq]
      have c0 : ((a, 0) : Nat × Nat).2 = 0 ∧ ((a, 0) : Nat × Nat).1 < L := ⟨rfl, c1⟩
      have eS : hlS t L (k + 1) ((a, 0), g) = hlS t L k (houS t L ((a, 0), g)) := by rw [hlS, if_pos c0]
      rw [head, eS]
      obtain ⟨i1, i2⟩ := houS_PI (t := t) hP
      by_cases z : (houS t L ((a, 0), g)).1.2 = 0
      · obtain ⟨b1, b2⟩ := a2.1 z
        have b3 := a3 z
        have b4 : (houS t L ((a, 0), g)).2 0 = g 0 + 1 := i2 z
        have hw : houS t L ((a, 0), g) = (((houS t L ((a, 0), g)).1.1, 0), (houS t L ((a, 0), g)).2) := Prod.ext (Prod.ext rfl z) rfl
        have i1a : (houS t L ((a, 0), g)).1.1 ≤ L := i1.1.1
        rw [hw] at i1
        rw [b1]
        generalize (houS t L ((a, 0), g)).1.1 = a' at hw b2 i1 i1a
        generalize (houS t L ((a, 0), g)).2 = g' at hw b3 b4 i1
        rw [hw]
        obtain ⟨τ, w, u1, u2, u3⟩ := ih m a' g' τ1 (by omega) (by omega) (by omega) (hT.fr a4) b2 i1a b3 i1
        exact ⟨τ, w, u1, u2, a4.tr u3⟩
      · obtain ⟨b1, b2, b3⟩ := a2.2 z
        obtain ⟨m, rfl⟩ : ∃ m', m = m' + 1 := ⟨m - 1, by omega⟩
        refine ⟨τ1, 0, by rw [b1, m69_0], ?_, a4⟩
        rw [hlS_f z]
        exact ⟨fun w => absurd w z, fun _ => ⟨rfl, b2, b3⟩⟩
    · have c0 : ¬ (((a, 0) : Nat × Nat).2 = 0 ∧ ((a, 0) : Nat × Nat).1 < L) := fun w => c1 w.2
      have eS : hlS t L (k + 1) ((a, 0), g) = ((a, 0), g) := by rw [hlS, if_neg c0]
      rw [eS]
      refine ⟨σ, 1, ?_, ⟨fun _ => ⟨rfl, hR⟩, fun w => absurd rfl w⟩, fun _ _ _ _ => rfl⟩
      rw [f_X8_readStreet_69, if_neg (by decide), hK.2.1 (by omega), if_pos l_3.symm, l_0, ing_ok (by omega) (by omega), n_ix (by omega), hR.1.1, if_neg (by rw [n_eq (by omega) (by omega)]; omega), gd_ok (Or.inr l_1.symm)]
