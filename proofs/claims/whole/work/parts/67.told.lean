/-! PURE, 42: a street told, read by the class -/
theorem sidx_7 {p1 p2 p3 : Int32} {σ : Mem} : ∀ n m4 m5, f_J1_indexOfChar_4cfef_7 p1 p2 p3 n m4 m5 σ = (f_J1_indexOfChar_4cfef_7 p1 p2 p3 n m4 m5 (fun _ _ => 0)).map (fun r => (r.1, σ)) := by
  intro n
  induction n with
  | zero => intro m4 m5; rfl
  | succ n ih =>
    intro m4 m5
    rw [f_J1_indexOfChar_4cfef_7, f_J1_indexOfChar_4cfef_7]
    by_cases c1 : p3 ≤ m5
    · rw [if_pos c1, if_pos c1]
      rfl
    · rw [if_neg c1, if_neg c1]
      unfold ing
      by_cases c2 : m5 < 0 ∨ 5 ≤ m5.toNatClampNeg
      · rw [if_pos c2, if_pos c2]
        rfl
      · rw [if_neg c2, if_neg c2]
        by_cases c3 : sby m5.toNatClampNeg = m4
        · rw [if_pos c3, if_pos c3]
          rfl
        · rw [if_neg c3, if_neg c3, lt_eq, lt_eq]
          exact ih _ _
def sixV (p : Int32) : Option Int32 := (f_J1_indexOfChar_4cfef_7 p 0 5 FU p.toInt8.toInt32 0 (fun _ _ => 0)).map (fun r => r.1)
theorem six_key : ∀ c, c < 256 → sixV (nI c) = some (nI (kindN c) - 1) := by decide +kernel
theorem sidx {c : Nat} {σ : Mem} (hc : c < 256) : f_J0_indexOf_0f7a4 (nI c) σ = some (nI (kindN c) - 1, σ) := by
  have c1 : ¬ nI c < 0 := n_nn (by omega)
  have c2 : ¬ (255 : Int32) < nI c := by
    have e : (255 : Int32) = nI 255 := by decide +kernel
    rw [e, n_lt (by omega) (by omega)]
    omega
  have e5 : imin ((5 : Int32) >>> ((0 : Int32) &&& 31)) 5 = 5 := by decide
  have e0 : imax 0 0 = (0 : Int32) := by decide
  have k := six_key c hc
  have z := sidx_7 (p1 := nI c) (p2 := 0) (p3 := 5) (σ := σ) FU (nI c).toInt8.toInt32 0
  unfold sixV at k
  have w : f_J1_indexOfChar_4cfef (nI c) 0 5 σ = some (nI (kindN c) - 1, σ) := by
    unfold f_J1_indexOfChar_4cfef
    rw [lt_eq, lt_eq, z]
    cases e : f_J1_indexOfChar_4cfef_7 (nI c) 0 5 FU (nI c).toInt8.toInt32 0 (fun _ _ => 0) with
    | none => rw [e] at k; cases k
    | some r =>
      rw [e, Option.map_some] at k
      rw [Option.map_some, Option.some.inj k]
  have en : f_J1_canEncode_9a6ad (nI c) σ = some (1, σ) := by
    rw [f_J1_canEncode_9a6ad, if_neg c1, if_neg c2]
  have la : f_J0_isLatin1_aae02 σ = some (1, σ) := by
    rw [f_J0_isLatin1_aae02, if_neg (by decide), if_pos rfl]
  have le : ∃ x, f_J0_length_8abf5 σ = some (x, σ) ∧ imin x 5 = 5 := by
    refine ⟨_, rfl, ?_⟩
    exact e5
  obtain ⟨x, l1, l2⟩ := le
  rw [f_J0_indexOf_0f7a4, f_J0_indexOf_7cf53, la, bd2_some, if_neg (by decide), l1, bd2_some, f_J1_indexOf_4cfef, en, bd2_some, if_neg (by decide), e0, lt_eq, l2, lt_eq, if_pos (by decide), w, bd2_some, bd2_some, bd2_some]
theorem char_key : ∀ c, c < 256 → ((nI c).toUInt32 % 65536).toInt32 = nI c := by decide +kernel
theorem kind_key : ∀ k, k < 6 → nI k - 1 + 1 = nI k := by decide +kernel
theorem xsrt {σ : Mem} {t : Nat → Nat} {L h : Nat} {q : Nat × Nat} (hT : TP σ t L) (hq : QX σ q) (hk : Qok L q) (hh : q.2 = 0 → σ 3 3 = nI h) (h8 : h ≤ 8) : ∃ τ v, f_X6_readSort σ = some (nI v, τ) ∧ v ≤ 5 ∧ QX τ (srtP t L h q) ∧ XF2 σ τ ∧ ((srtP t L h q).2 = 0 → v = kindN (t q.1)) := by
  obtain ⟨hL, h1, h2⟩ := hT
  obtain ⟨a, f⟩ := q
  obtain ⟨k1, k2⟩ := hk
  have k1' : a ≤ L := k1
  have k2' : f ≤ 3 := k2
  have e2 : σ 2 2 = nI a := hq.1
  have e3 : σ 2 3 = nI f := hq.2
  have go : ∀ k, k ≤ 5 → (k ≠ 0 ↔ a < L ∧ kindN (t a) ≠ 0) → (k ≠ 0 → k = kindN (t a)) → ∃ τ v, f_X6_readSort_32 (nI k) σ = some (nI v, τ) ∧ v ≤ 5 ∧ QX τ (srtP t L h (a, f)) ∧ XF2 σ τ ∧ ((srtP t L h (a, f)).2 = 0 → v = kindN (t a)) := by
    intro k hk5 hkk hkv
    by_cases hf : f = 0
    · subst hf
      have z : ¬ ((a, 0) : Nat × Nat).2 ≠ 0 := by show ¬ (0 ≠ 0); omega
      by_cases hk0 : k = 0
      · have w : ¬ (a < L ∧ kindN (t a) ≠ 0) := fun w => (hkk.mpr w) hk0
        obtain ⟨τ, t1, t2, t3⟩ := xstep_0 hq
        have es : srtP t L h (a, 0) = (a, 1) := by rw [srtP, if_neg z, if_neg w]
        refine ⟨τ, k, ?_, hk5, by rw [es]; exact t2, t3, fun w2 => by rw [es] at w2; exact absurd w2 (by show ¬ (1 = 0); omega)⟩
        rw [hk0, f_X6_readSort_32, lt_eq, e3, if_pos l_0.symm, if_pos (by decide), f_X6_readSort_61, if_pos (by decide), f_X6_readSort_71, t1, bd_some]
      · have w := hkk.mp hk0
        have kn : ¬ nI k ≤ 0 := by rw [l_0, n_le (by omega) (by omega)]; omega
        have eh := hh rfl
        by_cases c8 : h < 8
        · obtain ⟨τ, t1, t2, t3⟩ := xstep_1 hq
          have es : srtP t L h (a, 0) = (a + 1, 0) := by rw [srtP, if_neg z, if_pos w, if_neg (by omega)]
          refine ⟨τ, k, ?_, hk5, by rw [es]; exact t2, t3, fun _ => hkv hk0⟩
          rw [f_X6_readSort_32, lt_eq, e3, if_pos l_0.symm, if_neg kn, eh, l_8, if_pos ((n_lt (by omega) (by omega)).mpr c8), f_X6_readSort_61, if_neg kn, f_X6_readSort_71, t1, bd_some]
        · have es : srtP t L h (a, 0) = (a, 3) := by rw [srtP, if_neg z, if_pos w, if_pos (by omega)]
          have hq3 : QX (st2 σ 2 3 (nI 3)) (a, 3) := ⟨by rw [st2_k (by omega)]; exact e2, st2_at⟩
          refine ⟨st2 σ 2 3 (nI 3), k, ?_, hk5, by rw [es]; exact hq3, XF2.st (Or.inr rfl), fun w2 => by rw [es] at w2; exact absurd w2 (by show ¬ (3 = 0); omega)⟩
          rw [f_X6_readSort_32, lt_eq, e3, if_pos l_0.symm, if_neg kn, eh, l_8, if_neg (by rw [n_lt (by omega) (by omega)]; exact c8), l_3, lt_eq, f_X6_readSort_61, if_neg kn, f_X6_readSort_71, xstep_f hq3 (Nat.le_refl 3) (by show 3 ≠ 0; omega), bd_some]
    · have es : srtP t L h (a, f) = (a, f) := by rw [srtP, if_pos hf]
      have f0 : ¬ nI f = 0 := by rw [l_0, n_eq (by omega) (by omega)]; exact hf
      refine ⟨σ, k, ?_, hk5, by rw [es]; exact hq, XF2.rf, fun w2 => by rw [es] at w2; exact absurd w2 hf⟩
      rw [f_X6_readSort_32, lt_eq, e3, if_neg f0, f_X6_readSort_61]
      by_cases c : nI k ≤ 0
      · rw [if_pos c, f_X6_readSort_71, xstep_f hq k2 hf, bd_some]
      · rw [if_neg c, f_X6_readSort_71, xstep_f hq k2 hf, bd_some]
  by_cases c1 : L ≤ a
  · obtain ⟨τ, v, t1, t2⟩ := go 0 (by omega) ⟨fun w => absurd rfl w, fun w => by omega⟩ (fun w => absurd rfl w)
    refine ⟨τ, v, ?_, t2⟩
    rw [f_X6_readSort, h1, e2, if_pos ((n_le (by omega) (by omega)).mpr c1)]
    exact t1
  · obtain ⟨v1, v2⟩ := h2 a (by omega)
    obtain ⟨τ, v, t1, t2⟩ := go (kindN (t a)) (kindN_le _) ⟨fun w => ⟨by omega, w⟩, fun w => w.2⟩ (fun _ => rfl)
    refine ⟨τ, v, ?_, t2⟩
    have kl := kindN_le (t a)
    rw [f_X6_readSort, h1, e2, if_neg (by rw [n_le (by omega) (by omega)]; exact c1), ing_ok (by omega) (by omega), n_ix (by omega), v1, char_key _ (by omega), sidx (by omega), bd2_some, kind_key _ (by omega)]
    exact t1
/-- a house more -/
def addG (g : Nat → Nat) (k p r : Nat) : Nat → Nat := fun c => if c = 0 then g 0 + 1 else if c = 5 + g 0 then k else if c = 13 + g 0 then r else if c = 21 + g 0 then p else g c
theorem addG_SB {g : Nat → Nat} {k p r : Nat} (hb : SB g) (h8 : g 0 < 8) (hk1 : 1 ≤ k) (hk5 : k ≤ 5) (hp : p ≤ 99) (hr1 : 1 ≤ r) (hr9 : r ≤ 9) : SB (addG g k p r) := by
  obtain ⟨b0, b1, b2, b4, b5⟩ := hb
  refine ⟨?_, ?_, ?_, ?_, fun h hh => ?_⟩
  · show g 0 + 1 ≤ 8; omega
  · unfold addG; rw [if_neg (by omega), if_neg (by omega), if_neg (by omega), if_neg (by omega)]; exact b1
  · unfold addG; rw [if_neg (by omega), if_neg (by omega), if_neg (by omega), if_neg (by omega)]; exact b2
  · unfold addG; rw [if_neg (by omega), if_neg (by omega), if_neg (by omega), if_neg (by omega)]; exact b4
  · have hh' : h < g 0 + 1 := hh
    by_cases e : h = g 0
    · subst e
      refine ⟨?_, ?_, ?_⟩
      · unfold addG; rw [if_neg (by omega), if_pos rfl]; exact ⟨hk1, hk5⟩
      · unfold addG; rw [if_neg (by omega), if_neg (by omega), if_pos rfl]; exact ⟨hr1, hr9⟩
      · unfold addG; rw [if_neg (by omega), if_neg (by omega), if_neg (by omega), if_pos rfl]; exact hp
    · obtain ⟨q1, q2, q3⟩ := b5 h (by omega)
      refine ⟨?_, ?_, ?_⟩
      · unfold addG; rw [if_neg (by omega), if_neg (by omega), if_neg (by omega), if_neg (by omega)]; exact q1
      · unfold addG; rw [if_neg (by omega), if_neg (by omega), if_neg (by omega), if_neg (by omega)]; exact q2
      · unfold addG; rw [if_neg (by omega), if_neg (by omega), if_neg (by omega), if_neg (by omega)]; exact q3
theorem addG_lo {g : Nat → Nat} {k p r c : Nat} (h0 : c ≠ 0) (h5 : c < 5) : addG g k p r c = g c := by
  unfold addG
  rw [if_neg h0, if_neg (by omega), if_neg (by omega), if_neg (by omega)]
theorem xadd {σ : Mem} {g : Nat → Nat} {k p r : Nat} (hR : RS σ 3 g) (h8 : g 0 < 8) : ∃ τ, f_X5_add 3 (nI k) (nI p) (nI r) σ = some τ ∧ RS τ 3 (addG g k p r) ∧ (∀ a i, ¬ (a = 3 ∧ i = 3) → ¬ (4 ≤ a ∧ a ≤ 6) → τ a i = σ a i) := by
  obtain ⟨⟨h0, h1, h2, h3, h4⟩, h5⟩ := hR
  have e1 : ∀ x, st2 σ (3 + 1) (g 0) x 3 3 = nI (g 0) := fun x => by rw [st2_a (by omega)]; exact h0
  have e2 : ∀ x y, st2 (st2 σ (3 + 1) (g 0) x) (3 + 3) (g 0) y 3 3 = nI (g 0) := fun x y => by rw [st2_a (by omega), st2_a (by omega)]; exact h0
  have e3 : ∀ x y z, st2 (st2 (st2 σ (3 + 1) (g 0) x) (3 + 3) (g 0) y) (3 + 2) (g 0) z 3 3 = nI (g 0) := fun x y z => by rw [st2_a (by omega), st2_a (by omega), st2_a (by omega)]; exact h0
  have c8 : ¬ (8 : Int32) ≤ nI (g 0) := by rw [l_8, n_le (by omega) (by omega)]; omega
  have o : ∀ (a k : Nat) (x : Int32) (σ : Mem) (b i : Nat), b ≠ a → st2 σ a k x b i = σ b i := fun a k x σ b i h => st2_a h
  refine ⟨st2 (st2 (st2 (st2 σ (3 + 1) (g 0) (nI k)) (3 + 3) (g 0) (nI p)) (3 + 2) (g 0) (nI r)) 3 3 (nI (g 0 + 1)), ?_, ⟨⟨?_, ?_, ?_, ?_, ?_⟩, fun h hh => ⟨?_, ?_, ?_⟩⟩, fun a i n1 n2 => ?_⟩
  · rw [f_X5_add, h0, if_neg c8, ing_ok (by omega) (by omega), n_ix (by omega), lt_eq, e1, ing_ok (by omega) (by omega), n_ix (by omega), lt_eq, e2, ing_ok (by omega) (by omega), n_ix (by omega), lt_eq, e3, lt_eq, l_1, n_add]
  · exact st2_at
  · rw [addG_lo (by omega) (by omega), st2_k (by omega), o _ _ _ _ _ _ (by omega), o _ _ _ _ _ _ (by omega), o _ _ _ _ _ _ (by omega)]; exact h1
  · rw [addG_lo (by omega) (by omega), st2_k (by omega), o _ _ _ _ _ _ (by omega), o _ _ _ _ _ _ (by omega), o _ _ _ _ _ _ (by omega)]; exact h2
  · rw [addG_lo (by omega) (by omega), st2_k (by omega), o _ _ _ _ _ _ (by omega), o _ _ _ _ _ _ (by omega), o _ _ _ _ _ _ (by omega)]; exact h3
  · rw [addG_lo (by omega) (by omega), st2_k (by omega), o _ _ _ _ _ _ (by omega), o _ _ _ _ _ _ (by omega), o _ _ _ _ _ _ (by omega)]; exact h4
  · have hh' : h < g 0 + 1 := hh
    rw [o _ _ _ _ _ _ (by omega), o _ _ _ _ _ _ (by omega), o _ _ _ _ _ _ (by omega)]
    by_cases e : h = g 0
    · subst e
      rw [st2_at]
      unfold addG; rw [if_neg (by omega), if_pos rfl]
    · rw [st2_k e, (h5 h (by omega)).1]
      unfold addG; rw [if_neg (by omega), if_neg (by omega), if_neg (by omega), if_neg (by omega)]
  · have hh' : h < g 0 + 1 := hh
    rw [o _ _ _ _ _ _ (by omega)]
    by_cases e : h = g 0
    · subst e
      rw [st2_at]
      unfold addG; rw [if_neg (by omega), if_neg (by omega), if_pos rfl]
    · rw [st2_k e, o _ _ _ _ _ _ (by omega), o _ _ _ _ _ _ (by omega), (h5 h (by omega)).2.1]
      unfold addG; rw [if_neg (by omega), if_neg (by omega), if_neg (by omega), if_neg (by omega)]
  · have hh' : h < g 0 + 1 := hh
    rw [o _ _ _ _ _ _ (by omega), o _ _ _ _ _ _ (by omega)]
    by_cases e : h = g 0
    · subst e
      rw [st2_at]
      unfold addG; rw [if_neg (by omega), if_neg (by omega), if_neg (by omega), if_pos rfl]
    · rw [st2_k e, o _ _ _ _ _ _ (by omega), (h5 h (by omega)).2.2]
      unfold addG; rw [if_neg (by omega), if_neg (by omega), if_neg (by omega), if_neg (by omega)]
  · by_cases e : a = 3
    · subst e
      rw [st2_k (by omega), o _ _ _ _ _ _ (by omega), o _ _ _ _ _ _ (by omega), o _ _ _ _ _ _ (by omega)]
    · rw [o _ _ _ _ _ _ (by omega), o _ _ _ _ _ _ (by omega), o _ _ _ _ _ _ (by omega), o _ _ _ _ _ _ (by omega)]
/-- what a good reading says -/
theorem sgnP_z {t : Nat → Nat} {L c : Nat} {q : Nat × Nat} (h : (sgnP t L c q).2 = 0) : q.2 = 0 ∧ q.1 < L ∧ t q.1 = c ∧ sgnP t L c q = (q.1 + 1, 0) := by
  unfold sgnP at h ⊢
  by_cases c1 : q.2 ≠ 0
  · rw [if_pos c1] at h; exact absurd h c1
  · rw [if_neg c1] at h ⊢
    by_cases c2 : q.1 < L ∧ t q.1 = c
    · rw [if_pos c2]
      exact ⟨by omega, c2.1, c2.2, rfl⟩
    · rw [if_neg c2] at h
      exact absurd h (by show ¬ (1 = 0); omega)
theorem numP_z {t : Nat → Nat} {L lo hi : Nat} {q : Nat × Nat} (h : (numP t L lo hi q).2 = 0) : q.2 = 0 ∧ (dR t L q.1 = 1 ∨ dR t L q.1 = 2) ∧ lo ≤ nv t L q.1 ∧ nv t L q.1 ≤ hi ∧ numP t L lo hi q = (q.1 + dR t L q.1, 0) := by
  unfold numP at h ⊢
  by_cases c1 : q.2 ≠ 0
  · rw [if_pos c1] at h; exact absurd h c1
  · rw [if_neg c1] at h ⊢
    by_cases c2 : dR t L q.1 = 1 ∨ dR t L q.1 = 2
    · rw [if_pos c2] at h ⊢
      by_cases c3 : lo ≤ nv t L q.1 ∧ nv t L q.1 ≤ hi
      · rw [if_pos c3]
        exact ⟨by omega, c2, c3.1, c3.2, rfl⟩
      · rw [if_neg c3] at h
        exact absurd h (by show ¬ (2 = 0); omega)
    · rw [if_neg c2] at h
      exact absurd h (by show ¬ (1 = 0); omega)
theorem srtP_z {t : Nat → Nat} {L n : Nat} {q : Nat × Nat} (h : (srtP t L n q).2 = 0) : q.2 = 0 ∧ q.1 < L ∧ kindN (t q.1) ≠ 0 ∧ n < 8 ∧ srtP t L n q = (q.1 + 1, 0) := by
  unfold srtP at h ⊢
  by_cases c1 : q.2 ≠ 0
  · rw [if_pos c1] at h; exact absurd h c1
  · rw [if_neg c1] at h ⊢
    by_cases c2 : q.1 < L ∧ kindN (t q.1) ≠ 0
    · rw [if_pos c2] at h ⊢
      by_cases c3 : 8 ≤ n
      · rw [if_pos c3] at h
        exact absurd h (by show ¬ (3 = 0); omega)
      · rw [if_neg c3]
        exact ⟨by omega, c2.1, c2.2, by omega, rfl⟩
    · rw [if_neg c2] at h
      exact absurd h (by show ¬ (1 = 0); omega)
noncomputable def houQ (t : Nat → Nat) (L h : Nat) (q : Nat × Nat) : Nat × Nat := sgnP t L 59 (numP t L 1 9 (sgnP t L 44 (numP t L 0 99 (srtP t L h q))))
noncomputable def houS (t : Nat → Nat) (L : Nat) (s : (Nat × Nat) × (Nat → Nat)) : (Nat × Nat) × (Nat → Nat) := (houQ t L (s.2 0) s.1, if (houQ t L (s.2 0) s.1).2 = 0 then addG s.2 (kindN (t s.1.1)) (nv t L (srtP t L (s.2 0) s.1).1) (nv t L (sgnP t L 44 (numP t L 0 99 (srtP t L (s.2 0) s.1))).1) else s.2)
theorem houQ_ok {t : Nat → Nat} {L h : Nat} {q : Nat × Nat} (hk : Qok L q) : Qok L (houQ t L h q) := sgnP_ok (numP_ok (sgnP_ok (numP_ok (srtP_ok hk))))
def XF3 (σ τ : Mem) : Prop := ∀ a i, ¬ (a = 2 ∧ (i = 2 ∨ i = 3)) → ¬ (a = 3 ∧ i = 3) → ¬ (4 ≤ a ∧ a ≤ 6) → τ a i = σ a i
theorem XF3.rf {σ : Mem} : XF3 σ σ := fun _ _ _ _ _ => rfl
theorem XF3.tr {σ τ υ : Mem} (h1 : XF3 σ τ) (h2 : XF3 τ υ) : XF3 σ υ := fun a i n1 n2 n3 => (h2 a i n1 n2 n3).trans (h1 a i n1 n2 n3)
theorem XF2.to3 {σ τ : Mem} (h : XF2 σ τ) : XF3 σ τ := fun a i n1 _ _ => h a i n1
theorem RS.f2 {σ τ : Mem} {g : Nat → Nat} (h : RS σ 3 g) (hF : XF2 σ τ) : RS τ 3 g := h.fr fun a h1 h2 => funext fun i => hF a i (by omega)
theorem TP.fr3 {σ τ : Mem} {t : Nat → Nat} {L : Nat} (h : TP σ t L) (hF : XF3 σ τ) : TP τ t L := ⟨h.1, by rw [hF 2 1 (by omega) (by omega) (by omega)]; exact h.2.1, fun k hk => by rw [hF 7 k (by omega) (by omega) (by omega)]; exact h.2.2 k hk⟩
theorem xhouse {σ : Mem} {t : Nat → Nat} {L : Nat} {q : Nat × Nat} {g : Nat → Nat} (hT : TP σ t L) (hq : QX σ q) (hk : Qok L q) (hR : q.2 = 0 → RS σ 3 g) (h8 : g 0 ≤ 8) : ∃ τ, f_X6_readHouse σ = some τ ∧ QX τ (houS t L (q, g)).1 ∧ ((houS t L (q, g)).1.2 = 0 → RS τ 3 (houS t L (q, g)).2) ∧ XF3 σ τ := by
  obtain ⟨τ1, v1, a1, a2, a3, a4, a5⟩ := xsrt (h := g 0) hT hq hk (fun e => (hR e).1.1) h8
  have k1 := srtP_ok (t := t) (c := g 0) hk
  obtain ⟨τ2, v2, b1, b2, b3, b4, b5⟩ := xnum (lo := 0) (hi := 99) (hT.fr a4) a3 k1 (by omega) (by omega)
  have k2 := numP_ok (t := t) (lo := 0) (hi := 99) k1
  have f2 := a4.tr b4
  obtain ⟨τ3, c1, c2, c3⟩ := xsgn (c := 44) (hT.fr f2) b3 k2 (by omega)
  have k3 := sgnP_ok (t := t) (c := 44) k2
  have f3 := f2.tr c3
  obtain ⟨τ4, v4, d1, d2, d3, d4, d5⟩ := xnum (lo := 1) (hi := 9) (hT.fr f3) c2 k3 (by omega) (by omega)
  have k4 := numP_ok (t := t) (lo := 1) (hi := 9) k3
  have f4 := f3.tr d4
  obtain ⟨τ5, e1, e2, e3⟩ := xsgn (c := 59) (hT.fr f4) d3 k4 (by omega)
  have k5 := sgnP_ok (t := t) (c := 59) k4
  have f5 := f4.tr e3
  have head : f_X6_readHouse σ = if (τ5 2 3) = 0 then (bd (f_X5_add 3 (nI v1) (nI v2) (nI v4) τ5) fun s15 => some s15) else some τ5 := by
    have l44 : (44 : Int32) = nI 44 := rfl
    have l59 : (59 : Int32) = nI 59 := rfl
    rw [f_X6_readHouse, a1, bd2_some, lt_eq, l_0, l_99, b1, bd2_some, lt_eq, l44, c1, bd_some, l_1, l_9, d1, bd2_some, lt_eq, l59, e1, bd_some]
  have eq5 : τ5 2 3 = nI (houQ t L (g 0) q).2 := e2.2
  by_cases z : (houQ t L (g 0) q).2 = 0
  · obtain ⟨z4, z4a, z4b, z4c⟩ := sgnP_z z
    obtain ⟨z3, z3a, z3b, z3c, z3d⟩ := numP_z z4
    obtain ⟨z2, z2a, z2b, z2c⟩ := sgnP_z z3
    obtain ⟨z1, z1a, z1b, z1c, z1d⟩ := numP_z z2
    obtain ⟨z0, z0a, z0b, z0c, z0d⟩ := srtP_z z1
    obtain ⟨τ, t1, t2, t3⟩ := xadd (k := v1) (p := v2) (r := v4) ((hR z0).f2 f5) z0c
    refine ⟨τ, ?_, ⟨?_, ?_⟩, fun _ => ?_, f5.to3.tr fun a i n1 n2 n3 => t3 a i n2 n3⟩
    · rw [head, eq5, z, if_pos l_0.symm, t1, bd_some]
    · rw [t3 2 2 (by omega) (by omega)]; exact e2.1
    · rw [t3 2 3 (by omega) (by omega)]; exact e2.2
    · have es : (houS t L (q, g)).2 = addG g (kindN (t q.1)) (nv t L (srtP t L (g 0) q).1) (nv t L (sgnP t L 44 (numP t L 0 99 (srtP t L (g 0) q))).1) := if_pos z
      rw [es, ← a5 z1, ← b5 z2, ← d5 z4]
      exact t2
  · refine ⟨τ5, ?_, e2, fun w => absurd w z, f5.to3⟩
    rw [head, eq5, l_0, if_neg (by rw [n_eq (by have := k5.2; have : (houQ t L (g 0) q).2 ≤ 3 := this; omega) (by omega)]; exact z)]
