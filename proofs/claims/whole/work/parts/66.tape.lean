/-! PURE, 41: the tape: numbers, signs, sorts -/
def isD (c : Nat) : Prop := 48 ≤ c ∧ c ≤ 57
noncomputable def drn (t : Nat → Nat) (L : Nat) : Nat → Nat → Nat
  | 0, _ => 0
  | n + 1, a => have := Classical.propDecidable (isD (t a)); if isD (t a) then drn t L n (a + 1) + 1 else 0
/-- how many figures stand from a place on -/
noncomputable def dR (t : Nat → Nat) (L a : Nat) : Nat := drn t L (L - a) a
theorem dR_y {t : Nat → Nat} {L a : Nat} (h : a < L) (hd : isD (t a)) : dR t L a = dR t L (a + 1) + 1 := by
  unfold dR
  rw [show L - a = (L - (a + 1)) + 1 by omega, drn]
  exact if_pos hd
theorem dR_n {t : Nat → Nat} {L a : Nat} (h : ¬ (a < L ∧ isD (t a))) : dR t L a = 0 := by
  unfold dR
  by_cases c : a < L
  · rw [show L - a = (L - (a + 1)) + 1 by omega, drn]
    exact if_neg fun hd => h ⟨c, hd⟩
  · rw [show L - a = 0 by omega]
    rfl
theorem dR_0 {t : Nat → Nat} {L a : Nat} : dR t L a = 0 ↔ ¬ (a < L ∧ isD (t a)) := by
  constructor
  · intro h w
    rw [dR_y w.1 w.2] at h
    omega
  · exact dR_n
theorem dR_step {t : Nat → Nat} {L : Nat} : ∀ j a, j ≤ dR t L a → dR t L (a + j) + j = dR t L a := by
  intro j
  induction j with
  | zero => intro a _; rfl
  | succ j ih =>
    intro a h
    have i := ih a (by omega)
    have nz : dR t L (a + j) ≠ 0 := by omega
    have w := Classical.not_not.mp (fun q => nz (dR_0.mpr q))
    rw [dR_y w.1 w.2] at i
    rw [show a + (j + 1) = a + j + 1 by omega]
    omega
theorem dR_dig {t : Nat → Nat} {L a j : Nat} (h : j < dR t L a) : a + j < L ∧ isD (t (a + j)) := by
  have i := dR_step (t := t) (L := L) j a (by omega)
  exact Classical.not_not.mp (fun q => by have := dR_n q; omega)
theorem dR_end {t : Nat → Nat} {L a : Nat} : ¬ (a + dR t L a < L ∧ isD (t (a + dR t L a))) := by
  have i := dR_step (t := t) (L := L) (dR t L a) a (Nat.le_refl _)
  exact dR_0.mp (by omega)
theorem dR_le {t : Nat → Nat} {L a : Nat} (h : a ≤ L) : a + dR t L a ≤ L := by
  by_cases c : dR t L a = 0
  · omega
  · have := (dR_dig (t := t) (L := L) (a := a) (j := dR t L a - 1) (by omega)).1
    omega
/-- the number of one or two figures -/
noncomputable def nv (t : Nat → Nat) (L a : Nat) : Nat := if dR t L a = 1 then t a - 48 else 10 * (t a - 48) + (t (a + 1) - 48)
theorem nv_le {t : Nat → Nat} {L a : Nat} (h : dR t L a = 1 ∨ dR t L a = 2) : nv t L a ≤ 99 := by
  have d0 := (dR_dig (t := t) (L := L) (a := a) (j := 0) (by omega)).2
  have d0' : 48 ≤ t a ∧ t a ≤ 57 := d0
  unfold nv
  by_cases c : dR t L a = 1
  · rw [if_pos c]; omega
  · have d1 : 48 ≤ t (a + 1) ∧ t (a + 1) ≤ 57 := (dR_dig (t := t) (L := L) (a := a) (j := 1) (by omega)).2
    rw [if_neg c]; omega
def kindN (c : Nat) : Nat := if c = 119 then 1 else if c = 99 then 2 else if c = 115 then 3 else if c = 112 then 4 else if c = 107 then 5 else 0
theorem kindN_le (c : Nat) : kindN c ≤ 5 := by
  unfold kindN
  repeat' split
  all_goals omega
/-- place and fault: a sign, a number, a sort -/
def sgnP (t : Nat → Nat) (L c : Nat) (q : Nat × Nat) : Nat × Nat := if q.2 ≠ 0 then q else if q.1 < L ∧ t q.1 = c then (q.1 + 1, 0) else (q.1, 1)
noncomputable def numP (t : Nat → Nat) (L lo hi : Nat) (q : Nat × Nat) : Nat × Nat := if q.2 ≠ 0 then q else if dR t L q.1 = 1 ∨ dR t L q.1 = 2 then (if lo ≤ nv t L q.1 ∧ nv t L q.1 ≤ hi then (q.1 + dR t L q.1, 0) else (q.1, 2)) else (q.1, 1)
def srtP (t : Nat → Nat) (L h : Nat) (q : Nat × Nat) : Nat × Nat := if q.2 ≠ 0 then q else if q.1 < L ∧ kindN (t q.1) ≠ 0 then (if 8 ≤ h then (q.1, 3) else (q.1 + 1, 0)) else (q.1, 1)
def Qok (L : Nat) (q : Nat × Nat) : Prop := q.1 ≤ L ∧ q.2 ≤ 3
theorem sgnP_ok {t : Nat → Nat} {L c : Nat} {q : Nat × Nat} (h : Qok L q) : Qok L (sgnP t L c q) := by
  obtain ⟨h1, h2⟩ := h
  unfold sgnP
  split
  · exact ⟨h1, h2⟩
  · split
    · rename_i w; exact ⟨w.1, Nat.zero_le _⟩
    · exact ⟨h1, (by decide : 1 ≤ 3)⟩
theorem numP_ok {t : Nat → Nat} {L lo hi : Nat} {q : Nat × Nat} (h : Qok L q) : Qok L (numP t L lo hi q) := by
  obtain ⟨h1, h2⟩ := h
  unfold numP
  split
  · exact ⟨h1, h2⟩
  · split
    · split
      · exact ⟨dR_le h1, Nat.zero_le _⟩
      · exact ⟨h1, (by decide : 2 ≤ 3)⟩
    · exact ⟨h1, (by decide : 1 ≤ 3)⟩
theorem srtP_ok {t : Nat → Nat} {L c : Nat} {q : Nat × Nat} (h : Qok L q) : Qok L (srtP t L c q) := by
  obtain ⟨h1, h2⟩ := h
  unfold srtP
  split
  · exact ⟨h1, h2⟩
  · split
    · rename_i w
      split
      · exact ⟨h1, Nat.le_refl _⟩
      · exact ⟨w.1, Nat.zero_le _⟩
    · exact ⟨h1, (by decide : 1 ≤ 3)⟩
/-- the class's side -/
def TP (σ : Mem) (t : Nat → Nat) (L : Nat) : Prop := L ≤ 100 ∧ σ 2 1 = nI L ∧ ∀ k, k < L → σ 7 k = nI (t k) ∧ t k ≤ 255
def XF2 (σ τ : Mem) : Prop := ∀ a i, ¬ (a = 2 ∧ (i = 2 ∨ i = 3)) → τ a i = σ a i
theorem XF2.rf {σ : Mem} : XF2 σ σ := fun _ _ _ => rfl
theorem XF2.tr {σ τ υ : Mem} (h1 : XF2 σ τ) (h2 : XF2 τ υ) : XF2 σ υ := fun a i h => (h2 a i h).trans (h1 a i h)
theorem XF2.st {σ : Mem} {k : Nat} {x : Int32} (h : k = 2 ∨ k = 3) : XF2 σ (st2 σ 2 k x) := fun a i hn => by
  by_cases e : a = 2
  · subst e
    rw [st2_k (by omega)]
  · rw [st2_a e]
theorem TP.fr {σ τ : Mem} {t : Nat → Nat} {L : Nat} (h : TP σ t L) (hF : XF2 σ τ) : TP τ t L := ⟨h.1, by rw [hF 2 1 (by omega)]; exact h.2.1, fun k hk => by rw [hF 7 k (by omega)]; exact h.2.2 k hk⟩
def QX (σ : Mem) (q : Nat × Nat) : Prop := σ 2 2 = nI q.1 ∧ σ 2 3 = nI q.2
theorem xstep_f {σ : Mem} {q : Nat × Nat} {p1 : Int32} (hq : QX σ q) (hL : q.2 ≤ 3) (h : q.2 ≠ 0) : f_X6_step p1 σ = some σ := by
  rw [f_X6_step, hq.2, l_0, if_neg (by rw [n_eq (by omega) (by omega)]; exact h)]
theorem xstep_0 {σ : Mem} {a : Nat} (hq : QX σ (a, 0)) : ∃ τ, f_X6_step 0 σ = some τ ∧ QX τ (a, 1) ∧ XF2 σ τ := by
  have e : σ 2 3 = nI 0 := hq.2
  refine ⟨st2 σ 2 3 (nI 1), ?_, ⟨by rw [st2_k (by omega)]; exact hq.1, st2_at⟩, XF2.st (Or.inr rfl)⟩
  rw [f_X6_step, e, if_pos l_0.symm, if_pos rfl, l_1, lt_eq]
theorem xstep_1 {σ : Mem} {a : Nat} (hq : QX σ (a, 0)) : ∃ τ, f_X6_step 1 σ = some τ ∧ QX τ (a + 1, 0) ∧ XF2 σ τ := by
  have e : σ 2 3 = nI 0 := hq.2
  have e2 : σ 2 2 = nI a := hq.1
  refine ⟨st2 σ 2 2 (nI (a + 1)), ?_, ⟨st2_at, by rw [st2_k (by omega)]; exact e⟩, XF2.st (Or.inl rfl)⟩
  rw [f_X6_step, e, if_pos l_0.symm, if_neg (by decide), e2, l_1, n_add, lt_eq]
theorem xsgn {σ : Mem} {t : Nat → Nat} {L c : Nat} {q : Nat × Nat} (hT : TP σ t L) (hq : QX σ q) (hk : Qok L q) (hc : c ≤ 255) : ∃ τ, f_X6_readSign (nI c) σ = some τ ∧ QX τ (sgnP t L c q) ∧ XF2 σ τ := by
  obtain ⟨hL, h1, h2⟩ := hT
  obtain ⟨a, f⟩ := q
  obtain ⟨k1, k2⟩ := hk
  have k1' : a ≤ L := k1
  have k2' : f ≤ 3 := k2
  have e2 : σ 2 2 = nI a := hq.1
  have go : ∀ b : Bool, (b = true ↔ a < L ∧ t a = c) → ∃ τ, f_X6_readSign_30 (nI c) (if b then 1 else 0) σ = some τ ∧ QX τ (sgnP t L c (a, f)) ∧ XF2 σ τ := by
    intro b hb
    by_cases hf : f = 0
    · subst hf
      cases b
      · have w : ¬ (a < L ∧ t a = c) := fun w => by have := hb.mpr w; cases this
        obtain ⟨τ, t1, t2, t3⟩ := xstep_0 hq
        refine ⟨τ, by rw [f_X6_readSign_30, if_neg (by decide), t1, bd_some], ?_, t3⟩
        rw [sgnP, if_neg (by show ¬ (0 ≠ 0); omega), if_neg w]
        exact t2
      · have w := hb.mp rfl
        obtain ⟨τ, t1, t2, t3⟩ := xstep_1 hq
        refine ⟨τ, by rw [f_X6_readSign_30, if_pos rfl, t1, bd_some], ?_, t3⟩
        rw [sgnP, if_neg (by show ¬ (0 ≠ 0); omega), if_pos w]
        exact t2
    · refine ⟨σ, by rw [f_X6_readSign_30, xstep_f hq k2 hf, bd_some], ?_, XF2.rf⟩
      rw [sgnP, if_pos hf]
      exact hq
  by_cases c1 : L ≤ a
  · obtain ⟨τ, t1, t2⟩ := go false ⟨fun h => Bool.noConfusion h, fun h => by omega⟩
    refine ⟨τ, ?_, t2⟩
    rw [f_X6_readSign, h1, e2, if_pos ((n_le (by omega) (by omega)).mpr c1)]
    exact t1
  · obtain ⟨v1, v2⟩ := h2 a (by omega)
    by_cases c2 : t a = c
    · obtain ⟨τ, t1, t2⟩ := go true ⟨fun _ => ⟨by omega, c2⟩, fun _ => rfl⟩
      refine ⟨τ, ?_, t2⟩
      rw [f_X6_readSign, h1, e2, if_neg (by rw [n_le (by omega) (by omega)]; exact c1), ing_ok (by omega) (by omega), n_ix (by omega), v1, c2, if_pos rfl]
      exact t1
    · obtain ⟨τ, t1, t2⟩ := go false ⟨fun h => Bool.noConfusion h, fun h => absurd h.2 c2⟩
      refine ⟨τ, ?_, t2⟩
      rw [f_X6_readSign, h1, e2, if_neg (by rw [n_le (by omega) (by omega)]; exact c1), ing_ok (by omega) (by omega), n_ix (by omega), v1, if_neg (by rw [n_eq (by omega) (by omega)]; exact c2)]
      exact t1
/-- the value behind j figures -/
def v3 (t : Nat → Nat) (a : Nat) : Nat → Nat
  | 0 => 0
  | j + 1 => 10 * v3 t a j + (t (a + j) - 48)
theorem v3_1 {t : Nat → Nat} {a : Nat} : v3 t a 1 = t a - 48 := by
  show 10 * 0 + (t (a + 0) - 48) = _
  rw [Nat.add_zero]; omega
theorem v3_2 {t : Nat → Nat} {a : Nat} : v3 t a 2 = 10 * (t a - 48) + (t (a + 1) - 48) := by
  show 10 * v3 t a 1 + (t (a + 1) - 48) = _
  rw [v3_1]
theorem v3_nv {t : Nat → Nat} {L a : Nat} (h : dR t L a = 1 ∨ dR t L a = 2) : v3 t a (dR t L a) = nv t L a := by
  unfold nv
  rcases h with h | h
  · rw [h, if_pos rfl, v3_1]
  · rw [h, if_neg (by omega), v3_2]
theorem xnum_78 {σ : Mem} {t : Nat → Nat} {L lo hi a m v : Nat} (hT : TP σ t L) (hq : QX σ (a, 0)) (ha : a ≤ L) (hm : m ≤ 3) (hm2 : m ≤ dR t L a) (hm3 : m = 3 ∨ m = dR t L a) (hv : v < 1000) (hv2 : m = dR t L a → (m = 1 ∨ m = 2) → v = nv t L a) (hlo : lo < 100) (hhi : hi < 100) : ∃ τ, f_X6_readNumber_78 (nI lo) (nI hi) (nI m) (nI v) σ = some (nI v, τ) ∧ QX τ (numP t L lo hi (a, 0)) ∧ XF2 σ τ ∧ ((numP t L lo hi (a, 0)).2 = 0 → v = nv t L a) := by
  have hL := hT.1
  have e3 : σ 2 3 = nI 0 := hq.2
  have e2 : σ 2 2 = nI a := hq.1
  have d1 := Classical.propDecidable (rng (nI m) 1 2)
  have d2 := Classical.propDecidable (rng (nI v) lo hi)
  have dl := dR_le (t := t) ha
  have rw1 : f_X7_within (nI m) 1 2 σ = some (if rng (nI m) 1 2 then nI 1 else nI 0, σ) := xin_rng (a := 1) (b := 2) (by decide) (by decide)
  have rw2 : f_X7_within (nI v) (nI lo) (nI hi) σ = some (if rng (nI v) lo hi then nI 1 else nI 0, σ) := xin_rng (by omega) (by omega)
  have r1 : rng (nI m) 1 2 ↔ m = 1 ∨ m = 2 := by
    rw [rng_int (by decide), n_int (by omega)]
    omega
  have r2 : rng (nI v) lo hi ↔ lo ≤ v ∧ v ≤ hi := by
    rw [rng_int (by omega), n_int (by omega)]
    omega
  have z : ¬ ((a, 0) : Nat × Nat).2 ≠ 0 := by show ¬ (0 ≠ 0); omega
  by_cases c1 : m = 1 ∨ m = 2
  · have em : m = dR t L a := by omega
    have ev := hv2 em c1
    have cd : dR t L ((a, 0) : Nat × Nat).1 = 1 ∨ dR t L ((a, 0) : Nat × Nat).1 = 2 := by
      show dR t L a = 1 ∨ dR t L a = 2
      omega
    by_cases c2 : lo ≤ v ∧ v ≤ hi
    · have c2' : lo ≤ nv t L ((a, 0) : Nat × Nat).1 ∧ nv t L ((a, 0) : Nat × Nat).1 ≤ hi := by
        show lo ≤ nv t L a ∧ nv t L a ≤ hi
        rw [← ev]; exact c2
      refine ⟨st2 σ 2 2 (nI (a + m)), ?_, ?_, XF2.st (Or.inl rfl), fun _ => ev⟩
      · rw [f_X6_readNumber_78, rw1, if_pos (r1.mpr c1), bd2_some, if_neg (by decide), rw2, if_pos (r2.mpr c2), bd2_some, if_neg (by decide), e2, n_add, lt_eq]
      · rw [numP, if_neg z, if_pos cd, if_pos c2', ← em]
        exact ⟨st2_at, by rw [st2_k (by omega)]; exact e3⟩
    · have c2' : ¬ (lo ≤ nv t L ((a, 0) : Nat × Nat).1 ∧ nv t L ((a, 0) : Nat × Nat).1 ≤ hi) := by
        show ¬ (lo ≤ nv t L a ∧ nv t L a ≤ hi)
        rw [← ev]; exact c2
      refine ⟨st2 σ 2 3 (nI 2), ?_, ?_, XF2.st (Or.inr rfl), ?_⟩
      · rw [f_X6_readNumber_78, rw1, if_pos (r1.mpr c1), bd2_some, if_neg (by decide), rw2, if_neg (fun w => c2 (r2.mp w)), bd2_some, if_pos l_0.symm, l_2, lt_eq]
      · rw [numP, if_neg z, if_pos cd, if_neg c2']
        exact ⟨by rw [st2_k (by omega)]; exact e2, st2_at⟩
      · rw [numP, if_neg z, if_pos cd, if_neg c2']
        intro h; exact absurd h (by show ¬ (2 = 0); omega)
  · have cd : ¬ (dR t L ((a, 0) : Nat × Nat).1 = 1 ∨ dR t L ((a, 0) : Nat × Nat).1 = 2) := by
      show ¬ (dR t L a = 1 ∨ dR t L a = 2)
      omega
    refine ⟨st2 σ 2 3 (nI 1), ?_, ?_, XF2.st (Or.inr rfl), ?_⟩
    · rw [f_X6_readNumber_78, rw1, if_neg (fun w => c1 (r1.mp w)), bd2_some, if_pos l_0.symm, l_1, lt_eq]
    · rw [numP, if_neg z, if_neg cd]
      exact ⟨by rw [st2_k (by omega)]; exact e2, st2_at⟩
    · rw [numP, if_neg z, if_neg cd]
      intro h; exact absurd h (by show ¬ (1 = 0); omega)
theorem v3_lt {t : Nat → Nat} {L a : Nat} : ∀ j, j ≤ 3 → j ≤ dR t L a → v3 t a j < 10 ^ j := by
  intro j
  induction j with
  | zero => intro _ _; exact Nat.one_pos
  | succ j ih =>
    intro h1 h2
    have d : 48 ≤ t (a + j) ∧ t (a + j) ≤ 57 := (dR_dig (t := t) (L := L) (a := a) (j := j) (by omega)).2
    have := ih (by omega) (by omega)
    rw [v3, Nat.pow_succ]
    omega
theorem xnum_20 {σ : Mem} {t : Nat → Nat} {L lo hi a : Nat} (hT : TP σ t L) (hq : QX σ (a, 0)) (ha : a ≤ L) (hlo : lo < 100) (hhi : hi < 100) : ∀ m j, j ≤ 3 → j ≤ dR t L a → 3 - j < m → ∃ τ v, f_X6_readNumber_20 (nI lo) (nI hi) m (nI j) (nI (v3 t a j)) (nI (a + j)) σ = some (nI v, τ) ∧ v < 1000 ∧ QX τ (numP t L lo hi (a, 0)) ∧ XF2 σ τ ∧ ((numP t L lo hi (a, 0)).2 = 0 → v = nv t L a) := by
  intro m
  induction m with
  | zero => intro j _ _ h; omega
  | succ m ih =>
    intro j h1 h2 h3
    have hL := hT.1
    have vl := v3_lt (t := t) (L := L) (a := a) j h1 h2
    have p3 : 10 ^ j ≤ 10 ^ 3 := Nat.pow_le_pow_right (by decide) h1
    have dl := dR_le (t := t) ha
    have fin : (j = 3 ∨ j = dR t L a) → ∃ τ v, f_X6_readNumber_78 (nI lo) (nI hi) (nI j) (nI (v3 t a j)) σ = some (nI v, τ) ∧ v < 1000 ∧ QX τ (numP t L lo hi (a, 0)) ∧ XF2 σ τ ∧ ((numP t L lo hi (a, 0)).2 = 0 → v = nv t L a) := fun hj => by
      obtain ⟨τ, t1, t2, t3, t4⟩ := xnum_78 (lo := lo) (hi := hi) (m := j) (v := v3 t a j) hT hq ha h1 h2 hj (by omega) (fun e w => by rw [e]; exact v3_nv (by omega)) hlo hhi
      exact ⟨τ, v3 t a j, t1, by omega, t2, t3, t4⟩
    by_cases c1 : L ≤ a + j
    · rw [f_X6_readNumber_20, hT.2.1, if_pos ((n_le (by omega) (by omega)).mpr c1)]
      exact fin (Or.inr (by omega))
    · by_cases c2 : 3 ≤ j
      · rw [f_X6_readNumber_20, hT.2.1, if_neg (by rw [n_le (by omega) (by omega)]; exact c1), l_3, if_pos ((n_le (by omega) (by omega)).mpr c2)]
        exact fin (Or.inl (by omega))
      · obtain ⟨v1, v2⟩ := hT.2.2 (a + j) (by omega)
        have dd := Classical.propDecidable (rng (nI (t (a + j))) 48 57)
        have rw1 : f_X7_within (nI (t (a + j))) 48 57 σ = some (if rng (nI (t (a + j))) 48 57 then nI 1 else nI 0, σ) := xin_rng (a := 48) (b := 57) (by decide) (by decide)
        have r1 : rng (nI (t (a + j))) 48 57 ↔ isD (t (a + j)) := by
          rw [rng_int (by decide), n_int (by omega)]
          unfold isD
          omega
        rcases Classical.em (isD (t (a + j))) with c3 | c3
        · have hj : j < dR t L a := by
            apply Nat.lt_of_not_le
            intro w
            have e : j = dR t L a := by omega
            rw [e] at c1 c3
            exact dR_end (t := t) (L := L) (a := a) ⟨by omega, c3⟩
          have c3' : 48 ≤ t (a + j) ∧ t (a + j) ≤ 57 := c3
          obtain ⟨τ, v, u1, u2⟩ := ih (j + 1) (by omega) (by omega) (by omega)
          refine ⟨τ, v, ?_, u2⟩
          rw [f_X6_readNumber_20, hT.2.1, if_neg (by rw [n_le (by omega) (by omega)]; exact c1), l_3, if_neg (by rw [n_le (by omega) (by omega)]; exact c2), ing_ok (by omega) (by omega), n_ix (by omega), v1, rw1, if_pos (r1.mpr c3), bd2_some, if_neg (by decide), ing_ok (by omega) (by omega), l_10, n_mul, v1, n_add, show (48 : Int32) = nI 48 from rfl, n_sub (by omega), lt_eq, lt_eq, lt_eq, l_1, n_add, n_add]
          rw [v3, show 10 * v3 t a j + (t (a + j) - 48) = 10 * v3 t a j + t (a + j) - 48 by omega] at u1
          exact u1
        · rw [f_X6_readNumber_20, hT.2.1, if_neg (by rw [n_le (by omega) (by omega)]; exact c1), l_3, if_neg (by rw [n_le (by omega) (by omega)]; exact c2), ing_ok (by omega) (by omega), n_ix (by omega), v1, rw1, if_neg (fun w => c3 (r1.mp w)), bd2_some, if_pos l_0.symm]
          refine fin (Or.inr ?_)
          have := dR_step j a h2
          have z : dR t L (a + j) = 0 := dR_n fun w => c3 w.2
          omega
theorem xnum {σ : Mem} {t : Nat → Nat} {L lo hi : Nat} {q : Nat × Nat} (hT : TP σ t L) (hq : QX σ q) (hk : Qok L q) (hlo : lo < 100) (hhi : hi < 100) : ∃ τ v, f_X6_readNumber (nI lo) (nI hi) σ = some (nI v, τ) ∧ v < 1000 ∧ QX τ (numP t L lo hi q) ∧ XF2 σ τ ∧ ((numP t L lo hi q).2 = 0 → v = nv t L q.1) := by
  obtain ⟨a, f⟩ := q
  obtain ⟨k1, k2⟩ := hk
  have k2' : f ≤ 3 := k2
  by_cases hf : f = 0
  · subst hf
    obtain ⟨τ, v, u1, u2⟩ := xnum_20 (lo := lo) (hi := hi) hT hq k1 hlo hhi FU 0 (Nat.zero_le _) (Nat.zero_le _) (by rw [FU_eq]; omega)
    refine ⟨τ, v, ?_, u2⟩
    have e3 : σ 2 3 = nI 0 := hq.2
    have e2 : σ 2 2 = nI a := hq.1
    rw [f_X6_readNumber, e3, if_pos l_0.symm, lt_eq, lt_eq, lt_eq, e2]
    exact u1
  · have e3 : σ 2 3 = nI f := hq.2
    have en : numP t L lo hi (a, f) = (a, f) := by rw [numP, if_pos hf]
    refine ⟨σ, lo, ?_, by omega, by rw [en]; exact hq, XF2.rf, fun h => ?_⟩
    · rw [f_X6_readNumber, e3, l_0, if_neg (by rw [n_eq (by omega) (by omega)]; exact hf)]
    · rw [en] at h
      exact absurd h hf
