/-! PURE, 23: foretold: frames; ahead, left, when -/
theorem CI.fo {σ τ : Mem} {s : Sys} (h : CI σ s) (hF : Fr (fun a => 111 ≤ a ∧ a ≤ 156) σ τ) : CI τ s := h.fr (hF.le fun a ha => Or.inl ha)
theorem MI.bk {σ τ : Mem} {s : Sys} (h : MI σ s) (hR : RA τ 187 s.g) (hF : Fr (fun a => a = 187 ∨ a = 192 ∨ a = 193) σ τ) : MI τ s := by
  have e3 := hF 183 (by omega)
  exact ⟨hR, by rw [e3]; exact h.m1b, h.m2.fr e3 (hF 191 (by omega)), h.m3.fr (hF 194 (by omega)) (hF 195 (by omega)), h.m4.fr e3 (hF 189 (by omega)), by unfold R5; rw [e3]; exact h.m5, h.m6.fr (hF 184 (by omega)) (hF 185 (by omega)) (hF 186 (by omega)), h.m7.fr e3 (hF 196 (by omega))⟩
def XT (F : Mem → Option (Int32 × Mem)) (v : Int32) (s : Sys) : Prop := ∀ σ, CI σ s → ∃ τ, F σ = some (v, τ) ∧ Fr (fun a => 111 ≤ a ∧ a ≤ 156) σ τ
theorem XT.xs {F : Mem → Option (Int32 × Mem)} {v : Int32} {s : Sys} (h : XT F v s) : XS F v s s := fun σ hc => by
  obtain ⟨τ, t1, t2⟩ := h σ hc
  exact ⟨τ, t1, hc.fo t2, t2.le fun a ha => by omega⟩
def MT (G : Mem → Option (Int32 × Mem)) (v : Int32) (s : Sys) : Prop := ∀ σ, MI σ s → ∃ τ, G σ = some (v, τ) ∧ RA τ 187 s.g ∧ Fr (fun a => a = 187 ∨ a = 192 ∨ a = 193) σ τ
theorem MT.ms {F : Mem → Option (Int32 × Mem)} {v : Int32} {s : Sys} (h : MT F v s) : MS F v s s := fun σ hm => by
  obtain ⟨τ, t1, t2, t3⟩ := h σ hm
  exact ⟨τ, t1, hm.bk t2 t3, t3.le fun a ha => by omega⟩
theorem xthen {σ : Mem} {s : Sys} (h : CI σ s) (hs : SysOk s) : ∃ τ, f_X5_take 112 8 σ = some τ ∧ RS τ 112 s.g ∧ Fr (fun a => 111 ≤ a ∧ a ≤ 156) σ τ := by
  obtain ⟨τ1, a1, a2, a3⟩ := xtake (b := 112) h.c1 hs.og.1.1 (Or.inr (by omega))
  exact ⟨τ1, a1, a2, a3.le fun a ha => by omega⟩
theorem xthenAll {σ : Mem} {g : Nat → Nat} {v : Nat} (h : RS σ 112 g) (hb : SB g) (hv : v < 3000) : ∃ τ, f_X5_passAll 112 (nI v) σ = some τ ∧ RS τ 112 (itG v g) ∧ Fr (fun a => 111 ≤ a ∧ a ≤ 156) σ τ := by
  obtain ⟨τ2, b1, b2, b3⟩ := xpassAll h hb hv
  exact ⟨τ2, b1, b2, b3.le fun a ha => by omega⟩
theorem xafter {σ : Mem} {s : Sys} {v : Nat} (h : CI σ s) (hs : SysOk s) (hv : v < 3000) : ∃ τ, f_X2_after 8 (nI v) σ = some τ ∧ RS τ 112 (itG v s.g) ∧ Fr (fun a => 111 ≤ a ∧ a ≤ 156) σ τ := by
  obtain ⟨τ1, a1, a2, a3⟩ := xthen h hs
  obtain ⟨τ2, b1, b2, b3⟩ := xthenAll a2 hs.og.1 hv
  refine ⟨τ2, ?_, b2, a3.tr b3⟩
  unfold f_X2_after
  rw [a1, bd_some, b1, bd_some]
theorem masi {σ : Mem} {s : Sys} (h : MI σ s) (hs : SysOk s) : ∃ τ, f_X8_putAside σ = some τ ∧ RA τ 187 s.g ∧ RA τ 192 s.g ∧ Fr (fun a => a = 187 ∨ a = 192 ∨ a = 193) σ τ := by
  obtain ⟨τ, t1, t2, t3⟩ := maside h.m1 hs.og.1.1
  exact ⟨τ, t1, h.m1.fr (t3 187 (by omega)), t2, t3.le fun a ha => by omega⟩
theorem mbac {σ : Mem} {g : Nat → Nat} (h : RA σ 192 g) (h8 : g 0 ≤ 8) : ∃ τ, f_X8_takeBack σ = some τ ∧ RA τ 187 g ∧ RA τ 192 g ∧ Fr (fun a => a = 187 ∨ a = 192 ∨ a = 193) σ τ := by
  obtain ⟨τ, t1, t2, t3⟩ := mback h h8
  exact ⟨τ, t1, t2, h.fr (t3 192 (by omega)), t3.le fun a ha => by omega⟩
theorem mgo {σ : Mem} {v : Nat} {g g' : Nat → Nat} (h : RA σ 187 g') (h2 : RA σ 192 g) (hb : SB g') (h1g : 1 ≤ g' 0) (hv : v < 3000) : ∃ τ, f_X8_goOn (nI v) σ = some τ ∧ RA τ 187 (itG v g') ∧ RA τ 192 g ∧ Fr (fun a => a = 187 ∨ a = 192 ∨ a = 193) σ τ := by
  obtain ⟨τ, t1, t2, t3⟩ := mgoOn h hb h1g hv
  exact ⟨τ, t1, t2, h2.fr (t3 192 (by omega)), t3.le fun a ha => by omega⟩
theorem mgo1 {σ : Mem} {g g' : Nat → Nat} (h : RA σ 187 g') (h2 : RA σ 192 g) (hb : SB g') (h1g : 1 ≤ g' 0) : ∃ τ, f_X8_oneHour σ = some τ ∧ RA τ 187 (hourG g') ∧ RA τ 192 g ∧ Fr (fun a => a = 187 ∨ a = 192 ∨ a = 193) σ τ := by
  obtain ⟨τ, t1, t2, t3⟩ := mhour h hb h1g
  exact ⟨τ, t1, t2, h2.fr (t3 192 (by omega)), t3.le fun a ha => by omega⟩
theorem xgo1 {σ : Mem} {g : Nat → Nat} (h : RS σ 112 g) (hb : SB g) : ∃ τ, f_X5_pass 112 σ = some τ ∧ RS τ 112 (hourG g) ∧ Fr (fun a => 111 ≤ a ∧ a ≤ 156) σ τ := by
  obtain ⟨τ2, b1, b2, b3⟩ := xpass h hb
  exact ⟨τ2, b1, b2, b3.le fun a ha => by omega⟩
theorem mleftBehind {σ : Mem} {v : Nat} {g g' : Nat → Nat} (h : RA σ 187 g') (h2 : RA σ 192 g) (hb : SB g') (h1g : 1 ≤ g' 0) (h8 : g 0 ≤ 8) (hv : v < 3000) : ∃ τ, f_X8_leftBehind (nI v) σ = some (nI (standG (itG v g')), τ) ∧ RA τ 187 g ∧ RA τ 192 g ∧ Fr (fun a => a = 187 ∨ a = 192 ∨ a = 193) σ τ := by
  obtain ⟨τ1, a1, a2, a3, a4⟩ := mgo h h2 hb h1g hv
  obtain ⟨τ2, b1, b2, b3, b4⟩ := mbac a3 h8
  refine ⟨τ2, ?_, b2, b3, a4.tr b4⟩
  unfold f_X8_leftBehind
  rw [a1, bd_some, mstanding a2 (it_SB hb v), bd2_some, lt_eq, b1, bd_some]
theorem both_ahead (p q : Int32) : BOTH (f_X7_ahead p q) (f_X8_ahead p q) := by
  intro s hs
  have h8 := hs.og.1.1
  have hb := hs.og.1
  by_cases c0 : hous p (s.g 0)
  · obtain ⟨j, rfl, hj⟩ := c0
    have d := Classical.propDecidable (rng q 0 60)
    have hx : ∀ σ, f_X7_within q (nI 0) (nI 60) σ = some (if rng q 0 60 then nI 1 else nI 0, σ) := fun σ => xin_rng (by decide) (by decide)
    have hy : ∀ σ, f_X8_in q.toInt64 0 60 σ = some (if rng q 0 60 then nI 1 else nI 0, σ) := fun σ => min_rng (a := 0) (b := 60) rfl rfl (by decide)
    by_cases c : rng q 0 60
    · have c' := c
      obtain ⟨v, rfl, -, hv⟩ := c'
      refine ⟨nI (itG v s.g (21 + j)), s, hs, XT.xs fun σ hc => ?_, MT.ms fun σ hm => ?_⟩
      · obtain ⟨τ, t1, t2, t3⟩ := xafter hc hs (v := v) (by omega)
        have e := (t2.2 j (by rw [it_low (by omega) (by omega)]; exact hj)).2.2
        refine ⟨τ, ?_, t3⟩
        simp (disch := omega) only [f_X7_ahead, xhouse_y hs hj hc, hx, c, bd2_some, bd_some, l_0, l_60, n_eq, n_ix, ing_ok, ↓reduceIte, Nat.reduceEqDiff, t1, e]
      · obtain ⟨τ1, a1, a2, a3, a4⟩ := masi hm hs
        obtain ⟨τ2, b1, b2, b3, b4⟩ := mgo (v := v) a2 a3 hb (by omega) (by omega)
        have e := (b2.2 j (by rw [it_low (by omega) (by omega)]; exact hj)).2.2
        obtain ⟨τ3, c1, c2, c3, c4⟩ := mbac b3 h8
        refine ⟨τ3, ?_, c2, (a4.tr b4).tr c4⟩
        simp (disch := omega) only [f_X8_ahead, mhouse_y hs hj hm, hy, c, bd2_some, bd_some, l_0, l_21, n_add, n_eq, n_ix, ing_ok, ↓reduceIte, Nat.reduceEqDiff, a1, b1, c1, lt_eq, e]
    · refine ⟨-1000001, s, hs, XS.rf fun σ hc => ?_, MS.rf fun σ hm => ?_⟩
      · simp (disch := omega) only [f_X7_ahead, xhouse_y hs hj hc, hx, c, bd2_some, l_0, l_60, n_eq, Nat.reduceEqDiff, ↓reduceIte]
      · simp (disch := omega) only [f_X8_ahead, mhouse_y hs hj hm, hy, c, bd2_some, l_0, n_eq, Nat.reduceEqDiff, ↓reduceIte]
  · refine ⟨-1000001, s, hs, XS.rf fun σ hc => ?_, MS.rf fun σ hm => ?_⟩
    · simp only [f_X7_ahead, xhouse_n hs c0 hc, bd2_some, l_0, ↓reduceIte]
    · simp only [f_X8_ahead, mhouse_n hs c0 hm, bd2_some, l_0, ↓reduceIte]
theorem both_left (p : Int32) : BOTH (f_X7_left p) (f_X8_left p) := by
  intro s hs
  have h8 := hs.og.1.1
  have hb := hs.og.1
  have d := Classical.propDecidable (rng p 0 60)
  have hx : ∀ σ, f_X7_within p (nI 0) (nI 60) σ = some (if rng p 0 60 then nI 1 else nI 0, σ) := fun σ => xin_rng (by decide) (by decide)
  have hy : ∀ σ, f_X8_in p.toInt64 0 60 σ = some (if rng p 0 60 then nI 1 else nI 0, σ) := fun σ => min_rng (a := 0) (b := 60) rfl rfl (by decide)
  by_cases c0 : s.g 0 = 0
  · refine ⟨-1000002, s, hs, XS.rf fun σ hc => ?_, MS.rf fun σ hm => ?_⟩
    · simp (disch := omega) only [f_X7_left, xnoStreet hc hs, c0, bd2_some, l_0, n_eq, ↓reduceIte, Nat.reduceEqDiff]
    · have e := hm.m1b
      rw [if_pos c0] at e
      simp (disch := omega) only [f_X8_left, e, l_0, ↓reduceIte]
  · have e1 : ∀ σ, MI σ s → σ 183 4 = nI 1 := fun σ hm => by rw [hm.m1b, if_neg c0]
    by_cases c : rng p 0 60
    · have c' := c
      obtain ⟨v, rfl, -, hv⟩ := c'
      refine ⟨nI (standG (itG v s.g)), s, hs, XT.xs fun σ hc => ?_, MT.ms fun σ hm => ?_⟩
      · obtain ⟨τ, t1, t2, t3⟩ := xafter hc hs (v := v) (by omega)
        have e := xstanding t2 (it_SB hb v)
        refine ⟨τ, ?_, t3⟩
        simp (disch := omega) only [f_X7_left, xnoStreet hc hs, c0, hx, c, bd2_some, bd_some, l_0, l_60, n_eq, ↓reduceIte, Nat.reduceEqDiff, t1, e]
      · obtain ⟨τ1, a1, a2, a3, a4⟩ := masi hm hs
        obtain ⟨τ2, b1, b2, b3, b4⟩ := mleftBehind (v := v) a2 a3 hb (by omega) h8 (by omega)
        refine ⟨τ2, ?_, b2, a4.tr b4⟩
        simp (disch := omega) only [f_X8_left, e1 σ hm, hy, c, bd2_some, bd_some, l_0, n_eq, ↓reduceIte, Nat.reduceEqDiff, a1, b1]
    · refine ⟨-1000001, s, hs, XS.rf fun σ hc => ?_, MS.rf fun σ hm => ?_⟩
      · simp (disch := omega) only [f_X7_left, xnoStreet hc hs, c0, hx, c, bd2_some, l_0, l_60, n_eq, Nat.reduceEqDiff, ↓reduceIte]
      · simp (disch := omega) only [f_X8_left, e1 σ hm, hy, c, bd2_some, l_0, n_eq, Nat.reduceEqDiff, ↓reduceIte]
/-- is it fallen, or does it lean -/
def howG (g : Nat → Nat) (j how : Nat) : Prop := if how = 0 then g (21 + j) = 0 else 0 < g (21 + j) ∧ g (21 + j) < g 2
noncomputable def whenG (g : Nat → Nat) (j how : Nat) : Nat → Int32
  | 0 => have := Classical.propDecidable (howG (itG 60 g) j how); if howG (itG 60 g) j how then nI 60 else -1000000
  | k + 1 => have := Classical.propDecidable (howG (itG (60 - (k + 1)) g) j how); if howG (itG (60 - (k + 1)) g) j how then nI (60 - (k + 1)) else whenG g j how k
theorem when_y {g : Nat → Nat} {j how k : Nat} (h : howG (itG (60 - k) g) j how) : whenG g j how k = nI (60 - k) := by
  cases k with
  | zero => unfold whenG; exact if_pos h
  | succ k => unfold whenG; exact if_pos h
theorem when_z {g : Nat → Nat} {j how : Nat} (h : ¬ howG (itG 60 g) j how) : whenG g j how 0 = -1000000 := by
  unfold whenG; exact if_neg h
theorem when_s {g : Nat → Nat} {j how k : Nat} (h : ¬ howG (itG (60 - (k + 1)) g) j how) : whenG g j how (k + 1) = whenG g j how k := by
  rw [whenG]; exact if_neg h
/-- one look, on the class's side -/
theorem xhow_y {σ : Mem} {g : Nat → Nat} {j how n m : Nat} {b : Nat} (hR : RS σ 112 g) (hb : SB g) (hj : j < g 0) (hh : how ≤ 1) (hm : m ≤ 60) (h : howG g j how) : f_X2_hoursUntil_11 b (nI j) (nI how) (n + 1) (nI m) σ = some (nI m, σ) := by
  have h8 := hb.1
  have e := (hR.2 j hj).2.2
  have h99 := (hb.2.2.2.2 j hj).2.2
  have hl := xleans hR hb hj
  have c60 : ¬ 60 < m := by omega
  rcases (by omega : how = 0 ∨ how = 1) with rfl | rfl
  · have h0 : g (21 + j) = 0 := h
    rw [h0] at e
    simp (disch := omega) only [f_X2_hoursUntil_11, l_0, l_60, n_lt, c60, n_ix, ing_ok, e, ↓reduceIte]
  · have h0 : 0 < g (21 + j) ∧ g (21 + j) < g 2 := h
    rw [if_pos h0] at hl
    simp (disch := omega) only [f_X2_hoursUntil_11, l_0, l_60, n_lt, n_eq, c60, hl, bd2_some, ↓reduceIte, Nat.reduceEqDiff]
theorem xhow_n {σ τ : Mem} {g : Nat → Nat} {j how n m : Nat} {b : Nat} (hR : RS σ 112 g) (hb : SB g) (hj : j < g 0) (hh : how ≤ 1) (hm : m ≤ 60) (h : ¬ howG g j how) (hp : f_X5_pass 112 σ = some τ) : f_X2_hoursUntil_11 b (nI j) (nI how) (n + 1) (nI m) σ = f_X2_hoursUntil_11 b (nI j) (nI how) n (nI (m + 1)) τ := by
  have h8 := hb.1
  have e := (hR.2 j hj).2.2
  have h99 := (hb.2.2.2.2 j hj).2.2
  have hl := xleans hR hb hj
  have c60 : ¬ 60 < m := by omega
  have e5 : ∀ K, f_X2_hoursUntil_51 b (nI j) (nI how) K (nI m) σ = K (nI (m + 1)) τ := fun K => by
    unfold f_X2_hoursUntil_51
    rw [hp, bd_some, lt_eq, l_1, n_add]
  rcases (by omega : how = 0 ∨ how = 1) with rfl | rfl
  · have h0 : ¬ g (21 + j) = 0 := h
    rw [f_X2_hoursUntil_11]
    simp (disch := omega) only [l_0, l_60, n_lt, c60, n_ix, ing_ok, e, n_eq, h0, ↓reduceIte]
    exact e5 _
  · have h0 : ¬ (0 < g (21 + j) ∧ g (21 + j) < g 2) := h
    rw [if_neg h0] at hl
    rw [f_X2_hoursUntil_11]
    simp (disch := omega) only [l_0, l_60, n_lt, n_eq, c60, hl, bd2_some, ↓reduceIte, Nat.reduceEqDiff]
    exact e5 _
theorem xwhen {g : Nat → Nat} {j how : Nat} {b : Nat} (hb : SB g) (hj : j < g 0) (hh : how ≤ 1) : ∀ k m σ, k ≤ 60 → k + 1 < m → RS σ 112 (itG (60 - k) g) → ∃ τ, f_X2_hoursUntil_11 b (nI j) (nI how) m (nI (60 - k)) σ = some (whenG g j how k, τ) ∧ Fr (fun a => 111 ≤ a ∧ a ≤ 156) σ τ := by
  intro k
  induction k with
  | zero =>
    intro m σ _ hm hR
    obtain ⟨m', rfl⟩ : ∃ m', m = m' + 1 + 1 := ⟨m - 2, by omega⟩
    have hj' : j < itG (60 - 0) g 0 := by rw [it_low (by omega) (by omega)]; exact hj
    rcases Classical.em (howG (itG (60 - 0) g) j how) with h | h
    · exact ⟨σ, by rw [when_y h]; exact xhow_y hR (it_SB hb _) hj' hh (by omega) h, Fr.rf⟩
    · obtain ⟨τ, t1, t2, t3⟩ := xgo1 hR (it_SB hb _)
      refine ⟨τ, ?_, t3⟩
      rw [xhow_n hR (it_SB hb _) hj' hh (by omega) h t1, when_z h, f_X2_hoursUntil_11, l_60, if_pos ((n_lt (by decide) (by decide)).mpr (by decide))]
  | succ k ih =>
    intro m σ hk hm hR
    obtain ⟨m', rfl⟩ : ∃ m', m = m' + 1 := ⟨m - 1, by omega⟩
    have hj' : j < itG (60 - (k + 1)) g 0 := by rw [it_low (by omega) (by omega)]; exact hj
    rcases Classical.em (howG (itG (60 - (k + 1)) g) j how) with h | h
    · exact ⟨σ, by rw [when_y h]; exact xhow_y hR (it_SB hb _) hj' hh (by omega) h, Fr.rf⟩
    · obtain ⟨τ, t1, t2, t3⟩ := xgo1 hR (it_SB hb _)
      have e : 60 - k = 60 - (k + 1) + 1 := by omega
      obtain ⟨υ, u1, u2⟩ := ih m' τ (by omega) (by omega) (by rw [e]; exact t2)
      refine ⟨υ, ?_, t3.tr u2⟩
      rw [xhow_n hR (it_SB hb _) hj' hh (by omega) h t1, when_s h, ← e]
      exact u1
theorem misHow {σ : Mem} {g : Nat → Nat} {j how : Nat} (hR : RA σ 187 g) (hb : SB g) (hj : j < g 0) (hh : how ≤ 1) [Decidable (howG g j how)] : f_X8_isHow (nI j) (nI how) σ = some (if howG g j how then nI 1 else nI 0, σ) := by
  have h8 := hb.1
  have hst := mstands hR hb hj
  have hl := mleans hR hb hj
  rcases (by omega : how = 0 ∨ how = 1) with rfl | rfl
  · by_cases c : g (21 + j) = 0
    · have c' : howG g j 0 := c
      rw [if_pos c']
      rw [if_neg (by omega)] at hst
      simp (disch := omega) only [f_X8_isHow, l_0, l_1, hst, bd2_some, ↓reduceIte]
    · have c' : ¬ howG g j 0 := c
      rw [if_neg c']
      rw [if_pos (by omega)] at hst
      simp (disch := omega) only [f_X8_isHow, l_0, l_1, hst, bd2_some, n_eq, Nat.reduceEqDiff, ↓reduceIte]
  · by_cases c : 0 < g (21 + j) ∧ g (21 + j) < g 2
    · have c' : howG g j 1 := c
      rw [if_pos c']
      rw [if_pos c] at hl
      simp (disch := omega) only [f_X8_isHow, l_0, l_1, hl, bd2_some, n_eq, Nat.reduceEqDiff, ↓reduceIte]
      exact gd_ok (by simp)
    · have c' : ¬ howG g j 1 := c
      rw [if_neg c']
      rw [if_neg c] at hl
      simp (disch := omega) only [f_X8_isHow, l_0, l_1, hl, bd2_some, n_eq, Nat.reduceEqDiff, ↓reduceIte]
      exact gd_ok (by simp)
theorem mwhen {g : Nat → Nat} {j how : Nat} (hb : SB g) (hj : j < g 0) (hh : how ≤ 1) : ∀ k m σ, k ≤ 60 → k < m → RA σ 187 (itG (60 - k) g) → RA σ 192 g → ∃ τ, f_X8_when_27 (nI j) (nI how) m (nI (60 - k)) σ = some (whenG g j how k, τ) ∧ RA τ 187 g ∧ Fr (fun a => a = 187 ∨ a = 192 ∨ a = 193) σ τ := by
  intro k
  induction k with
  | zero =>
    intro m σ _ hm hR h2
    obtain ⟨m', rfl⟩ : ∃ m', m = m' + 1 := ⟨m - 1, by omega⟩
    have d := Classical.propDecidable (howG (itG (60 - 0) g) j how)
    have hj' : j < itG (60 - 0) g 0 := by rw [it_low (by omega) (by omega)]; exact hj
    have e1 := misHow hR (it_SB hb _) hj' hh
    obtain ⟨τ, t1, t2, t3, t4⟩ := mbac h2 hb.1
    refine ⟨τ, ?_, t2, t4⟩
    by_cases h : howG (itG (60 - 0) g) j how
    · rw [if_pos h] at e1
      rw [when_y h, f_X8_when_27, e1, bd2_some, l_0, if_neg (by decide), f_X8_when_52, e1, bd2_some, lt_eq, t1, bd_some, l_0, if_neg (by decide)]
    · rw [if_neg h] at e1
      rw [when_z h, f_X8_when_27, e1, bd2_some, l_0, if_pos rfl, if_pos (by decide), f_X8_when_52, e1, bd2_some, lt_eq, t1, bd_some, l_0, if_pos rfl]
  | succ k ih =>
    intro m σ hk hm hR h2
    obtain ⟨m', rfl⟩ : ∃ m', m = m' + 1 := ⟨m - 1, by omega⟩
    have d := Classical.propDecidable (howG (itG (60 - (k + 1)) g) j how)
    have hj' : j < itG (60 - (k + 1)) g 0 := by rw [it_low (by omega) (by omega)]; exact hj
    have e1 := misHow hR (it_SB hb _) hj' hh
    by_cases h : howG (itG (60 - (k + 1)) g) j how
    · obtain ⟨τ, t1, t2, t3, t4⟩ := mbac h2 hb.1
      refine ⟨τ, ?_, t2, t4⟩
      rw [if_pos h] at e1
      rw [when_y h, f_X8_when_27, e1, bd2_some, l_0, if_neg (by decide), f_X8_when_52, e1, bd2_some, lt_eq, t1, bd_some, l_0, if_neg (by decide)]
    · rw [if_neg h] at e1
      obtain ⟨τ, t1, t2, t3, t4⟩ := mgo1 hR h2 (it_SB hb _) (by omega)
      have e : 60 - k = 60 - (k + 1) + 1 := by omega
      obtain ⟨υ, u1, u2, u3⟩ := ih m' τ (by omega) (by omega) (by rw [e]; exact t2) t3
      refine ⟨υ, ?_, u2, t4.tr u3⟩
      have c60 : ¬ (nI 60 ≤ nI (60 - (k + 1))) := by rw [n_le (by omega) (by omega)]; omega
      rw [when_s h, f_X8_when_27, e1, bd2_some, l_0, if_pos rfl, l_60, if_neg c60, t1, bd_some, lt_eq, l_1, n_add, ← e]
      exact u1
theorem both_when (p q : Int32) : BOTH (f_X7_when p q) (f_X8_when p q) := by
  intro s hs
  have h8 := hs.og.1.1
  have hb := hs.og.1
  by_cases c0 : hous p (s.g 0)
  · obtain ⟨j, rfl, hj⟩ := c0
    have d := Classical.propDecidable (rng q 0 1)
    have hx : ∀ σ, f_X7_within q (nI 0) (nI 1) σ = some (if rng q 0 1 then nI 1 else nI 0, σ) := fun σ => xin_rng (by decide) (by decide)
    have hy : ∀ σ, f_X8_in q.toInt64 0 1 σ = some (if rng q 0 1 then nI 1 else nI 0, σ) := fun σ => min_rng (a := 0) (b := 1) rfl rfl (by decide)
    by_cases c : rng q 0 1
    · have c' := c
      obtain ⟨v, rfl, -, hv⟩ := c'
      refine ⟨whenG s.g j v 60, s, hs, XT.xs fun σ hc => ?_, MT.ms fun σ hm => ?_⟩
      · obtain ⟨τ, t1, t2, t3⟩ := xthen hc hs
        obtain ⟨υ, u1, u2⟩ := xwhen (b := 8) hb hj hv 60 FU τ (by omega) (by rw [FU_eq]; omega) t2
        refine ⟨υ, ?_, t3.tr u2⟩
        have w : f_X2_hoursUntil 8 (nI j) (nI v) σ = some (whenG s.g j v 60, υ) := by
          unfold f_X2_hoursUntil
          rw [t1, bd_some, lt_eq]
          exact u1
        simp (disch := omega) only [f_X7_when, xhouse_y hs hj hc, hx, c, bd2_some, l_0, l_1, n_eq, ↓reduceIte, Nat.reduceEqDiff, w]
      · obtain ⟨τ1, a1, a2, a3, a4⟩ := masi hm hs
        obtain ⟨τ2, b1, b2, b3⟩ := mwhen hb hj hv 60 FU τ1 (by omega) (by rw [FU_eq]; omega) a2 a3
        refine ⟨τ2, ?_, b2, a4.tr b3⟩
        unfold f_X8_when
        rw [mhouse_y hs hj hm, bd2_some, if_neg (by decide), hy, if_pos c, bd2_some, if_neg (by decide), a1, bd_some, lt_eq]
        exact b1
    · refine ⟨-1000001, s, hs, XS.rf fun σ hc => ?_, MS.rf fun σ hm => ?_⟩
      · simp (disch := omega) only [f_X7_when, xhouse_y hs hj hc, hx, c, bd2_some, l_0, l_1, n_eq, Nat.reduceEqDiff, ↓reduceIte]
      · simp (disch := omega) only [f_X8_when, mhouse_y hs hj hm, hy, c, bd2_some, l_0, n_eq, Nat.reduceEqDiff, ↓reduceIte]
  · refine ⟨-1000001, s, hs, XS.rf fun σ hc => ?_, MS.rf fun σ hm => ?_⟩
    · simp only [f_X7_when, xhouse_n hs c0 hc, bd2_some, l_0, ↓reduceIte]
    · simp only [f_X8_when, mhouse_n hs c0 hm, bd2_some, l_0, ↓reduceIte]
