/-! PURE, 25: foretold: the best walls, the best steadied -/
theorem xstandingAfter {σ : Mem} {g : Nat → Nat} {v : Nat} (h : RS σ 112 g) (hb : SB g) (hv : v < 3000) : ∃ τ, f_X2_standingAfter (nI v) σ = some (nI (popc (standG (itG v g))), τ) ∧ Fr (fun a => 111 ≤ a ∧ a ≤ 156) σ τ := by
  obtain ⟨τ, t1, t2, t3⟩ := xthenAll h hb hv
  have s := standG_lt (it_SB hb v)
  refine ⟨τ, ?_, t3⟩
  rw [f_X2_standingAfter, t1, bd_some, xstanding t2 (it_SB hb v), bd2_some, xones s, bd2_some]
noncomputable def wstep (g : Nat → Nat) (n k : Nat) (q : Nat × Int32) : Nat × Int32 := if q.2 < nI (popc (standG (itG n (wl g k)))) then (k, nI (popc (standG (itG n (wl g k))))) else if nI (popc (standG (itG n (wl g k)))) = q.2 then (if popc q.1 ≤ popc k then q else (k, nI (popc (standG (itG n (wl g k)))))) else q
noncomputable def wfold (g : Nat → Nat) (n : Nat) : Nat → Nat × Int32
  | 0 => (0, -1)
  | k + 1 => wstep g n k (wfold g n k)
theorem wfold_le (g : Nat → Nat) (n : Nat) : ∀ k, (wfold g n k).1 ≤ k := by
  intro k
  induction k with
  | zero => exact Nat.le_refl _
  | succ k ih =>
    rw [wfold, wstep]
    repeat' split
    all_goals first | exact Nat.le_succ k | omega
theorem pw_le {n : Nat} (h : n ≤ 8) (h1 : 1 ≤ n) : 2 ^ (n - 1) ≤ 128 := Nat.pow_le_pow_right (j := 7) (by decide) (by omega)
theorem xwalls_9 {s : Sys} {n what : Nat} (hs : SysOk s) (h1 : 1 ≤ s.g 0) (hn : n ≤ 60) (hw : what ≤ 1) : ∀ m j σ, CI σ s → j ≤ 2 ^ (s.g 0 - 1) → 2 ^ (s.g 0 - 1) - j < m → ∃ τ, f_X2_bestWalls_9 8 (nI n) (nI what) m (nI (wfold s.g n j).1) (wfold s.g n j).2 (nI j) σ = some (if what = 0 then nI (wfold s.g n (2 ^ (s.g 0 - 1))).1 else (wfold s.g n (2 ^ (s.g 0 - 1))).2, τ) ∧ Fr (fun a => 111 ≤ a ∧ a ≤ 156) σ τ := by
  intro m
  induction m with
  | zero => intro j σ _ _ h; omega
  | succ m ih =>
    intro j σ hc h2 h3
    have h8 := hs.og.1.1
    have hp := pw_le h8 h1
    by_cases c : 2 ^ (s.g 0 - 1) ≤ j
    · have e : j = 2 ^ (s.g 0 - 1) := by omega
      refine ⟨σ, ?_, Fr.rf⟩
      rw [← e]
      rcases (by omega : what = 0 ∨ what = 1) with rfl | rfl
      all_goals simp (disch := omega) only [f_X2_bestWalls_9, hc.c1.1.1, l_0, l_1, l_31, n_sub, n_shl, n_le, n_eq, c, ↓reduceIte, Nat.reduceEqDiff]
    · obtain ⟨τ1, a1, a2, a3⟩ := xthen hc hs
      have a4 := RS.wl (x := j) a2
      have hb' := (hs.og.wl (x := j) (by omega)).1
      obtain ⟨τ2, b1, b2⟩ := xstandingAfter (v := n) a4 hb' (by omega)
      have hF := (a3.tr (Fr.st (S := fun a => 111 ≤ a ∧ a ≤ 156) (k := 7) (x := nI j) (a := 112) (by omega))).tr b2
      obtain ⟨υ, u1, u2⟩ := ih (j + 1) τ2 (hc.fo hF) (by omega) (by omega)
      refine ⟨υ, ?_, hF.tr u2⟩
      have lb := wfold_le s.g n j
      rw [← u1]
      have p1 := popc_le j
      have p2 := popc_le (wfold s.g n j).1
      rw [wfold, wstep]
      by_cases d : popc (wfold s.g n j).1 ≤ popc j
      · simp (disch := omega) only [f_X2_bestWalls_9, hc.c1.1.1, l_1, l_31, l_0, n_sub, n_shl, n_le, c, ↓reduceIte, a1, bd_some, bd2_some, lt_eq, b1, xones, d, n_add, f_X2_bestWalls_64]
        repeat' split
        all_goals rfl
      · simp (disch := omega) only [f_X2_bestWalls_9, hc.c1.1.1, l_1, l_31, l_0, n_sub, n_shl, n_le, n_eq, Nat.reduceEqDiff, c, ↓reduceIte, a1, bd_some, bd2_some, lt_eq, b1, xones, d, n_add, f_X2_bestWalls_64]
        repeat' split
        all_goals rfl
theorem mwalls_44 {g : Nat → Nat} {n what : Nat} (hg : SG g) (h1 : 1 ≤ g 0) (hn : n ≤ 60) (hw : what ≤ 1) : ∀ m j σ, RA σ 187 g → RA σ 192 g → j ≤ 2 ^ (g 0 - 1) → 2 ^ (g 0 - 1) - j < m → ∃ τ, f_X8_walls_44 (nI n) (nI what) m (nI (wfold g n j).1) (wfold g n j).2 (nI j) σ = some (if what = 0 then nI (wfold g n (2 ^ (g 0 - 1))).1 else (wfold g n (2 ^ (g 0 - 1))).2, τ) ∧ RA τ 187 g ∧ Fr (fun a => a = 187 ∨ a = 192 ∨ a = 193) σ τ := by
  intro m
  induction m with
  | zero => intro j σ _ _ _ h; omega
  | succ m ih =>
    intro j σ hR hA h2 h3
    have h8 := hg.1.1
    have hp := pw_le h8 h1
    by_cases c : 2 ^ (g 0 - 1) ≤ j
    · have e : j = 2 ^ (g 0 - 1) := by omega
      refine ⟨σ, ?_, hR, Fr.rf⟩
      rw [← e]
      rcases (by omega : what = 0 ∨ what = 1) with rfl | rfl
      all_goals simp (disch := omega) only [f_X8_walls_44, n_ix, ing_ok, hR.1.1, l_0, l_1, l_31, n_sub, n_shl, n_le, n_eq, c, ↓reduceIte, Nat.reduceEqDiff]
    · have a4 := RA.wl (x := j) hR
      have hb' := (hg.wl (x := j) (by omega)).1
      have s0 := standG_lt (it_SB hb' n)
      obtain ⟨τ2, b1, b2, b3, b4⟩ := mleftBehind (v := n) a4 (hA.fr (st2_row (by omega))) hb' (by rw [wl_ne (by omega)]; exact h1) h8 (by omega)
      have hF := (Fr.st (S := fun a => a = 187 ∨ a = 192 ∨ a = 193) (σ := σ) (k := 4) (x := nI j) (a := 187) (by omega)).tr b4
      obtain ⟨υ, u1, u2, u3⟩ := ih (j + 1) τ2 b2 b3 (by omega) (by omega)
      refine ⟨υ, ?_, u2, hF.tr u3⟩
      have lb := wfold_le g n j
      rw [← u1]
      have p1 := popc_le j
      have p2 := popc_le (wfold g n j).1
      rw [wfold, wstep]
      simp (disch := omega) only [f_X8_walls_44, n_ix, ing_ok, hR.1.1, l_1, l_4, l_31, l_0, n_sub, n_shl, n_le, c, ↓reduceIte, bd2_some, lt_eq, b1, mones, n_add]
      repeat' split
      all_goals rfl
theorem both_walls (p q : Int32) : BOTH (f_X7_walls p q) (f_X8_walls p q) := by
  intro s hs
  have h8 := hs.og.1.1
  have hb := hs.og.1
  have d := Classical.propDecidable (rng p 1 60)
  have d2 := Classical.propDecidable (rng q 0 1)
  have hx : ∀ σ, f_X7_within p (nI 1) (nI 60) σ = some (if rng p 1 60 then nI 1 else nI 0, σ) := fun σ => xin_rng (by decide) (by decide)
  have hy : ∀ σ, f_X8_in p.toInt64 1 60 σ = some (if rng p 1 60 then nI 1 else nI 0, σ) := fun σ => min_rng (a := 1) (b := 60) rfl rfl (by decide)
  have hx2 : ∀ σ, f_X7_within q (nI 0) (nI 1) σ = some (if rng q 0 1 then nI 1 else nI 0, σ) := fun σ => xin_rng (by decide) (by decide)
  by_cases c0 : s.g 0 = 0
  · refine ⟨-1000002, s, hs, XS.rf fun σ hc => ?_, MS.rf fun σ hm => ?_⟩
    · simp (disch := omega) only [f_X7_walls, xnoStreet hc hs, c0, bd2_some, l_0, n_eq, ↓reduceIte, Nat.reduceEqDiff]
    · have e := hm.m1b
      rw [if_pos c0] at e
      simp (disch := omega) only [f_X8_walls, e, l_0, ↓reduceIte]
  · have e1 : ∀ σ, MI σ s → σ 183 4 = nI 1 := fun σ hm => by rw [hm.m1b, if_neg c0]
    by_cases c : rng p 1 60
    · by_cases cq : rng q 0 1
      · have c' := c
        obtain ⟨n, rfl, hn1, hn⟩ := c'
        have cq' := cq
        obtain ⟨v, rfl, -, hv⟩ := cq'
        have hp := pw_le h8 (by omega)
        refine ⟨if v = 0 then nI (wfold s.g n (2 ^ (s.g 0 - 1))).1 else (wfold s.g n (2 ^ (s.g 0 - 1))).2, s, hs, XT.xs fun σ hc => ?_, MT.ms fun σ hm => ?_⟩
        · obtain ⟨υ, u1, u2⟩ := xwalls_9 hs (by omega) hn hv FU 0 σ hc (Nat.zero_le _) (by rw [FU_eq]; omega)
          refine ⟨υ, ?_, u2⟩
          have w : f_X2_bestWalls 8 (nI n) (nI v) σ = some (if v = 0 then nI (wfold s.g n (2 ^ (s.g 0 - 1))).1 else (wfold s.g n (2 ^ (s.g 0 - 1))).2, υ) := by
            unfold f_X2_bestWalls
            rw [lt_eq, lt_eq, lt_eq]
            exact u1
          simp (disch := omega) only [f_X7_walls, xnoStreet hc hs, c0, hx, hx2, c, cq, bd2_some, l_0, l_1, l_60, n_eq, ↓reduceIte, Nat.reduceEqDiff, w]
        · obtain ⟨τ1, a1, a2, a3, a4⟩ := masi hm hs
          obtain ⟨τ2, b1, b2, b3⟩ := mwalls_44 hs.og (by omega) hn hv FU 0 τ1 a2 a3 (Nat.zero_le _) (by rw [FU_eq]; omega)
          refine ⟨τ2, ?_, b2, a4.tr b3⟩
          unfold f_X8_walls
          rw [e1 σ hm, if_neg (by decide), hy, if_pos c, bd2_some, if_neg (by decide), misWhat, if_pos cq, bd2_some, if_neg (by decide), a1, bd_some, lt_eq, lt_eq, lt_eq]
          exact b1
      · refine ⟨-1000001, s, hs, XS.rf fun σ hc => ?_, MS.rf fun σ hm => ?_⟩
        · simp (disch := omega) only [f_X7_walls, xnoStreet hc hs, c0, hx, hx2, c, cq, bd2_some, l_0, l_1, l_60, n_eq, Nat.reduceEqDiff, ↓reduceIte]
        · simp (disch := omega) only [f_X8_walls, e1 σ hm, hy, c, cq, misWhat, bd2_some, l_0, n_eq, Nat.reduceEqDiff, ↓reduceIte]
    · refine ⟨-1000001, s, hs, XS.rf fun σ hc => ?_, MS.rf fun σ hm => ?_⟩
      · simp (disch := omega) only [f_X7_walls, xnoStreet hc hs, c0, hx, c, bd2_some, l_0, l_1, l_60, n_eq, Nat.reduceEqDiff, ↓reduceIte]
      · simp (disch := omega) only [f_X8_walls, e1 σ hm, hy, c, bd2_some, l_0, n_eq, Nat.reduceEqDiff, ↓reduceIte]
noncomputable def sstep (g : Nat → Nat) (n k : Nat) (q : Int32 × Int32) : Int32 × Int32 := if 0 < g (21 + k) then (if nI (popc (standG (itG n (sp g k 99)))) ≤ q.2 then q else (nI k, nI (popc (standG (itG n (sp g k 99)))))) else q
noncomputable def sfold (g : Nat → Nat) (n : Nat) : Nat → Int32 × Int32
  | 0 => (-1000000, -1000000)
  | k + 1 => sstep g n k (sfold g n k)
theorem xsteady_11 {s : Sys} {n what : Nat} (hs : SysOk s) (hn : n ≤ 60) (hw : what ≤ 1) : ∀ m j σ, CI σ s → j ≤ s.g 0 → s.g 0 - j < m → ∃ τ, f_X2_bestSteadied_11 8 (nI n) (nI what) m (sfold s.g n j).1 (sfold s.g n j).2 (nI j) σ = some (if what = 0 then (sfold s.g n (s.g 0)).1 else (sfold s.g n (s.g 0)).2, τ) ∧ Fr (fun a => 111 ≤ a ∧ a ≤ 156) σ τ := by
  intro m
  induction m with
  | zero => intro j σ _ _ h; omega
  | succ m ih =>
    intro j σ hc h2 h3
    have h8 := hs.og.1.1
    by_cases c : s.g 0 ≤ j
    · have e : j = s.g 0 := by omega
      refine ⟨σ, ?_, Fr.rf⟩
      rw [← e]
      rcases (by omega : what = 0 ∨ what = 1) with rfl | rfl
      all_goals simp (disch := omega) only [f_X2_bestSteadied_11, hc.c1.1.1, l_0, n_le, n_eq, c, ↓reduceIte, Nat.reduceEqDiff]
    · have s1 := (hc.c1.2 j (by omega)).2.2
      have b9 := (hs.og.1.2.2.2.2 j (by omega)).2.2
      by_cases c3 : 0 < s.g (21 + j)
      · have c4 : ¬ s.g (21 + j) ≤ 0 := by omega
        obtain ⟨τ1, a1, a2, a3⟩ := xthen hc hs
        have a4 := RS.sp (j := j) (v := 99) a2 h8
        have hb' := hs.og.1.sp (j := j) (v := 99) (Nat.le_refl _)
        obtain ⟨τ2, b1, b2⟩ := xstandingAfter (v := n) a4 hb' (by omega)
        have hF := (a3.tr (Fr.st (S := fun a => 111 ≤ a ∧ a ≤ 156) (k := j) (x := nI 99) (a := 112 + 3) (by omega))).tr b2
        obtain ⟨υ, u1, u2⟩ := ih (j + 1) τ2 (hc.fo hF) (by omega) (by omega)
        refine ⟨υ, ?_, hF.tr u2⟩
        rw [← u1]
        rw [sfold, sstep, if_pos c3]
        simp (disch := omega) only [f_X2_bestSteadied_11, hc.c1.1.1, l_1, l_0, l_99, n_le, c, c4, n_ix, ing_ok, s1, ↓reduceIte, a1, bd_some, bd2_some, lt_eq, b1, n_add]
        split
        all_goals rfl
      · have c4 : s.g (21 + j) ≤ 0 := by omega
        obtain ⟨υ, u1, u2⟩ := ih (j + 1) σ hc (by omega) (by omega)
        refine ⟨υ, ?_, u2⟩
        rw [← u1]
        rw [sfold, sstep, if_neg c3]
        simp (disch := omega) only [f_X2_bestSteadied_11, hc.c1.1.1, l_1, l_0, n_le, c, c4, n_ix, ing_ok, s1, ↓reduceIte, lt_eq, n_add]
theorem msteady_46 {g : Nat → Nat} {n what : Nat} (hb : SB g) (hn : n ≤ 60) (hw : what ≤ 1) : ∀ m j σ, RA σ 187 g → RA σ 192 g → j ≤ g 0 → g 0 - j < m → ∃ τ, f_X8_steady_46 (nI n) (nI what) m (sfold g n j).1 (sfold g n j).2 (nI j) σ = some (if what = 0 then (sfold g n (g 0)).1 else (sfold g n (g 0)).2, τ) ∧ RA τ 187 g ∧ Fr (fun a => a = 187 ∨ a = 192 ∨ a = 193) σ τ := by
  intro m
  induction m with
  | zero => intro j σ _ _ _ h; omega
  | succ m ih =>
    intro j σ hR hA h2 h3
    have h8 := hb.1
    by_cases c : g 0 ≤ j
    · have e : j = g 0 := by omega
      refine ⟨σ, ?_, hR, Fr.rf⟩
      rw [← e]
      rcases (by omega : what = 0 ∨ what = 1) with rfl | rfl
      all_goals simp (disch := omega) only [f_X8_steady_46, n_ix, ing_ok, hR.1.1, l_0, n_le, n_eq, c, ↓reduceIte, Nat.reduceEqDiff]
    · have s1 := mstands hR hb (j := j) (by omega)
      by_cases c3 : 0 < g (21 + j)
      · rw [if_pos c3] at s1
        have a4 := RA.sp (j := j) (v := 99) hR h8
        have hb' := hb.sp (j := j) (v := 99) (Nat.le_refl _)
        have s0 := standG_lt (it_SB hb' n)
        obtain ⟨τ2, b1, b2, b3, b4⟩ := mleftBehind (v := n) a4 (hA.fr (st2_row (by omega))) hb' (by rw [sp_ne (by omega)]; omega) h8 (by omega)
        have hF := (Fr.st (S := fun a => a = 187 ∨ a = 192 ∨ a = 193) (σ := σ) (k := 21 + j) (x := nI 99) (a := 187) (by omega)).tr b4
        obtain ⟨υ, u1, u2, u3⟩ := ih (j + 1) τ2 b2 b3 (by omega) (by omega)
        refine ⟨υ, ?_, u2, hF.tr u3⟩
        rw [← u1]
        rw [sfold, sstep, if_pos c3]
        simp (disch := omega) only [f_X8_steady_46, f_X8_steady_101, n_ix, ing_ok, hR.1.1, l_1, l_0, l_21, l_99, n_le, n_eq, Nat.reduceEqDiff, c, s1, ↓reduceIte, bd2_some, lt_eq, b1, mones, n_add]
        split
        all_goals rfl
      · rw [if_neg c3] at s1
        obtain ⟨υ, u1, u2, u3⟩ := ih (j + 1) σ hR hA (by omega) (by omega)
        refine ⟨υ, ?_, u2, u3⟩
        rw [← u1]
        rw [sfold, sstep, if_neg c3]
        simp (disch := omega) only [f_X8_steady_46, n_ix, ing_ok, hR.1.1, l_1, l_0, n_le, c, s1, ↓reduceIte, bd2_some, lt_eq, n_add]
theorem both_steady (p q : Int32) : BOTH (f_X7_steady p q) (f_X8_steady p q) := by
  intro s hs
  have h8 := hs.og.1.1
  have hb := hs.og.1
  have d := Classical.propDecidable (rng p 1 60)
  have d2 := Classical.propDecidable (rng q 0 1)
  have hx : ∀ σ, f_X7_within p (nI 1) (nI 60) σ = some (if rng p 1 60 then nI 1 else nI 0, σ) := fun σ => xin_rng (by decide) (by decide)
  have hy : ∀ σ, f_X8_in p.toInt64 1 60 σ = some (if rng p 1 60 then nI 1 else nI 0, σ) := fun σ => min_rng (a := 1) (b := 60) rfl rfl (by decide)
  have hx2 : ∀ σ, f_X7_within q (nI 0) (nI 1) σ = some (if rng q 0 1 then nI 1 else nI 0, σ) := fun σ => xin_rng (by decide) (by decide)
  by_cases c0 : s.g 0 = 0
  · refine ⟨-1000002, s, hs, XS.rf fun σ hc => ?_, MS.rf fun σ hm => ?_⟩
    · simp (disch := omega) only [f_X7_steady, xnoStreet hc hs, c0, bd2_some, l_0, n_eq, ↓reduceIte, Nat.reduceEqDiff]
    · have e := hm.m1b
      rw [if_pos c0] at e
      simp (disch := omega) only [f_X8_steady, e, l_0, ↓reduceIte]
  · have e1 : ∀ σ, MI σ s → σ 183 4 = nI 1 := fun σ hm => by rw [hm.m1b, if_neg c0]
    by_cases c : rng p 1 60
    · by_cases cq : rng q 0 1
      · have c' := c
        obtain ⟨n, rfl, hn1, hn⟩ := c'
        have cq' := cq
        obtain ⟨v, rfl, -, hv⟩ := cq'
        refine ⟨if v = 0 then (sfold s.g n (s.g 0)).1 else (sfold s.g n (s.g 0)).2, s, hs, XT.xs fun σ hc => ?_, MT.ms fun σ hm => ?_⟩
        · obtain ⟨υ, u1, u2⟩ := xsteady_11 hs hn hv FU 0 σ hc (Nat.zero_le _) (by rw [FU_eq]; omega)
          refine ⟨υ, ?_, u2⟩
          have w : f_X2_bestSteadied 8 (nI n) (nI v) σ = some (if v = 0 then (sfold s.g n (s.g 0)).1 else (sfold s.g n (s.g 0)).2, υ) := by
            unfold f_X2_bestSteadied
            rw [lt_eq, lt_eq, lt_eq]
            exact u1
          simp (disch := omega) only [f_X7_steady, xnoStreet hc hs, c0, hx, hx2, c, cq, bd2_some, l_0, l_1, l_60, n_eq, ↓reduceIte, Nat.reduceEqDiff, w]
        · obtain ⟨τ1, a1, a2, a3, a4⟩ := masi hm hs
          obtain ⟨τ2, b1, b2, b3⟩ := msteady_46 hb hn hv FU 0 τ1 a2 a3 (Nat.zero_le _) (by rw [FU_eq]; omega)
          refine ⟨τ2, ?_, b2, a4.tr b3⟩
          unfold f_X8_steady
          rw [e1 σ hm, if_neg (by decide), hy, if_pos c, bd2_some, if_neg (by decide), misWhat, if_pos cq, bd2_some, if_neg (by decide), a1, bd_some, lt_eq, lt_eq, lt_eq]
          exact b1
      · refine ⟨-1000001, s, hs, XS.rf fun σ hc => ?_, MS.rf fun σ hm => ?_⟩
        · simp (disch := omega) only [f_X7_steady, xnoStreet hc hs, c0, hx, hx2, c, cq, bd2_some, l_0, l_1, l_60, n_eq, Nat.reduceEqDiff, ↓reduceIte]
        · simp (disch := omega) only [f_X8_steady, e1 σ hm, hy, c, cq, misWhat, bd2_some, l_0, n_eq, Nat.reduceEqDiff, ↓reduceIte]
    · refine ⟨-1000001, s, hs, XS.rf fun σ hc => ?_, MS.rf fun σ hm => ?_⟩
      · simp (disch := omega) only [f_X7_steady, xnoStreet hc hs, c0, hx, c, bd2_some, l_0, l_1, l_60, n_eq, Nat.reduceEqDiff, ↓reduceIte]
      · simp (disch := omega) only [f_X8_steady, e1 σ hm, hy, c, bd2_some, l_0, n_eq, Nat.reduceEqDiff, ↓reduceIte]
