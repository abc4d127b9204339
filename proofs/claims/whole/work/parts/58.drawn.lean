/-! PURE, 33: decades by draws -/
theorem L_0 : (0 : Int64) = lN 0 := by decide +kernel
theorem L_1 : (1 : Int64) = lN 1 := by decide +kernel
theorem L_2 : (2 : Int64) = lN 2 := by decide +kernel
theorem L_5 : (5 : Int64) = lN 5 := by decide +kernel
theorem L_10 : (10 : Int64) = lN 10 := by decide +kernel
theorem L_16807 : (16807 : Int64) = lN 16807 := by decide +kernel
theorem L_21 : (2147483647 : Int64) = lN 2147483647 := by decide +kernel
theorem L_rem {a b : Nat} (ha : a < 9223372036854775808) (h0 : 0 < b) (hb : b < 9223372036854775808) : lN a - lN a / lN b * lN b = lN (a % b) := pk_lRem ha h0 hb
theorem L_eq {a b : Nat} (ha : a < 9223372036854775808) (hb : b < 9223372036854775808) : lN a = lN b ↔ a = b := pk_lEQ ha hb
theorem L_w {n : Nat} (h : n < 2147483648) : (nI n).toInt64 = lN n := nI_l h
theorem lg_e {x y : Int64} : lg_cmp x y = 0 ↔ x = y := by
  unfold lg_cmp
  by_cases c : x > y
  · rw [if_pos c]
    constructor
    · intro h; exact absurd h (by decide)
    · intro h
      subst h
      have c' : x < x := c
      rw [Int64.lt_iff_toInt_lt] at c'
      omega
  · rw [if_neg c]
    by_cases e : x = y
    · rw [if_pos e]; exact ⟨fun _ => e, fun _ => rfl⟩
    · rw [if_neg e]
      constructor
      · intro h; exact absurd h (by decide)
      · intro h; exact absurd h e
def nxX (x : Nat) : Nat := x * 16807 % 2147483647
def dS (g : Nat → Nat) (x : Nat) : Nat → Nat := if 0 < g (21 + x % g 0) then (if x % 2 = 0 then raiG g (x % g 0) (g 1) else g) else if x % 5 = 0 then sp g (x % g 0) 50 else g
def dG (g : Nat → Nat) (seed : Nat) : Nat → Nat × (Nat → Nat)
  | 0 => (seed, g)
  | k + 1 => (nxX (dG g seed k).1, hourG (dS (dG g seed k).2 (nxX (dG g seed k).1)))
theorem dS_SB {g : Nat → Nat} {x : Nat} (hb : SB g) : SB (dS g x) := by
  unfold dS
  repeat' split
  · exact rai_SB hb
  · exact hb
  · exact hb.sp (by omega)
  · exact hb
theorem dS_low {g : Nat → Nat} {x k : Nat} (hk : k < 21) : dS g x k = g k := by
  unfold dS raiG
  repeat' split
  · exact sp_ne (by omega)
  · rfl
  · exact sp_ne (by omega)
  · rfl
theorem dG_ok {g : Nat → Nat} {seed : Nat} (hb : SB g) (hs : seed < 2147483648) : ∀ k, SB (dG g seed k).2 ∧ (dG g seed k).2 0 = g 0 ∧ (dG g seed k).1 < 2147483648 := by
  intro k
  induction k with
  | zero => exact ⟨hb, rfl, hs⟩
  | succ k ih =>
    obtain ⟨h1, h2, h3⟩ := ih
    refine ⟨hour_SB (dS_SB h1), ?_, ?_⟩
    · show hourG (dS _ _) 0 = g 0
      rw [hour_low (by omega) (by omega), dS_low (by omega), h2]
    · show nxX _ < _
      unfold nxX
      have := Nat.mod_lt ((dG g seed k).1 * 16807) (show 0 < 2147483647 by decide)
      omega
theorem nx_L {a : Nat} (ha : a < 2147483648) : lN a * (16807 : Int64) - lN a * (16807 : Int64) / (2147483647 : Int64) * (2147483647 : Int64) = lN (nxX a) := by
  rw [L_16807, L_21, lN_mul, L_rem (by omega) (by decide) (by decide)]
  rfl
theorem lg_2 {x : Nat} (hx : x < 2147483648) : lg_cmp (lN x - lN x / (2 : Int64) * (2 : Int64)) (0 : Int64) = 0 ↔ x % 2 = 0 := by
  rw [L_2, L_rem (by omega) (by decide) (by decide), L_0, lg_e, L_eq (by omega) (by decide)]
theorem lg_5 {x : Nat} (hx : x < 2147483648) : lg_cmp (lN x - lN x / (5 : Int64) * (5 : Int64)) (0 : Int64) = 0 ↔ x % 5 = 0 := by
  rw [L_5, L_rem (by omega) (by decide) (by decide), L_0, lg_e, L_eq (by omega) (by decide)]
theorem xdecades_15 {g : Nat → Nat} {n seed : Nat} {p3 : Int32} (hb : SB g) (h1 : 1 ≤ g 0) (hs : seed < 2147483648) (hn : n ≤ 60) : ∀ m j σ, RS σ 8 g → RS σ 112 (dG g seed j).2 → j ≤ n → n - j < m → ∃ τ, f_X2_decades_15 8 (nI n) p3 m (lN (dG g seed j).1) (nI j) σ = some τ ∧ RS τ 112 (dG g seed n).2 ∧ Fr (fun a => 111 ≤ a ∧ a ≤ 156) σ τ := by
  intro m
  induction m with
  | zero => intro j σ _ _ _ h; omega
  | succ m ih =>
    intro j σ hR hT h2 h3
    have h8 := hb.1
    obtain ⟨d1, d2, d3⟩ := dG_ok hb hs j
    by_cases c : n ≤ j
    · have e : j = n := by omega
      subst e
      refine ⟨σ, ?_, hT, Fr.rf⟩
      simp (disch := omega) only [f_X2_decades_15, n_le, c, ↓reduceIte]
    · have c0 : ¬ g 0 ≤ 0 := by omega
      have cn : ¬ nI n ≤ nI j := by rw [n_le (by omega) (by omega)]; exact c
      have c0' : ¬ nI (g 0) ≤ 0 := by rw [l_0, n_le (by omega) (by omega)]; exact c0
      have hx : nxX (dG g seed j).1 < 2147483648 := by
        have : nxX (dG g seed j).1 < 2147483647 := Nat.mod_lt _ (by decide)
        omega
      have front := nx_L d3
      have eS : (dG g seed (j + 1)) = (nxX (dG g seed j).1, hourG (dS (dG g seed j).2 (nxX (dG g seed j).1))) := rfl
      have ih' := fun σ => ih (j + 1) σ
      rw [eS] at ih'
      generalize nxX (dG g seed j).1 = x at hx front ih'
      generalize (dG g seed j).2 = f at d1 d2 hT ih'
      generalize (dG g seed j).1 = y at front
      have hh : x % g 0 < g 0 := Nat.mod_lt _ (by omega)
      have hn0 : ¬ lN (g 0) = 0 := by rw [L_0, L_eq (by omega) (by omega)]; omega
      have b9 := (d1.2.2.2.2 (x % g 0) (by omega)).2.2
      have s1 := (hT.2 (x % g 0) (by omega)).2.2
      have b1 := d1.2.1
      have head : f_X2_decades_15 8 (nI n) p3 (m + 1) (lN y) (nI j) σ = if nI (f (21 + x % g 0)) ≤ 0 then (if (lg_cmp (lN x - lN x / (5 : Int64) * (5 : Int64)) (0 : Int64)) = 0 then (f_X2_decades_117 8 (nI n) p3 (f_X2_decades_15 8 (nI n) p3 m) (lN x) (nI j) (st2 σ (112 + 3) (x % g 0) (nI 50))) else f_X2_decades_117 8 (nI n) p3 (f_X2_decades_15 8 (nI n) p3 m) (lN x) (nI j) σ) else if (lg_cmp (lN x - lN x / (2 : Int64) * (2 : Int64)) (0 : Int64)) = 0 then (bd (f_X5_raise 112 (nI (x % g 0)) (σ 112 4) σ) fun s4 => f_X2_decades_117 8 (nI n) p3 (f_X2_decades_15 8 (nI n) p3 m) (lN x) (nI j) s4) else f_X2_decades_117 8 (nI n) p3 (f_X2_decades_15 8 (nI n) p3 m) (lN x) (nI j) σ := by
        rw [f_X2_decades_15, if_neg cn, hR.1.1, if_neg c0', front, lt_eq, L_w (by omega), gd_ok hn0, L_rem (by omega) (by omega) (by omega), lN_i, lt_eq, ing_ok (by omega) (by omega), n_ix (by omega), s1, ing_ok (by omega) (by omega), lt_eq, l_50]
      have key : ∀ υ, RS υ 112 (dS f x) → Fr (fun a => 111 ≤ a ∧ a ≤ 156) σ υ → ∃ τ, f_X2_decades_117 8 (nI n) p3 (f_X2_decades_15 8 (nI n) p3 m) (lN x) (nI j) υ = some τ ∧ RS τ 112 (dG g seed n).2 ∧ Fr (fun a => 111 ≤ a ∧ a ≤ 156) σ τ := fun υ hU hF => by
        obtain ⟨τ1, a1, a2, a3⟩ := xgo1 hU (dS_SB d1)
        have hF1 := hF.tr a3
        obtain ⟨τ, t1, t2, t3⟩ := ih' τ1 (hR.fr fun a h4 h5 => hF1 a (by omega)) a2 (by omega) (by omega)
        refine ⟨τ, ?_, t2, hF1.tr t3⟩
        rw [f_X2_decades_117, a1, bd_some, lt_eq, l_1, n_add]
        exact t1
      rw [head]
      by_cases c3 : 0 < f (21 + x % g 0)
      · have c3' : ¬ nI (f (21 + x % g 0)) ≤ 0 := by rw [l_0, n_le (by omega) (by omega)]; omega
        rw [if_neg c3']
        by_cases c4 : x % 2 = 0
        · obtain ⟨r1, r2⟩ := xraise (j := x % g 0) (v := f 1) hT d1 (by omega) (by omega)
          rw [if_pos ((lg_2 hx).mpr c4), hT.1.2.1, r1, bd_some]
          exact key _ (by unfold dS; rw [d2, if_pos c3, if_pos c4]; exact r2) (Fr.st (S := fun a => 111 ≤ a ∧ a ≤ 156) (by omega))
        · rw [if_neg (fun w => c4 ((lg_2 hx).mp w))]
          exact key σ (by unfold dS; rw [d2, if_pos c3, if_neg c4]; exact hT) Fr.rf
      · have c3' : nI (f (21 + x % g 0)) ≤ 0 := by rw [l_0, n_le (by omega) (by omega)]; omega
        rw [if_pos c3']
        by_cases c4 : x % 5 = 0
        · rw [if_pos ((lg_5 hx).mpr c4)]
          exact key _ (by unfold dS; rw [d2, if_neg c3, if_pos c4]; exact hT.sp (by omega)) (Fr.st (S := fun a => 111 ≤ a ∧ a ≤ 156) (by omega))
        · rw [if_neg (fun w => c4 ((lg_5 hx).mp w))]
          exact key σ (by unfold dS; rw [d2, if_neg c3, if_neg c4]; exact hT) Fr.rf
def drV (g : Nat → Nat) (what : Nat) : Nat := if what = 0 then standG g else sumG g (g 0)
theorem mdrawn_55 {g : Nat → Nat} {n seed what : Nat} {p2 : Int32} (hb : SB g) (h1 : 1 ≤ g 0) (hs : seed < 2147483648) (hn : n ≤ 60) (hw : what ≤ 1) : ∀ m j σ, RA σ 187 (dG g seed j).2 → RA σ 192 g → j ≤ n → n - j < m → ∃ τ, f_X8_drawn_55 (nI n) p2 (nI what) m (lN (dG g seed j).1) (nI j) σ = some (nI (drV (dG g seed n).2 what), τ) ∧ RA τ 187 g ∧ Fr (fun a => a = 187 ∨ a = 192 ∨ a = 193) σ τ := by
  intro m
  induction m with
  | zero => intro j σ _ _ _ h; omega
  | succ m ih =>
    intro j σ hR hA h2 h3
    have h8 := hb.1
    obtain ⟨d1, d2, d3⟩ := dG_ok hb hs j
    by_cases c : n ≤ j
    · have e : j = n := by omega
      subst e
      obtain ⟨τ, t1, t2, t3, t4⟩ := mbac hA h8
      refine ⟨τ, ?_, t2, t4⟩
      unfold drV
      rcases (by omega : what = 0 ∨ what = 1) with rfl | rfl
      · simp (disch := omega) only [f_X8_drawn_55, f_X8_drawn_180, n_le, c, l_0, ↓reduceIte, mstanding hR d1, bd2_some, lt_eq, t1, bd_some]
      · simp (disch := omega) only [f_X8_drawn_55, f_X8_drawn_180, n_le, n_eq, Nat.reduceEqDiff, c, l_0, l_1, ↓reduceIte, mallSpin hR d1, bd2_some, lt_eq, t1, bd_some]
    · have cn : ¬ nI n ≤ nI j := by rw [n_le (by omega) (by omega)]; exact c
      have hx : nxX (dG g seed j).1 < 2147483648 := by
        have : nxX (dG g seed j).1 < 2147483647 := Nat.mod_lt _ (by decide)
        omega
      have front := nx_L d3
      have eS : (dG g seed (j + 1)) = (nxX (dG g seed j).1, hourG (dS (dG g seed j).2 (nxX (dG g seed j).1))) := rfl
      have ih' := fun σ => ih (j + 1) σ
      rw [eS] at ih'
      generalize nxX (dG g seed j).1 = x at hx front ih'
      generalize (dG g seed j).2 = f at d1 d2 hR ih'
      generalize (dG g seed j).1 = y at front
      have hh : x % g 0 < g 0 := Nat.mod_lt _ (by omega)
      have hn0 : ¬ lN (g 0) = 0 := by rw [L_0, L_eq (by omega) (by omega)]; omega
      have s0 : σ 187 0 = nI (g 0) := by rw [hR.1.1, d2]
      have b9 := (d1.2.2.2.2 (x % g 0) (by omega)).2.2
      have s1 := mstands hR d1 (j := x % g 0) (by omega)
      have b1 := d1.2.1
      have head : f_X8_drawn_55 (nI n) p2 (nI what) (m + 1) (lN y) (nI j) σ = if nI (if 0 < f (21 + x % g 0) then 1 else 0) = 0 then (f_X8_drawn_121 (nI n) p2 (nI what) (f_X8_drawn_55 (nI n) p2 (nI what) m) (lN x) (nI j) (nI (x % g 0)) σ) else if (lg_cmp (lN x - lN x / (2 : Int64) * (2 : Int64)) (0 : Int64)) = 0 then (bd (f_X8_lashBy (nI (x % g 0)) (σ 187 1) σ) fun s6 => f_X8_drawn_153 (nI n) p2 (nI what) (f_X8_drawn_55 (nI n) p2 (nI what) m) (lN x) (nI j) s6) else f_X8_drawn_121 (nI n) p2 (nI what) (f_X8_drawn_55 (nI n) p2 (nI what) m) (lN x) (nI j) (nI (x % g 0)) σ := by
        rw [f_X8_drawn_55, if_neg cn, front, lt_eq, l_0, ing_ok (by omega) (by omega), n_ix (by omega), s0, L_w (by omega), gd_ok hn0, L_rem (by omega) (by omega) (by omega), lN_i, lt_eq, s1, bd2_some, l_1, ing_ok (by omega) (by omega), n_ix (by omega)]
      have key : ∀ υ, RA υ 187 (dS f x) → RA υ 192 g → Fr (fun a => a = 187 ∨ a = 192 ∨ a = 193) σ υ → ∃ τ, f_X8_drawn_153 (nI n) p2 (nI what) (f_X8_drawn_55 (nI n) p2 (nI what) m) (lN x) (nI j) υ = some (nI (drV (dG g seed n).2 what), τ) ∧ RA τ 187 g ∧ Fr (fun a => a = 187 ∨ a = 192 ∨ a = 193) σ τ := fun υ hU hA hF => by
        obtain ⟨τ1, a1, a2, a3, a4⟩ := mgo1 hU hA (dS_SB d1) (by rw [dS_low (by omega)]; omega)
        obtain ⟨τ, t1, t2, t3⟩ := ih' τ1 a2 a3 (by omega) (by omega)
        refine ⟨τ, ?_, t2, (hF.tr a4).tr t3⟩
        rw [f_X8_drawn_153, a1, bd_some, lt_eq, l_1, n_add]
        exact t1
      rw [head]
      by_cases c3 : 0 < f (21 + x % g 0)
      · rw [if_pos c3] at s1
        rw [if_pos c3, if_neg (by decide)]
        by_cases c4 : x % 2 = 0
        · obtain ⟨r1, r2⟩ := mlashBy (j := x % g 0) (v := f 1) hR d1 (by omega) (by omega)
          rw [if_pos ((lg_2 hx).mpr c4), hR.1.2.1, r1, bd_some]
          exact key _ (by unfold dS; rw [d2, if_pos c3, if_pos c4]; exact r2) (hA.fr (st2_row (by omega))) (Fr.st (S := fun a => a = 187 ∨ a = 192 ∨ a = 193) (by omega))
        · rw [if_neg (fun w => c4 ((lg_2 hx).mp w)), f_X8_drawn_121, s1, bd2_some, if_neg (by decide)]
          exact key σ (by unfold dS; rw [d2, if_pos c3, if_neg c4]; exact hR) hA Fr.rf
      · rw [if_neg c3] at s1
        rw [if_neg c3, if_pos (by decide), f_X8_drawn_121, s1, bd2_some, if_pos (by decide)]
        by_cases c4 : x % 5 = 0
        · rw [if_pos ((lg_5 hx).mpr c4), l_21, n_add, ing_ok (by omega) (by omega), n_ix (by omega), l_50, lt_eq]
          exact key _ (by unfold dS; rw [d2, if_neg c3, if_pos c4]; exact hR.sp (by omega)) (hA.fr (st2_row (by omega))) (Fr.st (S := fun a => a = 187 ∨ a = 192 ∨ a = 193) (by omega))
        · rw [if_neg (fun w => c4 ((lg_5 hx).mp w))]
          exact key σ (by unfold dS; rw [d2, if_neg c3, if_neg c4]; exact hR) hA Fr.rf
theorem l_999999 : (999999 : Int32) = nI 999999 := by decide +kernel
theorem both_drawn (p q z : Int32) : BOTH (f_X7_drawn p q z) (f_X8_drawn p q z) := by
  intro s hs
  have h8 := hs.og.1.1
  have hb := hs.og.1
  have d := Classical.propDecidable (rng p 0 60)
  have d2 := Classical.propDecidable (rng q 1 999999)
  have d3 := Classical.propDecidable (rng z 0 1)
  have hx : ∀ σ, f_X7_within p (nI 0) (nI 60) σ = some (if rng p 0 60 then nI 1 else nI 0, σ) := fun σ => xin_rng (by decide) (by decide)
  have hy : ∀ σ, f_X8_in p.toInt64 0 60 σ = some (if rng p 0 60 then nI 1 else nI 0, σ) := fun σ => min_rng (a := 0) (b := 60) rfl rfl (by decide)
  have hx2 : ∀ σ, f_X7_within q (nI 1) 999999 σ = some (if rng q 1 999999 then nI 1 else nI 0, σ) := fun σ => by rw [l_999999]; exact xin_rng (by decide) (by decide)
  have hy2 : ∀ σ, f_X8_in q.toInt64 1 999999 σ = some (if rng q 1 999999 then nI 1 else nI 0, σ) := fun σ => min_rng (a := 1) (b := 999999) rfl rfl (by decide)
  have hx3 : ∀ σ, f_X7_within z (nI 0) (nI 1) σ = some (if rng z 0 1 then nI 1 else nI 0, σ) := fun σ => xin_rng (by decide) (by decide)
  by_cases c0 : s.g 0 = 0
  · refine ⟨-1000002, s, hs, XS.rf fun σ hc => ?_, MS.rf fun σ hm => ?_⟩
    · simp (disch := omega) only [f_X7_drawn, xnoStreet hc hs, c0, bd2_some, l_0, n_eq, ↓reduceIte, Nat.reduceEqDiff]
    · have e := hm.m1b
      rw [if_pos c0] at e
      simp (disch := omega) only [f_X8_drawn, e, l_0, ↓reduceIte]
  · have e1 : ∀ σ, MI σ s → σ 183 4 = nI 1 := fun σ hm => by rw [hm.m1b, if_neg c0]
    by_cases c : rng p 0 60
    · by_cases c2 : rng q 1 999999
      · by_cases c3 : rng z 0 1
        · have c' := c
          obtain ⟨n, rfl, -, hn⟩ := c'
          have c2' := c2
          obtain ⟨seed, rfl, -, hsd⟩ := c2'
          have c3' := c3
          obtain ⟨v, rfl, -, hv⟩ := c3'
          refine ⟨nI (drV (dG s.g seed n).2 v), s, hs, XT.xs fun σ hc => ?_, MT.ms fun σ hm => ?_⟩
          · obtain ⟨τ, t1, t2, t3⟩ := xthen hc hs
            obtain ⟨υ, u1, u2, u3⟩ := xdecades_15 (p3 := nI seed) (seed := seed) hb (by omega) (by omega) hn FU 0 τ (hc.fo t3).c1 t2 (Nat.zero_le _) (by rw [FU_eq]; omega)
            obtain ⟨q1, q2, q3⟩ := dG_ok (seed := seed) hb (by omega) n
            refine ⟨υ, ?_, t3.tr u3⟩
            have w : f_X2_decades 8 (nI n) (nI seed) σ = some υ := by
              unfold f_X2_decades
              rw [t1, bd_some, L_w (by omega), lt_eq, lt_eq]
              exact u1
            unfold drV
            rcases (by omega : v = 0 ∨ v = 1) with rfl | rfl
            · simp (disch := omega) only [f_X7_drawn, xnoStreet hc hs, c0, hx, hx2, hx3, c, c2, c3, bd2_some, bd_some, l_0, l_1, l_60, n_eq, ↓reduceIte, Nat.reduceEqDiff, w, xstanding u2 q1]
            · simp (disch := omega) only [f_X7_drawn, xnoStreet hc hs, c0, hx, hx2, hx3, c, c2, c3, bd2_some, bd_some, l_0, l_1, l_60, n_eq, ↓reduceIte, Nat.reduceEqDiff, w, xallSpin u2 q1]
          · obtain ⟨τ1, a1, a2, a3, a4⟩ := masi hm hs
            obtain ⟨τ2, b1, b2, b3⟩ := mdrawn_55 (p2 := nI seed) (seed := seed) hb (by omega) (by omega) hn hv FU 0 τ1 a2 a3 (Nat.zero_le _) (by rw [FU_eq]; omega)
            refine ⟨τ2, ?_, b2, a4.tr b3⟩
            unfold f_X8_drawn
            rw [e1 σ hm, if_neg (by decide), hy, if_pos c, bd2_some, if_neg (by decide), hy2, if_pos c2, bd2_some, if_neg (by decide), misWhat, if_pos c3, bd2_some, if_neg (by decide), a1, bd_some, L_w (by omega), lt_eq, lt_eq]
            exact b1
        · refine ⟨-1000001, s, hs, XS.rf fun σ hc => ?_, MS.rf fun σ hm => ?_⟩
          · simp (disch := omega) only [f_X7_drawn, xnoStreet hc hs, c0, hx, hx2, hx3, c, c2, c3, bd2_some, l_0, l_1, l_60, n_eq, ↓reduceIte, Nat.reduceEqDiff]
          · simp (disch := omega) only [f_X8_drawn, e1 σ hm, hy, hy2, misWhat, c, c2, c3, bd2_some, l_0, n_eq, Nat.reduceEqDiff, ↓reduceIte]
      · refine ⟨-1000001, s, hs, XS.rf fun σ hc => ?_, MS.rf fun σ hm => ?_⟩
        · simp (disch := omega) only [f_X7_drawn, xnoStreet hc hs, c0, hx, hx2, c, c2, bd2_some, l_0, l_1, l_60, n_eq, ↓reduceIte, Nat.reduceEqDiff]
        · simp (disch := omega) only [f_X8_drawn, e1 σ hm, hy, hy2, c, c2, bd2_some, l_0, n_eq, Nat.reduceEqDiff, ↓reduceIte]
    · refine ⟨-1000001, s, hs, XS.rf fun σ hc => ?_, MS.rf fun σ hm => ?_⟩
      · simp (disch := omega) only [f_X7_drawn, xnoStreet hc hs, c0, hx, c, bd2_some, l_0, l_1, l_60, n_eq, ↓reduceIte, Nat.reduceEqDiff]
      · simp (disch := omega) only [f_X8_drawn, e1 σ hm, hy, c, bd2_some, l_0, n_eq, Nat.reduceEqDiff, ↓reduceIte]
