/-! PURE, 35: how likely it stands -/
def crG (g : Nat → Nat) (set : Nat) : Nat → (Nat → Nat)
  | 0 => g
  | j + 1 => sp (crG g set j) j (if set / 2 ^ j % 2 = 1 then g (21 + j) / 2 else g (21 + j))
theorem crG_low {g : Nat → Nat} {set : Nat} : ∀ j k, (k < 21 ∨ 21 + j ≤ k) → crG g set j k = g k := by
  intro j
  induction j with
  | zero => intro k _; rfl
  | succ j ih =>
    intro k hk
    rw [crG, sp_ne (by omega)]
    exact ih k (by omega)
theorem crG_SB {g : Nat → Nat} {set : Nat} (hb : SB g) : ∀ j, j ≤ g 0 → SB (crG g set j) := by
  intro j
  induction j with
  | zero => intro _; exact hb
  | succ j ih =>
    intro hj
    have := (hb.2.2.2.2 j hj).2.2
    exact (ih (by omega)).sp (by split <;> omega)
def crS (g : Nat → Nat) (set i n : Nat) : Nat := if 0 < itG n (crG g set (g 0)) (21 + i) then 1 else 0
def termN (g : Nat → Nat) (i n p set : Nat) : Nat := if subN set (standG g) = 0 then (if crS g set i n = 0 then 0 else partN p set (standG g) (g 0)) else 0
def casesN (g : Nat → Nat) (i n p : Nat) : Nat → Nat
  | 0 => 0
  | k + 1 => casesN g i n p k + termN g i n p k
theorem part_le {p s c j : Nat} (hp : p ≤ 10) (h : cntB s j ≤ cntB c j) (h8 : cntB c j ≤ 8) : partN p s c j ≤ 100000000 := by
  unfold partN
  have h1 : p ^ cntB s j ≤ 10 ^ cntB s j := Nat.pow_le_pow_left hp _
  have h2 : (10 - p) ^ (cntB c j - cntB s j) ≤ 10 ^ (cntB c j - cntB s j) := Nat.pow_le_pow_left (by omega) _
  have h3 := Nat.mul_le_mul h1 h2
  rw [← Nat.pow_add, show cntB s j + (cntB c j - cntB s j) = cntB c j by omega] at h3
  have h4 : 10 ^ cntB c j ≤ 10 ^ 8 := Nat.pow_le_pow_right (by decide) h8
  omega
theorem standG_pw {g : Nat → Nat} : standG g < 2 ^ g 0 := sbits_lt g (g 0)
theorem term_le {g : Nat → Nat} {i n p set : Nat} (hb : SB g) (hp : p ≤ 10) : termN g i n p set ≤ 100000000 := by
  have h8 := hb.1
  have st := standG_lt hb
  unfold termN
  by_cases c : subN set (standG g) = 0
  · rw [if_pos c]
    split
    · omega
    · refine part_le hp (sub_cnt (by omega) c _ (by omega)) ?_
      rw [← popc_n standG_pw h8]
      exact popc_le _
  · rw [if_neg c]; omega
theorem cases_le {g : Nat → Nat} {i n p : Nat} (hb : SB g) (hp : p ≤ 10) : ∀ k, casesN g i n p k ≤ 100000000 * k := by
  intro k
  induction k with
  | zero => exact Nat.le_refl _
  | succ k ih =>
    have := term_le (i := i) (n := n) (set := k) hb hp
    rw [casesN]
    omega
theorem cases_top {g : Nat → Nat} {i n p : Nat} (hb : SB g) : ∀ k, standG g + 1 + k < 1000 → casesN g i n p (standG g + 1 + k) = casesN g i n p (standG g + 1) := by
  have st := standG_lt hb
  intro k
  induction k with
  | zero => intro _; rfl
  | succ k ih =>
    intro hk
    rw [← Nat.add_assoc, casesN, ih (by omega)]
    unfold termN
    rw [if_neg]
    · rfl
    · intro c
      have := sub_le (by omega) (by omega) c
      omega
theorem cases_all {g : Nat → Nat} {i n p : Nat} (hb : SB g) : casesN g i n p (2 ^ g 0) = casesN g i n p (standG g + 1) := by
  have h := standG_pw (g := g)
  have h2 : 2 ^ g 0 ≤ 2 ^ 8 := Nat.pow_le_pow_right (by decide) hb.1
  have := cases_top (i := i) (n := n) (p := p) hb (2 ^ g 0 - (standG g + 1)) (by omega)
  rw [show standG g + 1 + (2 ^ g 0 - (standG g + 1)) = 2 ^ g 0 by omega] at this
  exact this
def crV (g : Nat → Nat) (i n p what : Nat) : Int64 := if what = 0 then lN (casesN g i n p (standG g + 1)) / lN (Nat.gcd (10 ^ popc (standG g)) (casesN g i n p (standG g + 1))) else lN (10 ^ popc (standG g)) / lN (Nat.gcd (10 ^ popc (standG g)) (casesN g i n p (standG g + 1)))
theorem xcracked_11 {g : Nat → Nat} {i n set : Nat} (hb : SB g) (hi : i < g 0) (hn : n ≤ 30) (hset : set < 256) : ∀ m j σ, RS σ 8 g → RS σ 112 (crG g set j) → j ≤ g 0 → g 0 - j < m → ∃ τ, f_X2_standsCracked_11 8 (nI set) (nI i) (nI n) m (nI j) σ = some (nI (crS g set i n), τ) ∧ Fr (fun a => 111 ≤ a ∧ a ≤ 156) σ τ := by
  intro m
  induction m with
  | zero => intro j σ _ _ _ h; omega
  | succ m ih =>
    intro j σ hR hT h1 h2
    have h8 := hb.1
    by_cases c : g 0 ≤ j
    · have e : j = g 0 := by omega
      subst e
      obtain ⟨τ, t1, t2, t3⟩ := xthenAll hT (crG_SB hb _ (Nat.le_refl _)) (v := n) (by omega)
      have s1 := (t2.2 i (by rw [it_low (by omega) (by omega), crG_low _ 0 (by omega)]; exact hi)).2.2
      have b9 := ((it_SB (crG_SB (set := set) hb (g 0) (Nat.le_refl _)) n).2.2.2.2 i (by rw [it_low (by omega) (by omega), crG_low _ 0 (by omega)]; exact hi)).2.2
      refine ⟨τ, ?_, t3⟩
      unfold crS
      rw [f_X2_standsCracked_11, hR.1.1, if_pos ((n_le (by omega) (by omega)).mpr c), t1, bd_some, ing_ok (by omega) (by omega), n_ix (by omega), s1]
      by_cases c2 : 0 < itG n (crG g set (g 0)) (21 + i)
      · rw [if_pos c2, l_0, if_neg (by rw [n_le (by omega) (by omega)]; omega), l_1]
      · rw [if_neg c2, l_0, if_pos (by rw [n_le (by omega) (by omega)]; omega)]
    · have s1 := (hT.2 j (by rw [crG_low _ 0 (by omega)]; omega)).2.2
      rw [crG_low j (21 + j) (by omega)] at s1
      have b9 := (hb.2.2.2.2 j (by omega)).2.2
      have hm : set / 2 ^ j % 2 < 2 := Nat.mod_lt _ (by decide)
      have cn : ¬ nI (g 0) ≤ nI j := by rw [n_le (by omega) (by omega)]; exact c
      have hT2 : ∀ v, RS (st2 σ (112 + 3) j (nI v)) 112 (sp (crG g set j) j v) := fun v => hT.sp (by rw [crG_low _ 0 (by omega)]; exact h8)
      have hF : ∀ v, Fr (fun a => 111 ≤ a ∧ a ≤ 156) σ (st2 σ (112 + 3) j (nI v)) := fun v => Fr.st (S := fun a => 111 ≤ a ∧ a ≤ 156) (by omega)
      have ih' := ih (j + 1)
      rw [crG] at ih'
      by_cases c3 : set / 2 ^ j % 2 = 1
      · rw [if_pos c3] at ih'
        obtain ⟨τ, t1, t2⟩ := ih' _ (hR.fr fun a h4 h5 => hF (g (21 + j) / 2) a (by omega)) (hT2 (g (21 + j) / 2)) (by omega) (by omega)
        refine ⟨τ, ?_, (hF _).tr t2⟩
        rw [f_X2_standsCracked_11, hR.1.1, if_neg cn, ing_ok (by omega) (by omega), l_31, l_1, n_bit (by omega) (by omega), c3, if_neg (by decide), ing_ok (by omega) (by omega), n_ix (by omega), s1, l_2, n_div (by omega) (by omega) (by omega), lt_eq, lt_eq, n_add]
        exact t1
      · rw [if_neg c3] at ih'
        obtain ⟨τ, t1, t2⟩ := ih' _ (hR.fr fun a h4 h5 => hF (g (21 + j)) a (by omega)) (hT2 (g (21 + j))) (by omega) (by omega)
        refine ⟨τ, ?_, (hF _).tr t2⟩
        rw [f_X2_standsCracked_11, hR.1.1, if_neg cn, ing_ok (by omega) (by omega), l_31, l_1, n_bit (by omega) (by omega), show set / 2 ^ j % 2 = 0 by omega, if_pos (by decide), ing_ok (by omega) (by omega), n_ix (by omega), s1, n_div (by omega) (by omega) (by omega), Nat.div_one, lt_eq, lt_eq, n_add]
        exact t1
theorem xchance_12 {s : Sys} {i n p what : Nat} (hs : SysOk s) (hi : i < s.g 0) (hn : n ≤ 30) (hp : p ≤ 10) (hw : what ≤ 1) : ∀ m j σ, CI σ s → j ≤ 2 ^ s.g 0 → 2 ^ s.g 0 - j < m → ∃ τ, f_X2_chance_12 8 (nI i) (nI n) (nI p) (nI what) m (nI (standG s.g)) (lN (casesN s.g i n p j)) (nI j) σ = some (crV s.g i n p what, τ) ∧ Fr (fun a => 111 ≤ a ∧ a ≤ 156) σ τ := by
  intro m
  induction m with
  | zero => intro j σ _ _ h; omega
  | succ m ih =>
    intro j σ hc h1 h2
    have hb := hs.og.1
    have h8 := hb.1
    have st := standG_lt hb
    have hpw : 2 ^ s.g 0 ≤ 2 ^ 8 := Nat.pow_le_pow_right (by decide) h8
    have pc := popc_le (standG s.g)
    have p10 : (10 : Int32) = nI 10 := rfl
    by_cases c : 2 ^ s.g 0 ≤ j
    · have e : j = 2 ^ s.g 0 := by omega
      subst e
      have hA : 10 ^ popc (standG s.g) ≤ 10 ^ 8 := Nat.pow_le_pow_right (by decide) pc
      have hA1 : 1 ≤ 10 ^ popc (standG s.g) := Nat.one_le_pow _ _ (by decide)
      have hC := cases_le (i := i) (n := n) hb hp (2 ^ s.g 0)
      have hg : Nat.gcd (10 ^ popc (standG s.g)) (casesN s.g i n p (2 ^ s.g 0)) ≤ 10 ^ popc (standG s.g) := Nat.gcd_le_left _ (by omega)
      have hg1 : 0 < Nat.gcd (10 ^ popc (standG s.g)) (casesN s.g i n p (2 ^ s.g 0)) := Nat.gcd_pos_of_pos_left _ (by omega)
      have nz : ¬ lN (Nat.gcd (10 ^ popc (standG s.g)) (casesN s.g i n p (2 ^ s.g 0))) = 0 := by rw [L_0, L_eq (by omega) (by omega)]; omega
      refine ⟨σ, ?_, Fr.rf⟩
      rw [f_X2_chance_12, hc.c1.1.1, l_31, l_1, n_shl (by omega), if_pos ((n_le (by omega) (by omega)).mpr c), xones st, bd2_some, p10, xpower (by omega) pc, bd2_some, lt_eq, xgcd (by omega) (by omega) (by omega), bd2_some, lt_eq, gd_ok nz, gd_ok nz]
      unfold crV
      rw [← cases_all hb]
      rcases (by omega : what = 0 ∨ what = 1) with rfl | rfl
      · rw [if_pos l_0.symm, if_pos rfl]
      · rw [if_neg (by decide), if_neg (by decide)]
    · have cn : ¬ nI (2 ^ s.g 0) ≤ nI j := by rw [n_le (by omega) (by omega)]; exact c
      have head : f_X2_chance_12 8 (nI i) (nI n) (nI p) (nI what) (m + 1) (nI (standG s.g)) (lN (casesN s.g i n p j)) (nI j) σ = if nI (subN j (standG s.g)) = 0 then (bd2 (f_X2_standsCracked 8 (nI j) (nI i) (nI n) σ) fun x1 s2 => if x1 = 0 then (lt (nI j + (1 : Int32)) fun x14 => f_X2_chance_12 8 (nI i) (nI n) (nI p) (nI what) m (nI (standG s.g)) (lN (casesN s.g i n p j)) x14 s2) else bd2 (f_J6_bitCount_0f7a4 (nI j) s2) fun x3 s4 => lt (x3) fun x5 => bd2 (f_X2_power (nI p) x5 s4) fun x6 s7 => bd2 (f_J6_bitCount_0f7a4 (nI (standG s.g)) s7) fun x8 s9 => bd2 (f_X2_power ((10 : Int32) - nI p) (x8 - x5) s9) fun x10 s11 => lt (lN (casesN s.g i n p j) + (x6 * x10)) fun x12 => lt (nI j + (1 : Int32)) fun x13 => f_X2_chance_12 8 (nI i) (nI n) (nI p) (nI what) m (nI (standG s.g)) x12 x13 s11) else lt (nI j + (1 : Int32)) fun x15 => f_X2_chance_12 8 (nI i) (nI n) (nI p) (nI what) m (nI (standG s.g)) (lN (casesN s.g i n p j)) x15 σ := by
        rw [f_X2_chance_12, hc.c1.1.1, n_subN (by omega) (by omega), l_31, l_1, n_shl (by omega), if_neg cn]
      have sl := subN_le j (standG s.g)
      have ih' := ih (j + 1)
      rw [casesN, termN] at ih'
      rw [head]
      by_cases c2 : subN j (standG s.g) = 0
      · rw [if_pos c2] at ih'
        rw [if_pos (by rw [l_0, n_eq (by omega) (by omega)]; exact c2)]
        obtain ⟨τ1, a1, a2, a3⟩ := xthen hc hs
        obtain ⟨τ2, b1, b2⟩ := xcracked_11 (set := j) hb hi hn (by omega) FU 0 τ1 (hc.fo a3).c1 a2 (Nat.zero_le _) (by rw [FU_eq]; omega)
        have w : f_X2_standsCracked 8 (nI j) (nI i) (nI n) σ = some (nI (crS s.g j i n), τ2) := by
          unfold f_X2_standsCracked
          rw [a1, bd_some, lt_eq]
          exact b1
        have hF := a3.tr b2
        have pj : popc j = cntB j (s.g 0) := popc_n (by omega) h8
        have ps : popc (standG s.g) = cntB (standG s.g) (s.g 0) := popc_n standG_pw h8
        have pjs := sub_cnt (by omega) c2 (s.g 0) (by omega)
        have h01 : crS s.g j i n = 0 ∨ crS s.g j i n = 1 := by
          unfold crS
          split
          · exact Or.inr rfl
          · exact Or.inl rfl
        rcases h01 with h0 | h0
        · rw [h0] at w
          rw [if_pos h0, Nat.add_zero] at ih'
          obtain ⟨τ, t1, t2⟩ := ih' τ2 (hc.fo hF) (by omega) (by omega)
          refine ⟨τ, ?_, hF.tr t2⟩
          rw [w, bd2_some, if_pos l_0.symm, lt_eq, l_1, n_add]
          exact t1
        · rw [h0] at w
          rw [if_neg (by omega)] at ih'
          obtain ⟨τ, t1, t2⟩ := ih' τ2 (hc.fo hF) (by omega) (by omega)
          refine ⟨τ, ?_, hF.tr t2⟩
          rw [w, bd2_some, if_neg (by decide), xones (by omega), bd2_some, lt_eq, xpower hp (by omega), bd2_some, xones st, bd2_some, n_sub (by omega), p10, n_sub hp, xpower (by omega) (by omega), bd2_some, lN_mul, lN_add, lt_eq, lt_eq, l_1, n_add, pj, ps]
          exact t1
      · rw [if_neg c2, Nat.add_zero] at ih'
        rw [if_neg (by rw [l_0, n_eq (by omega) (by omega)]; exact c2)]
        obtain ⟨τ, t1, t2⟩ := ih' σ hc (by omega) (by omega)
        refine ⟨τ, ?_, t2⟩
        rw [lt_eq, l_1, n_add]
        exact t1
/-- the reference -/
theorem st_has {g : Nat → Nat} {i : Nat} (hi : i < g 0) : standG g / 2 ^ i % 2 = if 0 < g (21 + i) then 1 else 0 := by
  have h := sbits_tb g i (g 0)
  rw [tb_div] at h
  have hm : standG g / 2 ^ i % 2 < 2 := Nat.mod_lt _ (by decide)
  by_cases c : 0 < g (21 + i)
  · rw [if_pos c]
    rw [decide_eq_decide] at h
    exact h.mpr ⟨hi, c⟩
  · rw [if_neg c]
    rw [decide_eq_decide] at h
    have : ¬ standG g / 2 ^ i % 2 = 1 := fun w => c (h.mp w).2
    omega
theorem mcrack_112 {g : Nat → Nat} {i n p set : Nat} {p4 : Int32} {K : Int32 → Int64 → Int64 → Int32 → Mem → Option (Int64 × Mem)} {m6 m8 : Int64} (hb : SB g) (hi : i < g 0) (hn : n ≤ 30) (hp : p ≤ 10) (hset : set < 256) (hsub : subN set (standG g) = 0) : ∀ m j σ, RA σ 187 (crG g set j) → RA σ 192 g → j ≤ g 0 → g 0 - j < m → ∃ τ, f_X8_crack_112 (nI i) (nI n) (nI p) p4 K m (nI (standG g)) m6 m8 (nI set) (lN (partN p set (standG g) j)) (nI j) σ = K (nI (standG g)) (m6 + lN (if crS g set i n = 0 then 0 else partN p set (standG g) (g 0))) m8 (nI (set + 1)) τ ∧ RA τ 187 g ∧ RA τ 192 g ∧ Fr (fun a => a = 187 ∨ a = 192 ∨ a = 193) σ τ := by
  intro m
  induction m with
  | zero => intro j σ _ _ _ h; omega
  | succ m ih =>
    intro j σ hR hA h1 h2
    have h8 := hb.1
    have st := standG_lt hb
    have e0 : σ 187 0 = nI (g 0) := by rw [hR.1.1, crG_low _ 0 (by omega)]
    by_cases c : g 0 ≤ j
    · have e : j = g 0 := by omega
      subst e
      have hS := crG_SB (set := set) hb (g 0) (Nat.le_refl _)
      obtain ⟨τ, t1, t2, t3, t4⟩ := mleftBehind (v := n) hR hA hS (by rw [crG_low _ 0 (by omega)]; omega) h8 (by omega)
      have s2 := standG_lt (it_SB hS n)
      have hh : standG (itG n (crG g set (g 0))) / 2 ^ i % 2 = crS g set i n := st_has (by rw [it_low (by omega) (by omega), crG_low _ 0 (by omega)]; exact hi)
      refine ⟨τ, ?_, t2, t3, t4⟩
      rw [f_X8_crack_112, l_0, ing_ok (by omega) (by omega), n_ix (by omega), e0, if_pos ((n_le (by omega) (by omega)).mpr c), t1, bd2_some, mhas (by omega) (by omega), bd2_some, hh]
      by_cases z : crS g set i n = 0
      · rw [z, if_pos rfl, if_pos rfl, lt_eq, lt_eq, l_1, n_add, L_0]
      · have : crS g set i n = 1 := by
          unfold crS at z ⊢
          split
          · rfl
          · rename_i w; rw [if_neg w] at z; omega
        rw [this, if_neg (by decide), if_neg (by decide), lt_eq, lt_eq, l_1, n_add]
    · have cn : ¬ nI (g 0) ≤ nI j := by rw [n_le (by omega) (by omega)]; exact c
      have s1 := (hR.2 j (by rw [crG_low _ 0 (by omega)]; omega)).2.2
      rw [crG_low j (21 + j) (by omega)] at s1
      have b9 := (hb.2.2.2.2 j (by omega)).2.2
      have hm1 : set / 2 ^ j % 2 < 2 := Nat.mod_lt _ (by decide)
      have hm2 : standG g / 2 ^ j % 2 < 2 := Nat.mod_lt _ (by decide)
      have hT2 : ∀ v, RA (st2 σ 187 (21 + j) (nI v)) 187 (sp (crG g set j) j v) := fun v => hR.sp (by rw [crG_low _ 0 (by omega)]; exact h8)
      have hA2 : ∀ v, RA (st2 σ 187 (21 + j) (nI v)) 192 g := fun v => hA.fr (st2_row (by omega))
      have hF : ∀ v, Fr (fun a => a = 187 ∨ a = 192 ∨ a = 193) σ (st2 σ 187 (21 + j) (nI v)) := fun v => Fr.st (S := fun a => a = 187 ∨ a = 192 ∨ a = 193) (by omega)
      have sb := sub_bit (by omega) hsub (k := j) (by omega)
      have sc := sub_cnt (by omega) hsub j (by omega)
      have head : ∀ f : Int64, f_X8_crack_159 (nI i) (nI n) (nI p) p4 K (f_X8_crack_112 (nI i) (nI n) (nI p) p4 K m) (nI (standG g)) m6 m8 (nI set) (nI j) f (lN (partN p set (standG g) j)) σ = f_X8_crack_112 (nI i) (nI n) (nI p) p4 K m (nI (standG g)) m6 m8 (nI set) (lN (partN p set (standG g) j) * f) (nI (j + 1)) (st2 σ 187 (21 + j) (nI (if set / 2 ^ j % 2 = 1 then g (21 + j) / 2 else g (21 + j)))) := fun f => by
        rw [f_X8_crack_159, lt_eq, mhas (by omega) (by omega), bd2_some, l_21, n_add, l_1, n_add]
        by_cases c3 : set / 2 ^ j % 2 = 1
        · rw [c3, if_neg (by decide), if_pos rfl, ing_ok (by omega) (by omega), ing_ok (by omega) (by omega), n_ix (by omega), s1, l_2, n_div (by omega) (by omega) (by omega), lt_eq, lt_eq]
        · rw [show set / 2 ^ j % 2 = 0 by omega, if_pos l_0.symm, if_neg (by decide), ing_ok (by omega) (by omega), ing_ok (by omega) (by omega), n_ix (by omega), s1, lt_eq, lt_eq]
      obtain ⟨τ, t1, t2, t3, t4⟩ := ih (j + 1) _ (hT2 (if set / 2 ^ j % 2 = 1 then g (21 + j) / 2 else g (21 + j))) (hA2 _) (by omega) (by omega)
      refine ⟨τ, ?_, t2, t3, (hF _).tr t4⟩
      rw [← t1, f_X8_crack_112, l_0, ing_ok (by omega) (by omega), n_ix (by omega), e0, if_neg cn, mhas (by omega) (by omega), bd2_some]
      by_cases c2 : standG g / 2 ^ j % 2 = 0
      · rw [c2, if_pos rfl, head, part_n c2 (by omega), L_1, lN_mul, Nat.mul_one]
      · have c2' : standG g / 2 ^ j % 2 = 1 := by omega
        rw [c2', if_neg (by decide), mhas (by omega) (by omega), bd2_some]
        by_cases c3 : set / 2 ^ j % 2 = 1
        · have hd := head (nI p).toInt64
          rw [L_w (by omega), lN_mul] at hd
          rw [L_w (by omega), part_y c2' c3, ← hd, c3, if_neg (by decide)]
        · have c3' : set / 2 ^ j % 2 = 0 := by omega
          have hd := head (lN (10 - p))
          rw [lN_mul] at hd
          have l10 : (10 : Int32) = nI 10 := rfl
          rw [part_q c2' c3' sc, ← hd, c3', if_pos rfl, l10, n_sub hp, L_w (by omega)]
theorem mcrack_89 {g : Nat → Nat} {i n p what : Nat} (hb : SB g) (hi : i < g 0) (hn : n ≤ 30) (hp : p ≤ 10) (hw : what ≤ 1) : ∀ m j σ, RA σ 187 g → RA σ 192 g → j ≤ standG g + 1 → standG g + 1 - j < m → ∃ τ, f_X8_crack_89 (nI i) (nI n) (nI p) (nI what) m (nI (standG g)) (lN (casesN g i n p j)) (lN (10 ^ popc (standG g))) (nI j) σ = some (crV g i n p what, τ) ∧ RA τ 187 g ∧ Fr (fun a => a = 187 ∨ a = 192 ∨ a = 193) σ τ := by
  intro m
  induction m with
  | zero => intro j σ _ _ _ h; omega
  | succ m ih =>
    intro j σ hR hA h1 h2
    have h8 := hb.1
    have st := standG_lt hb
    have pc := popc_le (standG g)
    by_cases c : standG g < j
    · have e : j = standG g + 1 := by omega
      subst e
      have hA : 10 ^ popc (standG g) ≤ 10 ^ 8 := Nat.pow_le_pow_right (by decide) pc
      have hA1 : 1 ≤ 10 ^ popc (standG g) := Nat.one_le_pow _ _ (by decide)
      have hC := cases_le (i := i) (n := n) hb hp (standG g + 1)
      refine ⟨σ, ?_, hR, Fr.rf⟩
      rw [f_X8_crack_89, if_pos ((n_lt (by omega) (by omega)).mpr c), lt_eq, lt_eq, mgcd_250 27 _ _ FU (by omega) (Or.inr hA1) (by omega) (by omega) (by rw [FU_eq]; omega), Nat.gcd_comm]
      unfold finC crV
      rcases (by omega : what = 0 ∨ what = 1) with rfl | rfl
      · rw [if_pos l_0.symm, if_pos rfl]
      · rw [if_neg (by decide), if_neg (by decide)]
    · have cn : ¬ nI (standG g) < nI j := by rw [n_lt (by omega) (by omega)]; exact c
      have sl := subN_le j (standG g)
      have ih' := ih (j + 1)
      rw [casesN, termN] at ih'
      rw [f_X8_crack_89, if_neg cn, n_subN (by omega) (by omega)]
      by_cases c2 : subN j (standG g) = 0
      · rw [if_pos c2] at ih'
        rw [if_pos (by rw [l_0, n_eq (by omega) (by omega)]; exact c2), lt_eq, lt_eq]
        obtain ⟨τ1, a1, a2, a3, a4⟩ := mcrack_112 (p4 := nI what) (K := f_X8_crack_89 (nI i) (nI n) (nI p) (nI what) m) (m6 := lN (casesN g i n p j)) (m8 := lN (10 ^ popc (standG g))) hb hi hn hp (by omega) c2 FU 0 σ hR hA (Nat.zero_le _) (by rw [FU_eq]; omega)
        obtain ⟨τ, t1, t2, t3⟩ := ih' τ1 a2 a3 (by omega) (by omega)
        refine ⟨τ, ?_, t2, a4.tr t3⟩
        have e1 : partN p j (standG g) 0 = 1 := rfl
        rw [e1, lN_add] at a1
        rw [L_1, l_0, a1]
        exact t1
      · rw [if_neg c2, Nat.add_zero] at ih'
        rw [if_neg (by rw [l_0, n_eq (by omega) (by omega)]; exact c2), lt_eq, l_1, n_add]
        exact ih' σ hR hA (by omega) (by omega)
theorem mcrack_67 {p1 p2 p3 p4 m5 : Int32} {m6 : Int64} {v : Nat} {σ : Mem} (hv : v ≤ 8) : ∀ m k, k ≤ v → k < m → f_X8_crack_67 p1 p2 p3 p4 m m5 m6 (lN (10 ^ (v - k))) (nI k) σ = f_X8_crack_89 p1 p2 p3 p4 FU m5 m6 (lN (10 ^ v)) 0 σ := by
  intro m
  induction m with
  | zero => intro k _ h; omega
  | succ m ih =>
    intro k h1 h2
    by_cases c : k = 0
    · subst c
      rw [f_X8_crack_67, l_0, if_pos (by decide), lt_eq]
      rfl
    · have cm : nI k + (-1) = nI (k - 1) := by
        have e : ∀ k, k < 9 → k ≠ 0 → nI k + (-1 : Int32) = nI (k - 1) := by decide +kernel
        exact e k (by omega) c
      rw [f_X8_crack_67, l_0, if_neg (by rw [n_le (by omega) (by omega)]; omega), lt_eq, lt_eq, cm, L_10, lN_mul, ← Nat.pow_succ, show (v - k).succ = v - (k - 1) by omega]
      have w := ih (k - 1) (by omega) (by omega)
      rw [l_0] at w
      exact w
def XSL (F : Mem → Option (Int64 × Mem)) (v : Int64) (s s' : Sys) : Prop := ∀ σ, CI σ s → ∃ τ, F σ = some (v, τ) ∧ CI τ s' ∧ Fr (fun a => a < 183) σ τ
def MSL (G : Mem → Option (Int64 × Mem)) (v : Int64) (s s' : Sys) : Prop := ∀ σ, MI σ s → ∃ τ, G σ = some (v, τ) ∧ MI τ s' ∧ Fr (fun a => 183 ≤ a) σ τ
def BOTHL (F G : Mem → Option (Int64 × Mem)) : Prop := ∀ s, SysOk s → ∃ v s', SysOk s' ∧ XSL F v s s' ∧ MSL G v s s'
theorem BOTHL.go {F G : Mem → Option (Int64 × Mem)} (h : BOTHL F G) {σ : Mem} {s : Sys} (hs : SysOk s) (hc : CI σ s) (hm : MI σ s) : ∃ v τ υ s', F σ = some (v, τ) ∧ G τ = some (v, υ) ∧ SysOk s' ∧ CI υ s' ∧ MI υ s' := by
  obtain ⟨v, s', h1, h2, h3⟩ := h s hs
  obtain ⟨τ, a1, a2, a3⟩ := h2 σ hc
  obtain ⟨υ, b1, b2, b3⟩ := h3 τ (hm.fr (a3.le fun a ha => Or.inl ha))
  exact ⟨v, τ, υ, s', a1, b1, h1, a2.fr (b3.le fun a ha => Or.inr ha), b2⟩
theorem XSL.rf {F : Mem → Option (Int64 × Mem)} {v : Int64} {s : Sys} (h : ∀ σ, CI σ s → F σ = some (v, σ)) : XSL F v s s := fun σ hc => ⟨σ, h σ hc, hc, Fr.rf⟩
theorem MSL.rf {F : Mem → Option (Int64 × Mem)} {v : Int64} {s : Sys} (h : ∀ σ, MI σ s → F σ = some (v, σ)) : MSL F v s s := fun σ hc => ⟨σ, h σ hc, hc, Fr.rf⟩
theorem both_crack (p q x z : Int32) : BOTHL (f_X7_crack p q x z) (f_X8_crack p q x z) := by
  intro s hs
  have h8 := hs.og.1.1
  have hb := hs.og.1
  have l10 : (10 : Int32) = nI 10 := rfl
  have d1 := Classical.propDecidable (rng q 0 30)
  have d2 := Classical.propDecidable (rng x 0 10)
  have d3 := Classical.propDecidable (rng z 0 1)
  have hx1 : ∀ σ, f_X7_within q (nI 0) (nI 30) σ = some (if rng q 0 30 then nI 1 else nI 0, σ) := fun σ => xin_rng (by decide) (by decide)
  have hy1 : ∀ σ, f_X8_in q.toInt64 0 30 σ = some (if rng q 0 30 then nI 1 else nI 0, σ) := fun σ => min_rng (a := 0) (b := 30) rfl rfl (by decide)
  have hx2 : ∀ σ, f_X7_within x (nI 0) (nI 10) σ = some (if rng x 0 10 then nI 1 else nI 0, σ) := fun σ => xin_rng (by decide) (by decide)
  have hy2 : ∀ σ, f_X8_in x.toInt64 0 10 σ = some (if rng x 0 10 then nI 1 else nI 0, σ) := fun σ => min_rng (a := 0) (b := 10) rfl rfl (by decide)
  have hx3 : ∀ σ, f_X7_within z (nI 0) (nI 1) σ = some (if rng z 0 1 then nI 1 else nI 0, σ) := fun σ => xin_rng (by decide) (by decide)
  by_cases c0 : hous p (s.g 0)
  · obtain ⟨i, rfl, hi⟩ := c0
    by_cases c1 : rng q 0 30
    · by_cases c2 : rng x 0 10
      · by_cases c3 : rng z 0 1
        · have c1' := c1
          obtain ⟨n, rfl, -, hn⟩ := c1'
          have c2' := c2
          obtain ⟨pp, rfl, -, hp⟩ := c2'
          have c3' := c3
          obtain ⟨v, rfl, -, hv⟩ := c3'
          have st := standG_lt hb
          have hpw : 2 ^ s.g 0 ≤ 2 ^ 8 := Nat.pow_le_pow_right (by decide) h8
          refine ⟨crV s.g i n pp v, s, hs, fun σ hc => ?_, fun σ hm => ?_⟩
          · obtain ⟨υ, u1, u2⟩ := xchance_12 hs hi hn hp hv FU 0 σ hc (Nat.zero_le _) (by rw [FU_eq]; omega)
            refine ⟨υ, ?_, hc.fo u2, u2.le fun a ha => by omega⟩
            rw [f_X7_crack, xhouse_y hs hi hc, bd2_some, if_neg (by decide), l_0, l_30, hx1, if_pos c1, bd2_some, if_neg (by decide), l10, hx2, if_pos c2, bd2_some, if_neg (by decide), l_1, hx3, if_pos c3, bd2_some, if_neg (by decide), f_X2_chance, xstanding hc.c1 hb, bd2_some, lt_eq, lt_eq, lt_eq, L_0]
            have e : casesN s.g i n pp 0 = 0 := rfl
            rw [e] at u1
            rw [l_0, u1, bd2_some]
          · obtain ⟨τ1, a1, a2, a3, a4⟩ := masi hm hs
            obtain ⟨τ2, b1, b2, b3⟩ := mcrack_89 hb hi hn hp hv FU 0 τ1 a2 a3 (Nat.zero_le _) (by rw [FU_eq]; omega)
            have hF := a4.tr b3
            refine ⟨τ2, ?_, hm.bk b2 hF, hF.le fun a ha => by omega⟩
            have pc := popc_le (standG s.g)
            rw [f_X8_crack, mhouse_y hs hi hm, bd2_some, if_neg (by decide), hy1, if_pos c1, bd2_some, if_neg (by decide), hy2, if_pos c2, bd2_some, if_neg (by decide), misWhat, if_pos c3, bd2_some, if_neg (by decide), a1, bd_some, mstanding a2 hb, bd2_some, lt_eq, lt_eq, lt_eq, mones st, bd2_some, lt_eq]
            have w := mcrack_67 (p1 := nI i) (p2 := nI n) (p3 := nI pp) (p4 := nI v) (m5 := nI (standG s.g)) (m6 := 0) (σ := τ1) pc FU (popc (standG s.g)) (Nat.le_refl _) (by rw [FU_eq]; omega)
            rw [Nat.sub_self] at w
            have e1 : (1 : Int64) = lN (10 ^ 0) := L_1
            rw [e1, w]
            exact b1
        · refine ⟨-1000001, s, hs, XSL.rf fun σ hc => ?_, MSL.rf fun σ hm => ?_⟩
          · rw [f_X7_crack, xhouse_y hs hi hc, bd2_some, if_neg (by decide), l_0, l_30, hx1, if_pos c1, bd2_some, if_neg (by decide), l10, hx2, if_pos c2, bd2_some, if_neg (by decide), l_1, hx3, if_neg c3, bd2_some, if_pos rfl]
          · rw [f_X8_crack, mhouse_y hs hi hm, bd2_some, if_neg (by decide), hy1, if_pos c1, bd2_some, if_neg (by decide), hy2, if_pos c2, bd2_some, if_neg (by decide), misWhat, if_neg c3, bd2_some, if_pos l_0.symm]
      · refine ⟨-1000001, s, hs, XSL.rf fun σ hc => ?_, MSL.rf fun σ hm => ?_⟩
        · rw [f_X7_crack, xhouse_y hs hi hc, bd2_some, if_neg (by decide), l_0, l_30, hx1, if_pos c1, bd2_some, if_neg (by decide), l10, hx2, if_neg c2, bd2_some, if_pos rfl]
        · rw [f_X8_crack, mhouse_y hs hi hm, bd2_some, if_neg (by decide), hy1, if_pos c1, bd2_some, if_neg (by decide), hy2, if_neg c2, bd2_some, if_pos l_0.symm]
    · refine ⟨-1000001, s, hs, XSL.rf fun σ hc => ?_, MSL.rf fun σ hm => ?_⟩
      · rw [f_X7_crack, xhouse_y hs hi hc, bd2_some, if_neg (by decide), l_0, l_30, hx1, if_neg c1, bd2_some, if_pos rfl]
      · rw [f_X8_crack, mhouse_y hs hi hm, bd2_some, if_neg (by decide), hy1, if_neg c1, bd2_some, if_pos l_0.symm]
  · refine ⟨-1000001, s, hs, XSL.rf fun σ hc => ?_, MSL.rf fun σ hm => ?_⟩
    · rw [f_X7_crack, xhouse_n hs c0 hc, bd2_some, if_pos l_0.symm]
    · rw [f_X8_crack, mhouse_n hs c0 hm, bd2_some, if_pos l_0.symm]
