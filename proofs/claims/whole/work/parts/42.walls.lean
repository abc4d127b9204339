/-! PURE, 17: the walls touched; images -/
def wl (g : Nat → Nat) (x : Nat) : Nat → Nat := fun k => if k = 4 then x else g k
theorem wl_4 {g : Nat → Nat} {x : Nat} : wl g x 4 = x := if_pos rfl
theorem wl_ne {g : Nat → Nat} {x k : Nat} (h : k ≠ 4) : wl g x k = g k := if_neg h
theorem SG.wl {g : Nat → Nat} {x : Nat} (h : SG g) (hx : x < 128) : SG (wl g x) := by
  obtain ⟨⟨h0, h1, h2, h3, h4⟩, h5⟩ := h
  refine ⟨⟨by rw [wl_ne (by omega)]; exact h0, by rw [wl_ne (by omega)]; exact h1, by rw [wl_ne (by omega)]; exact h2, by rw [wl_4]; exact hx, fun k hk => ?_⟩, by rw [wl_ne (by omega)]; exact h5⟩
  rw [wl_ne (by omega)] at hk
  rw [wl_ne (by omega), wl_ne (by omega), wl_ne (by omega)]
  exact h4 k hk
theorem RS.wl {σ : Mem} {b x : Nat} {g : Nat → Nat} (h : RS σ b g) : RS (st2 σ b 7 (nI x)) b (wl g x) := by
  obtain ⟨⟨h0, h1, h2, h3, h4⟩, h5⟩ := h
  refine ⟨⟨?_, ?_, ?_, ?_, ?_⟩, fun k hk => ?_⟩
  · rw [st2_k (by omega), wl_ne (by omega)]; exact h0
  · rw [st2_k (by omega), wl_ne (by omega)]; exact h1
  · rw [st2_k (by omega), wl_ne (by omega)]; exact h2
  · rw [st2_k (by omega), wl_ne (by omega)]; exact h3
  · rw [st2_at, wl_4]
  · rw [wl_ne (by omega)] at hk
    rw [st2_a (by omega), st2_a (by omega), st2_a (by omega), wl_ne (by omega), wl_ne (by omega), wl_ne (by omega)]
    exact h5 k hk
theorem RA.wl {σ : Mem} {a x : Nat} {g : Nat → Nat} (h : RA σ a g) : RA (st2 σ a 4 (nI x)) a (wl g x) := by
  obtain ⟨⟨h0, h1, h2, h3, h4⟩, h5⟩ := h
  refine ⟨⟨?_, ?_, ?_, ?_, ?_⟩, fun k hk => ?_⟩
  · rw [st2_k (by omega), wl_ne (by omega)]; exact h0
  · rw [st2_k (by omega), wl_ne (by omega)]; exact h1
  · rw [st2_k (by omega), wl_ne (by omega)]; exact h2
  · rw [st2_k (by omega), wl_ne (by omega)]; exact h3
  · rw [st2_at, wl_4]
  · rw [wl_ne (by omega)] at hk
    rw [st2_k (by omega), st2_k (by omega), st2_k (by omega), wl_ne (by omega), wl_ne (by omega), wl_ne (by omega)]
    exact h5 k hk
theorem xor_key : ∀ a, a < 128 → ∀ j, j < 7 → nI a ^^^ (nI 1 <<< (nI j &&& nI 31)) = nI (a ^^^ 2 ^ j) ∧ a ^^^ 2 ^ j < 128 := by decide +kernel
theorem pred2_int {n : Nat} (hn : n ≤ 8) : (nI n - 2).toInt = (n : Int) - 2 := by
  rw [l_2, pk_sub_toInt (by omega) (by omega)]
  rfl
theorem wall_int {p : Int32} {n : Nat} (hn : n ≤ 8) : hous p (n - 1) ↔ 0 ≤ p.toInt ∧ p.toInt ≤ (n : Int) - 2 := by
  rw [hous_int (by omega)]
  by_cases c : n = 0
  · subst c
    constructor
    · intro h; omega
    · intro h; omega
  · constructor
    · intro h; omega
    · intro h; omega
theorem both_touch (p q : Int32) : BOTH (f_X7_touch p q) (f_X8_touch p q) := by
  intro s hs
  have h8 := hs.og.1.1
  have hb := hs.og.1
  have h128 := hb.2.2.2.1
  have d := Classical.propDecidable (rng q 0 1)
  have dw := Classical.propDecidable (hous p (s.g 0 - 1))
  have hx : ∀ σ, f_X7_within q (nI 0) (nI 1) σ = some (if rng q 0 1 then nI 1 else nI 0, σ) := fun σ => xin_rng (by decide) (by decide)
  have hy : ∀ σ, f_X8_in q.toInt64 0 1 σ = some (if rng q 0 1 then nI 1 else nI 0, σ) := fun σ => min_rng (a := 0) (b := 1) rfl rfl (by decide)
  have hxw : ∀ σ, f_X7_within p (nI 0) (nI (s.g 0) - nI 2) σ = some (if hous p (s.g 0 - 1) then nI 1 else nI 0, σ) := fun σ => by
    rw [xwithin, ← l_2, pred2_int h8, ← l_0, show (0 : Int32).toInt = 0 from rfl]
    by_cases c : hous p (s.g 0 - 1)
    · rw [if_pos c, if_pos ((wall_int h8).mp c)]
    · rw [if_neg c, if_neg (fun w => c ((wall_int h8).mpr w))]
  have hyw : ∀ σ, f_X8_in p.toInt64 0 (nI (s.g 0) - nI 2).toInt64 σ = some (if hous p (s.g 0 - 1) then nI 1 else nI 0, σ) := fun σ => by
    rw [min_, w_int, w_int, ← l_2, pred2_int h8, show (0 : Int64).toInt = 0 from rfl]
    by_cases c : hous p (s.g 0 - 1)
    · rw [if_pos c, if_pos ((wall_int h8).mp c)]
    · rw [if_neg c, if_neg (fun w => c ((wall_int h8).mpr w))]
  by_cases c0 : hous p (s.g 0 - 1)
  · have c0' := c0
    obtain ⟨j, rfl, hj⟩ := c0'
    by_cases c : rng q 0 1
    · have c' := c
      obtain ⟨v, rfl, -, hv⟩ := c'
      have hm2 : s.g 4 / 2 ^ j % 2 < 2 := Nat.mod_lt _ (by decide)
      obtain ⟨x1, x2⟩ := xor_key (s.g 4) h128 j (by omega)
      by_cases c1 : s.g 4 / 2 ^ j % 2 = v
      · refine ⟨-1000002, s, hs, XS.rf fun σ hc => ?_, MS.rf fun σ hm => ?_⟩
        · simp (disch := omega) only [f_X7_touch, hc.c1.1.1, hc.c1.1.2.2.2.2, l_0, l_1, l_2, l_31, hxw, hx, c0, c, bd2_some, n_eq, ↓reduceIte, Nat.reduceEqDiff, n_bit, c1]
        · rcases (by omega : v = 0 ∨ v = 1) with rfl | rfl
          · simp (disch := omega) only [f_X8_touch, f_X8_touch_51, hm.m1.1.1, hm.m1.1.2.2.2.2, l_0, l_1, l_2, l_4, n_ix, ing_ok, hyw, hy, c0, c, bd2_some, n_eq, ↓reduceIte, Nat.reduceEqDiff, mhas, c1]
          · simp (disch := omega) only [f_X8_touch, f_X8_touch_51, hm.m1.1.1, hm.m1.1.2.2.2.2, l_0, l_1, l_2, l_4, n_ix, ing_ok, hyw, hy, c0, c, bd2_some, n_eq, ↓reduceIte, Nat.reduceEqDiff, mhas, c1]
      · have ok := hs.note (by omega)
        refine ⟨nI (s.g 4 ^^^ 2 ^ j), s.note.w_g (wl s.g (s.g 4 ^^^ 2 ^ j)), ok.street (hs.og.wl x2) (by rw [wl_ne (by omega)]; omega), fun σ hc => ?_, fun σ hm => ?_⟩
        · obtain ⟨τ1, a1, a2, a3⟩ := hc.keep hs
          have e1 : τ1 8 7 = nI (s.g 4) := a2.c1.1.2.2.2.2
          obtain ⟨w1, w2⟩ := a2.street (RS.wl (x := s.g 4 ^^^ 2 ^ j) a2.c1) ((Fr.st (S := fun a => 8 ≤ a ∧ a ≤ 11) (by omega)))
          refine ⟨_, ?_, w1, a3.tr w2⟩
          simp (disch := omega) only [f_X7_touch, hc.c1.1.1, hc.c1.1.2.2.2.2, l_0, l_1, l_2, l_31, hxw, hx, c0, c, bd2_some, n_eq, ↓reduceIte, Nat.reduceEqDiff, n_bit, c1, a1, bd_some, lt_eq, e1, x1, st2_at]
        · obtain ⟨τ1, a1, a2, a3⟩ := hm.note hs
          have e1 : τ1 187 4 = nI (s.g 4) := a2.m1.1.2.2.2.2
          obtain ⟨w1, w2⟩ := a2.street (RA.wl (x := s.g 4 ^^^ 2 ^ j) a2.m1) (by rw [wl_ne (by omega)]) ((Fr.st (S := fun a => a = 187) rfl))
          refine ⟨_, ?_, w1, a3.tr w2⟩
          have c1' : ¬ s.g 4 / 2 ^ j % 2 = v := c1
          rcases (by omega : v = 0 ∨ v = 1) with rfl | rfl
          · simp (disch := omega) only [f_X8_touch, f_X8_touch_51, hm.m1.1.1, hm.m1.1.2.2.2.2, l_0, l_1, l_2, l_4, l_31, n_ix, ing_ok, hyw, hy, c0, c, bd2_some, n_eq, ↓reduceIte, Nat.reduceEqDiff, mhas, c1, a1, bd_some, lt_eq, e1, x1, st2_at]
          · simp (disch := omega) only [f_X8_touch, f_X8_touch_51, hm.m1.1.1, hm.m1.1.2.2.2.2, l_0, l_1, l_2, l_4, l_31, n_ix, ing_ok, hyw, hy, c0, c, bd2_some, n_eq, ↓reduceIte, Nat.reduceEqDiff, mhas, c1, a1, bd_some, lt_eq, e1, x1, st2_at]
    · refine ⟨-1000001, s, hs, XS.rf fun σ hc => ?_, MS.rf fun σ hm => ?_⟩
      · simp (disch := omega) only [f_X7_touch, hc.c1.1.1, l_0, l_1, l_2, hxw, hx, c0, c, bd2_some, n_eq, ↓reduceIte, Nat.reduceEqDiff]
      · simp (disch := omega) only [f_X8_touch, hm.m1.1.1, l_0, l_1, l_2, n_ix, ing_ok, hyw, hy, c0, c, bd2_some, n_eq, ↓reduceIte, Nat.reduceEqDiff]
  · refine ⟨-1000001, s, hs, XS.rf fun σ hc => ?_, MS.rf fun σ hm => ?_⟩
    · simp (disch := omega) only [f_X7_touch, hc.c1.1.1, l_0, l_2, hxw, c0, bd2_some, ↓reduceIte]
    · simp (disch := omega) only [f_X8_touch, hm.m1.1.1, l_0, l_2, n_ix, ing_ok, hyw, c0, bd2_some, ↓reduceIte]
