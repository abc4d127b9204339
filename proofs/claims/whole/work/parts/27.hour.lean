/-! PURE, 3: an hour of a street, on both sides -/
/-- how many walls of a house touch -/
def touG (g : Nat → Nat) (h : Nat) : Nat := (if 0 < h then g 4 / 2 ^ (h - 1) % 2 else 0) + g 4 / 2 ^ h % 2
def lossG (g : Nat → Nat) (h : Nat) : Nat :=
  if g (21 + h) = 0 then 0
  else if g (5 + h) = 1 then g (13 + h)
  else if g (5 + h) = 2 then (if g (21 + h) < g 2 then 2 * g (13 + h) else g (13 + h))
  else if g (5 + h) = 3 then max 1 (g (13 + h) / 2)
  else if g (5 + h) = 4 then 1 + touG g h
  else if 50 ≤ g (21 + h) then 0 else 1 + touG g h
theorem touG_le (g : Nat → Nat) (h : Nat) : touG g h ≤ 2 := by
  unfold touG
  have h1 : g 4 / 2 ^ (h - 1) % 2 < 2 := Nat.mod_lt _ (by decide)
  have h2 : g 4 / 2 ^ h % 2 < 2 := Nat.mod_lt _ (by decide)
  by_cases c : 0 < h
  · rw [if_pos c]; omega
  · rw [if_neg c]; omega
theorem lossG_le {g : Nat → Nat} {h : Nat} (hb : SB g) (hh : h < g 0) : lossG g h ≤ 18 := by
  obtain ⟨-, q2, q3⟩ := hb.2.2.2.2 h hh
  have ht := touG_le g h
  unfold lossG
  repeat' split
  all_goals omega
theorem xleans {σ : Mem} {b j : Nat} {g : Nat → Nat} (h : RS σ b g) (hb : SB g) (hj : j < g 0) : f_X5_leans b (nI j) σ = some (nI (if 0 < g (21 + j) ∧ g (21 + j) < g 2 then 1 else 0), σ) := by
  have h8 := hb.1
  have h40 := hb.2.2.1
  have hs := (h.2 j hj).2.2
  have h99 := (hb.2.2.2.2 j hj).2.2
  simp (disch := omega) only [f_X5_leans, n_le, l_0, l_1, n_ix, ing_ok, hs, h.1.2.2.1]
  by_cases c1 : g (21 + j) ≤ 0
  · rw [if_pos c1, if_neg (by omega)]
  · rw [if_neg c1]
    by_cases c2 : g 2 ≤ g (21 + j)
    · rw [if_pos c2, if_neg (by omega)]
    · rw [if_neg c2, if_pos (by omega)]
theorem xwallsOf {σ : Mem} {b j : Nat} {g : Nat → Nat} (h : RS σ b g) (hb : SB g) (hj : j < g 0) : f_X5_wallsOf b (nI j) σ = some (nI (touG g j), σ) := by
  have h8 := hb.1
  have h4 := hb.2.2.2.1
  by_cases c : j = 0
  · subst c
    simp (disch := omega) only [f_X5_wallsOf, f_X5_wallsOf_18, lt_eq, n_le, l_0, l_1, l_31, h.1.2.2.2.2, n_bit, n_add]
    rw [if_pos (Nat.le_refl _)]
    unfold touG
    rw [if_neg (by decide)]
  · simp (disch := omega) only [f_X5_wallsOf, f_X5_wallsOf_18, lt_eq, n_le, l_0, l_1, l_31, h.1.2.2.2.2, n_sub, n_bit, n_add]
    rw [if_neg (by omega)]
    unfold touG
    rw [if_pos (by omega)]
theorem sw_1_1 {α : Type} {f : Nat → Option α} {g : Option α} : swi (nI 1) 1 4 f g = f 0 := swi_in (lo := 1) (by decide) (by decide) (by decide)
theorem sw_1_2 {α : Type} {f : Nat → Option α} {g : Option α} : swi (nI 2) 1 4 f g = f 1 := swi_in (lo := 1) (by decide) (by decide) (by decide)
theorem sw_1_3 {α : Type} {f : Nat → Option α} {g : Option α} : swi (nI 3) 1 4 f g = f 2 := swi_in (lo := 1) (by decide) (by decide) (by decide)
theorem sw_1_4 {α : Type} {f : Nat → Option α} {g : Option α} : swi (nI 4) 1 4 f g = f 3 := swi_in (lo := 1) (by decide) (by decide) (by decide)
theorem sw_1_5 {α : Type} {f : Nat → Option α} {g : Option α} : swi (nI 5) 1 4 f g = g := swi_out (lo := 1) (by decide) (by decide)
theorem sw_2_1 {α : Type} {f : Nat → Option α} {g : Option α} : swi (nI 1) 2 4 f g = g := swi_out (lo := 2) (by decide) (by decide)
theorem sw_2_2 {α : Type} {f : Nat → Option α} {g : Option α} : swi (nI 2) 2 4 f g = f 0 := swi_in (lo := 2) (by decide) (by decide) (by decide)
theorem sw_2_3 {α : Type} {f : Nat → Option α} {g : Option α} : swi (nI 3) 2 4 f g = f 1 := swi_in (lo := 2) (by decide) (by decide) (by decide)
theorem sw_2_4 {α : Type} {f : Nat → Option α} {g : Option α} : swi (nI 4) 2 4 f g = f 2 := swi_in (lo := 2) (by decide) (by decide) (by decide)
theorem sw_2_5 {α : Type} {f : Nat → Option α} {g : Option α} : swi (nI 5) 2 4 f g = f 3 := swi_in (lo := 2) (by decide) (by decide) (by decide)
theorem xloss {σ : Mem} {b j : Nat} {g : Nat → Nat} (h : RS σ b g) (hb : SB g) (hj : j < g 0) : f_X5_loss b (nI j) σ = some (nI (lossG g j), σ) := by
  have h8 := hb.1
  obtain ⟨hk, hr, hs⟩ := h.2 j hj
  obtain ⟨b1, b2, b3⟩ := hb.2.2.2.2 j hj
  have b1' := b1.1
  have b1'' := b1.2
  have b2' := b2.2
  by_cases c0 : g (21 + j) = 0
  · have e0 : lossG g j = 0 := by unfold lossG; rw [if_pos c0]
    rw [c0] at hs
    rw [e0]
    simp (disch := omega) only [f_X5_loss, l_0, n_ix, ing_ok, hs, ↓reduceIte]
  · have hcase : g (5 + j) = 1 ∨ g (5 + j) = 2 ∨ g (5 + j) = 3 ∨ g (5 + j) = 4 ∨ g (5 + j) = 5 := by omega
    have hl := xleans h hb hj
    have hw := xwallsOf h hb hj
    rcases hcase with e | e | e | e | e
    · rw [e] at hk
      have e0 : lossG g j = g (13 + j) := by simp [lossG, c0, e]
      rw [e0]
      simp (disch := omega) only [f_X5_loss, l_0, n_ix, ing_ok, hs, n_eq, c0, ↓reduceIte, hk, sw_2_1, hr]
    · rw [e] at hk
      by_cases c1 : g (21 + j) < g 2
      · have e0 : lossG g j = 2 * g (13 + j) := by simp [lossG, c0, e, c1]
        rw [if_pos ⟨by omega, c1⟩] at hl
        rw [e0]
        simp (disch := omega) only [f_X5_loss, l_0, l_2, n_ix, ing_ok, hs, n_eq, c0, ↓reduceIte, hk, sw_2_2, hr, hl, bd2_some, n_mul, Nat.reduceEqDiff]
      · have e0 : lossG g j = g (13 + j) := by simp [lossG, c0, e, c1]
        rw [if_neg (by omega)] at hl
        rw [e0]
        simp (disch := omega) only [f_X5_loss, l_0, l_2, n_ix, ing_ok, hs, n_eq, c0, ↓reduceIte, hk, sw_2_2, hr, hl, bd2_some, n_mul]
    · rw [e] at hk
      have e0 : lossG g j = max 1 (g (13 + j) / 2) := by simp [lossG, c0, e]
      rw [e0]
      simp (disch := omega) only [f_X5_loss, l_0, l_1, l_2, n_ix, ing_ok, hs, n_eq, c0, ↓reduceIte, hk, sw_2_3, hr, n_div, im_nI]
    · rw [e] at hk
      have e0 : lossG g j = 1 + touG g j := by simp [lossG, c0, e]
      rw [e0]
      simp (disch := omega) only [f_X5_loss, l_0, l_1, n_ix, ing_ok, hs, n_eq, c0, ↓reduceIte, hk, sw_2_4, hw, bd2_some, n_add]
    · rw [e] at hk
      by_cases c1 : g (21 + j) < 50
      · have e0 : lossG g j = 1 + touG g j := by
          have c2 : ¬ 50 ≤ g (21 + j) := by omega
          simp [lossG, c0, e, c2]
        rw [e0]
        simp (disch := omega) only [f_X5_loss, l_0, l_1, l_50, n_ix, ing_ok, hs, n_eq, n_lt, c0, c1, ↓reduceIte, hk, sw_2_5, hw, bd2_some, n_add]
      · have e0 : lossG g j = 0 := by
          have c2 : 50 ≤ g (21 + j) := by omega
          simp [lossG, c0, e, c2]
        rw [e0]
        simp (disch := omega) only [f_X5_loss, l_0, l_1, l_50, n_ix, ing_ok, hs, n_eq, n_lt, c0, c1, ↓reduceIte, hk, sw_2_5]
/-- the reference's side -/
theorem mhas {σ : Mem} {a j : Nat} (ha : a < 2147483648) (hj : j < 31) : f_X8_has (nI a) (nI j) σ = some (nI (a / 2 ^ j % 2), σ) := by
  have h2 : a / 2 ^ j % 2 < 2 := Nat.mod_lt _ (by decide)
  simp (disch := omega) only [f_X8_has, l_1, l_31, l_0, n_bit, n_eq]
  by_cases c : a / 2 ^ j % 2 = 1
  · rw [if_pos c, c]
  · rw [if_neg c, show a / 2 ^ j % 2 = 0 by omega]
theorem mleans {σ : Mem} {j : Nat} {g : Nat → Nat} (h : RA σ 187 g) (hb : SB g) (hj : j < g 0) : f_X8_leans (nI j) σ = some (nI (if 0 < g (21 + j) ∧ g (21 + j) < g 2 then 1 else 0), σ) := by
  have h8 := hb.1
  have h40 := hb.2.2.1
  have hs := (h.2 j hj).2.2
  have h99 := (hb.2.2.2.2 j hj).2.2
  simp (disch := omega) only [f_X8_leans, mstands h hb hj, bd2_some, n_le, l_0, l_1, l_2, l_21, n_ix, ing_ok, hs, h.1.2.2.1, n_add]
  by_cases c1 : 0 < g (21 + j)
  · rw [if_pos c1, if_neg (by decide)]
    by_cases c2 : g 2 ≤ g (21 + j)
    · rw [if_pos c2, if_neg (by omega)]
    · rw [if_neg c2, if_pos (by omega)]
  · rw [if_neg c1, if_pos rfl, if_neg (by omega)]
theorem mtouches {σ : Mem} {j : Nat} {g : Nat → Nat} (h : RA σ 187 g) (hb : SB g) (hj : j < g 0) : f_X8_touches (nI j) σ = some (nI (touG g j), σ) := by
  have h8 := hb.1
  have h4 := hb.2.2.2.1
  have m1 : ∀ k, g 4 / 2 ^ k % 2 < 2 := fun k => Nat.mod_lt _ (by decide)
  have t24 : ∀ t : Nat, f_X8_touches_24 (nI j) (nI t) σ = some (nI (t + g 4 / 2 ^ j % 2), σ) := by
    intro t
    have m2 := m1 j
    simp (disch := omega) only [f_X8_touches_24, l_0, l_1, l_4, n_ix, ing_ok, h.1.2.2.2.2, mhas, bd2_some, n_add, n_eq]
    by_cases c : g 4 / 2 ^ j % 2 = 0
    · rw [if_pos c, c]
    · rw [if_neg c, show g 4 / 2 ^ j % 2 = 1 by omega]
  unfold touG
  by_cases c : j = 0
  · subst c
    simp (disch := omega) only [f_X8_touches, n_le, l_0, l_1]
    rw [if_pos (Nat.le_refl _), t24, if_neg (by decide)]
  · have m2 := m1 (j - 1)
    simp (disch := omega) only [f_X8_touches, n_le, l_0, l_1, l_4, n_ix, ing_ok, h.1.2.2.2.2, n_sub, mhas, bd2_some, n_eq, t24]
    rw [if_neg (show ¬ j ≤ 0 by omega), if_pos (show 0 < j by omega)]
    by_cases c2 : g 4 / 2 ^ (j - 1) % 2 = 0
    · rw [if_pos c2, c2]
    · rw [if_neg c2, show g 4 / 2 ^ (j - 1) % 2 = 1 by omega]
theorem mlossOf {σ : Mem} {j : Nat} {g : Nat → Nat} (h : RA σ 187 g) (hb : SB g) (hj : j < g 0) : f_X8_lossOf (nI j) σ = some (nI (lossG g j), σ) := by
  have h8 := hb.1
  obtain ⟨hk, hr, hs⟩ := h.2 j hj
  obtain ⟨b1, b2, b3⟩ := hb.2.2.2.2 j hj
  have b1' := b1.1
  have b1'' := b1.2
  have b2' := b2.2
  have hst := mstands h hb hj
  by_cases c0 : g (21 + j) = 0
  · have e0 : lossG g j = 0 := by unfold lossG; rw [if_pos c0]
    rw [if_neg (by omega)] at hst
    rw [e0]
    simp (disch := omega) only [f_X8_lossOf, l_0, l_13, n_add, n_ix, ing_ok, lt_eq, hst, bd2_some, ↓reduceIte]
  · have hcase : g (5 + j) = 1 ∨ g (5 + j) = 2 ∨ g (5 + j) = 3 ∨ g (5 + j) = 4 ∨ g (5 + j) = 5 := by omega
    have hl := mleans h hb hj
    have hw := mtouches h hb hj
    rw [if_pos (by omega)] at hst
    rcases hcase with e | e | e | e | e
    · rw [e] at hk
      have e0 : lossG g j = g (13 + j) := by simp [lossG, c0, e]
      rw [e0]
      simp (disch := omega) only [f_X8_lossOf, l_0, l_5, l_13, n_add, n_ix, ing_ok, lt_eq, hst, bd2_some, n_eq, Nat.reduceEqDiff, ↓reduceIte, hk, sw_1_1, hr]
    · rw [e] at hk
      by_cases c1 : g (21 + j) < g 2
      · have e0 : lossG g j = 2 * g (13 + j) := by simp [lossG, c0, e, c1]
        rw [if_pos ⟨by omega, c1⟩] at hl
        rw [e0]
        simp (disch := omega) only [f_X8_lossOf, l_0, l_2, l_5, l_13, n_add, n_ix, ing_ok, lt_eq, hst, bd2_some, n_eq, Nat.reduceEqDiff, ↓reduceIte, hk, sw_1_2, hr, hl, n_mul]
      · have e0 : lossG g j = g (13 + j) := by simp [lossG, c0, e, c1]
        rw [if_neg (by omega)] at hl
        rw [e0]
        simp (disch := omega) only [f_X8_lossOf, l_0, l_2, l_5, l_13, n_add, n_ix, ing_ok, lt_eq, hst, bd2_some, n_eq, Nat.reduceEqDiff, ↓reduceIte, hk, sw_1_2, hr, hl, n_mul]
    · rw [e] at hk
      by_cases c1 : 4 ≤ g (13 + j)
      · have e0 : lossG g j = g (13 + j) / 2 := by
          have : max 1 (g (13 + j) / 2) = g (13 + j) / 2 := Nat.max_eq_right (by omega)
          simp [lossG, c0, e, this]
        rw [e0]
        simp (disch := omega) only [f_X8_lossOf, l_0, l_2, l_4, l_5, l_13, n_add, n_ix, ing_ok, lt_eq, hst, bd2_some, n_eq, n_le, Nat.reduceEqDiff, ↓reduceIte, hk, sw_1_3, hr, c1, n_div]
      · have e0 : lossG g j = 1 := by
          have : max 1 (g (13 + j) / 2) = 1 := Nat.max_eq_left (by omega)
          simp [lossG, c0, e, this]
        rw [e0]
        simp (disch := omega) only [f_X8_lossOf, l_0, l_1, l_2, l_4, l_5, l_13, n_add, n_ix, ing_ok, lt_eq, hst, bd2_some, n_eq, n_le, Nat.reduceEqDiff, ↓reduceIte, hk, sw_1_3, hr, c1]
    · rw [e] at hk
      have e0 : lossG g j = 1 + touG g j := by simp [lossG, c0, e]
      rw [e0]
      simp (disch := omega) only [f_X8_lossOf, l_0, l_1, l_5, l_13, n_add, n_ix, ing_ok, lt_eq, hst, bd2_some, n_eq, Nat.reduceEqDiff, ↓reduceIte, hk, sw_1_4, hw]
    · rw [e] at hk
      by_cases c1 : g (21 + j) < 50
      · have e0 : lossG g j = 1 + touG g j := by
          have c2 : ¬ 50 ≤ g (21 + j) := by omega
          simp [lossG, c0, e, c2]
        rw [e0]
        simp (disch := omega) only [f_X8_lossOf, l_0, l_1, l_5, l_13, l_21, l_50, n_add, n_ix, ing_ok, lt_eq, hst, hs, bd2_some, n_eq, n_lt, Nat.reduceEqDiff, ↓reduceIte, hk, sw_1_5, hw, c1]
      · have e0 : lossG g j = 0 := by
          have c2 : 50 ≤ g (21 + j) := by omega
          simp [lossG, c0, e, c2]
        rw [e0]
        simp (disch := omega) only [f_X8_lossOf, l_0, l_1, l_5, l_13, l_21, l_50, n_add, n_ix, ing_ok, lt_eq, hst, hs, bd2_some, n_eq, n_lt, Nat.reduceEqDiff, ↓reduceIte, hk, sw_1_5, c1]
