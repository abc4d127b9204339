/-! PURE, 2: a street of numbers, told by the class (RS) and by the reference (RA) -/
theorem l_0 : (0 : Int32) = nI 0 := rfl
theorem l_1 : (1 : Int32) = nI 1 := rfl
theorem l_2 : (2 : Int32) = nI 2 := rfl
theorem l_3 : (3 : Int32) = nI 3 := rfl
theorem l_4 : (4 : Int32) = nI 4 := rfl
theorem l_5 : (5 : Int32) = nI 5 := rfl
theorem l_6 : (6 : Int32) = nI 6 := rfl
theorem l_7 : (7 : Int32) = nI 7 := rfl
theorem l_8 : (8 : Int32) = nI 8 := rfl
theorem l_9 : (9 : Int32) = nI 9 := rfl
theorem l_10 : (10 : Int32) = nI 10 := rfl
theorem l_12 : (12 : Int32) = nI 12 := rfl
theorem l_13 : (13 : Int32) = nI 13 := rfl
theorem l_16 : (16 : Int32) = nI 16 := rfl
theorem l_20 : (20 : Int32) = nI 20 := rfl
theorem l_21 : (21 : Int32) = nI 21 := rfl
theorem l_24 : (24 : Int32) = nI 24 := rfl
theorem l_29 : (29 : Int32) = nI 29 := rfl
theorem l_30 : (30 : Int32) = nI 30 := rfl
theorem l_31 : (31 : Int32) = nI 31 := rfl
theorem l_40 : (40 : Int32) = nI 40 := rfl
theorem l_50 : (50 : Int32) = nI 50 := rfl
theorem l_60 : (60 : Int32) = nI 60 := rfl
theorem l_99 : (99 : Int32) = nI 99 := rfl
def SB (g : Nat → Nat) : Prop := g 0 ≤ 8 ∧ g 1 ≤ 30 ∧ g 2 ≤ 40 ∧ g 4 < 128 ∧ ∀ h, h < g 0 → (1 ≤ g (5 + h) ∧ g (5 + h) ≤ 5) ∧ (1 ≤ g (13 + h) ∧ g (13 + h) ≤ 9) ∧ g (21 + h) ≤ 99
def RS (σ : Mem) (b : Nat) (g : Nat → Nat) : Prop := (σ b 3 = nI (g 0) ∧ σ b 4 = nI (g 1) ∧ σ b 5 = nI (g 2) ∧ σ b 6 = nI (g 3) ∧ σ b 7 = nI (g 4)) ∧ ∀ h, h < g 0 → σ (b + 1) h = nI (g (5 + h)) ∧ σ (b + 2) h = nI (g (13 + h)) ∧ σ (b + 3) h = nI (g (21 + h))
def RA (σ : Mem) (a : Nat) (g : Nat → Nat) : Prop := (σ a 0 = nI (g 0) ∧ σ a 1 = nI (g 1) ∧ σ a 2 = nI (g 2) ∧ σ a 3 = nI (g 3) ∧ σ a 4 = nI (g 4)) ∧ ∀ h, h < g 0 → σ a (5 + h) = nI (g (5 + h)) ∧ σ a (13 + h) = nI (g (13 + h)) ∧ σ a (21 + h) = nI (g (21 + h))
/-- one house's spin -/
def sp (g : Nat → Nat) (j v : Nat) : Nat → Nat := fun k => if k = 21 + j then v else g k
theorem sp_at {g : Nat → Nat} {j v : Nat} : sp g j v (21 + j) = v := if_pos rfl
theorem sp_ne {g : Nat → Nat} {j v k : Nat} (h : k ≠ 21 + j) : sp g j v k = g k := if_neg h
theorem SB.sp {g : Nat → Nat} {j v : Nat} (hb : SB g) (hv : v ≤ 99) : SB (sp g j v) := by
  obtain ⟨h0, h1, h2, h3, h4⟩ := hb
  refine ⟨by rw [sp_ne (by omega)]; exact h0, by rw [sp_ne (by omega)]; exact h1, by rw [sp_ne (by omega)]; exact h2, by rw [sp_ne (by omega)]; exact h3, fun h hh => ?_⟩
  rw [sp_ne (by omega)] at hh
  obtain ⟨q1, q2, q3⟩ := h4 h hh
  refine ⟨by rw [sp_ne (by omega)]; exact q1, by rw [sp_ne (by omega)]; exact q2, ?_⟩
  by_cases e : h = j
  · subst e
    rw [sp_at]; exact hv
  · rw [sp_ne (by omega)]; exact q3
theorem RS.sp {σ : Mem} {b j v : Nat} {g : Nat → Nat} (h : RS σ b g) (h8 : g 0 ≤ 8) : RS (st2 σ (b + 3) j (nI v)) b (sp g j v) := by
  obtain ⟨⟨h0, h1, h2, h3, h4⟩, h5⟩ := h
  refine ⟨⟨?_, ?_, ?_, ?_, ?_⟩, fun k hk => ?_⟩
  · rw [st2_a (by omega), sp_ne (by omega)]; exact h0
  · rw [st2_a (by omega), sp_ne (by omega)]; exact h1
  · rw [st2_a (by omega), sp_ne (by omega)]; exact h2
  · rw [st2_a (by omega), sp_ne (by omega)]; exact h3
  · rw [st2_a (by omega), sp_ne (by omega)]; exact h4
  · rw [sp_ne (by omega)] at hk
    obtain ⟨q1, q2, q3⟩ := h5 k hk
    refine ⟨by rw [st2_a (by omega), sp_ne (by omega)]; exact q1, by rw [st2_a (by omega), sp_ne (by omega)]; exact q2, ?_⟩
    by_cases e : k = j
    · subst e
      rw [st2_at, sp_at]
    · rw [st2_k e, sp_ne (by omega)]; exact q3
theorem RA.sp {σ : Mem} {a j v : Nat} {g : Nat → Nat} (h : RA σ a g) (h8 : g 0 ≤ 8) : RA (st2 σ a (21 + j) (nI v)) a (sp g j v) := by
  obtain ⟨⟨h0, h1, h2, h3, h4⟩, h5⟩ := h
  refine ⟨⟨?_, ?_, ?_, ?_, ?_⟩, fun k hk => ?_⟩
  · rw [st2_k (by omega), sp_ne (by omega)]; exact h0
  · rw [st2_k (by omega), sp_ne (by omega)]; exact h1
  · rw [st2_k (by omega), sp_ne (by omega)]; exact h2
  · rw [st2_k (by omega), sp_ne (by omega)]; exact h3
  · rw [st2_k (by omega), sp_ne (by omega)]; exact h4
  · rw [sp_ne (by omega)] at hk
    obtain ⟨q1, q2, q3⟩ := h5 k hk
    refine ⟨by rw [st2_k (by omega), sp_ne (by omega)]; exact q1, by rw [st2_k (by omega), sp_ne (by omega)]; exact q2, ?_⟩
    by_cases e : k = j
    · subst e
      rw [st2_at, sp_at]
    · rw [st2_k (by omega), sp_ne (by omega)]; exact q3
/-- which stand, as bits -/
def sbits (g : Nat → Nat) : Nat → Nat
  | 0 => 0
  | j + 1 => sbits g j + if 0 < g (21 + j) then 2 ^ j else 0
def standG (g : Nat → Nat) : Nat := sbits g (g 0)
theorem sbits_lt (g : Nat → Nat) : ∀ j, sbits g j < 2 ^ j := by
  intro j
  induction j with
  | zero => exact Nat.one_pos
  | succ j ih =>
    rw [sbits, Nat.pow_succ]
    by_cases c : 0 < g (21 + j)
    · rw [if_pos c]; omega
    · rw [if_neg c]; omega
theorem xstanding_4 {σ : Mem} {b : Nat} {g : Nat → Nat} (h : RS σ b g) (hb : SB g) : ∀ n j, j ≤ g 0 → g 0 - j < n → f_X5_standing_4 b n (nI (sbits g j)) (nI j) σ = some (nI (standG g), σ) := by
  intro n
  induction n with
  | zero => intro j h1 h2; omega
  | succ n ih =>
    intro j h1 h2
    have h8 := hb.1
    by_cases c : j = g 0
    · subst c
      simp (disch := omega) only [f_X5_standing_4, h.1.1, n_le]
      rw [if_pos (Nat.le_refl _)]
      rfl
    · have hj : j < g 0 := by omega
      have hs := (h.2 j hj).2.2
      have h99 := (hb.2.2.2.2 j hj).2.2
      simp (disch := omega) only [f_X5_standing_4, h.1.1, n_le, l_0, l_1, l_31, lt_eq, n_ix, ing_ok, hs, n_shl, n_or, n_add]
      rw [if_neg (by omega)]
      by_cases c2 : 0 < g (21 + j)
      · rw [if_neg (by omega), or_new (sbits_lt g j)]
        have e : sbits g j + 2 ^ j = sbits g (j + 1) := by rw [sbits, if_pos c2]
        rw [e]
        exact ih (j + 1) (by omega) (by omega)
      · rw [if_pos (by omega), Nat.or_zero]
        have e : sbits g j = sbits g (j + 1) := by rw [sbits, if_neg c2, Nat.add_zero]
        rw [e]
        exact ih (j + 1) (by omega) (by omega)
theorem xstanding {σ : Mem} {b : Nat} {g : Nat → Nat} (h : RS σ b g) (hb : SB g) : f_X5_standing b σ = some (nI (standG g), σ) := by
  have h8 := hb.1
  exact xstanding_4 h hb FU 0 (Nat.zero_le _) (by rw [FU_eq]; omega)
theorem mstands {σ : Mem} {g : Nat → Nat} {j : Nat} (h : RA σ 187 g) (hb : SB g) (hj : j < g 0) : f_X8_stands (nI j) σ = some (nI (if 0 < g (21 + j) then 1 else 0), σ) := by
  have h8 := hb.1
  have hs := (h.2 j hj).2.2
  have h99 := (hb.2.2.2.2 j hj).2.2
  simp (disch := omega) only [f_X8_stands, n_le, l_0, l_1, l_21, n_ix, ing_ok, hs, n_add]
  by_cases c2 : 0 < g (21 + j)
  · rw [if_neg (by omega), if_pos c2]
  · rw [if_pos (by omega), if_neg c2]
theorem mstanding_4 {σ : Mem} {g : Nat → Nat} (h : RA σ 187 g) (hb : SB g) : ∀ n j, j ≤ g 0 → g 0 - j < n → f_X8_standing_4 n (nI (sbits g j)) (nI j) σ = some (nI (standG g), σ) := by
  intro n
  induction n with
  | zero => intro j h1 h2; omega
  | succ n ih =>
    intro j h1 h2
    have h8 := hb.1
    by_cases c : j = g 0
    · subst c
      simp (disch := omega) only [f_X8_standing_4, l_0, n_ix, ing_ok, h.1.1, n_le]
      rw [if_pos (Nat.le_refl _)]
      rfl
    · have hj : j < g 0 := by omega
      simp (disch := omega) only [f_X8_standing_4, h.1.1, n_le, l_0, l_1, l_31, lt_eq, n_ix, ing_ok, mstands h hb hj, bd2_some, n_shl, n_or, n_add]
      rw [if_neg (by omega)]
      by_cases c2 : 0 < g (21 + j)
      · rw [if_pos c2, if_neg (by decide), or_new (sbits_lt g j)]
        have e : sbits g j + 2 ^ j = sbits g (j + 1) := by rw [sbits, if_pos c2]
        rw [e]
        exact ih (j + 1) (by omega) (by omega)
      · rw [if_neg c2, if_pos rfl, Nat.or_zero]
        have e : sbits g j = sbits g (j + 1) := by rw [sbits, if_neg c2, Nat.add_zero]
        rw [e]
        exact ih (j + 1) (by omega) (by omega)
theorem mstanding {σ : Mem} {g : Nat → Nat} (h : RA σ 187 g) (hb : SB g) : f_X8_standing σ = some (nI (standG g), σ) := by
  have h8 := hb.1
  exact mstanding_4 h hb FU 0 (Nat.zero_le _) (by rw [FU_eq]; omega)
