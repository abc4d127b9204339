/-! PURE, 4: the hour itself -/
/-- the losses of the first j houses -/
def losG (g : Nat → Nat) : Nat → (Nat → Nat)
  | 0 => g
  | j + 1 => sp (losG g j) j (g (21 + j) - lossG g j)
theorem losG_low {g : Nat → Nat} : ∀ j k, (k < 21 ∨ 21 + j ≤ k) → losG g j k = g k := by
  intro j
  induction j with
  | zero => intro k _; rfl
  | succ j ih =>
    intro k hk
    rw [losG, sp_ne (by omega)]
    exact ih k (by omega)
theorem losG_loss {g : Nat → Nat} {j : Nat} (c : j < 8) : lossG (losG g j) j = lossG g j := by
  unfold lossG touG
  rw [losG_low j (21 + j) (by omega), losG_low j 2 (by omega), losG_low j 4 (by omega), losG_low j (5 + j) (by omega), losG_low j (13 + j) (by omega)]
theorem losG_SB {g : Nat → Nat} (hb : SB g) : ∀ j, j ≤ g 0 → SB (losG g j) := by
  intro j
  induction j with
  | zero => intro _; exact hb
  | succ j ih =>
    intro hj
    have := (hb.2.2.2.2 j hj).2.2
    exact (ih (by omega)).sp (by omega)
/-- wall by wall -/
def walG (g : Nat → Nat) : Nat → (Nat → Nat)
  | 0 => g
  | w + 1 =>
    let f := walG g w
    if f 4 / 2 ^ w % 2 = 1 ∧ 0 < f (21 + w) ∧ 0 < f (21 + (w + 1)) then
      (if f (21 + (w + 1)) ≤ f (21 + w) then sp (sp f w (f (21 + w) - (f (21 + w) - f (21 + (w + 1))) / 4)) (w + 1) (f (21 + (w + 1)) + (f (21 + w) - f (21 + (w + 1))) / 4)
       else sp (sp f w (f (21 + w) + (f (21 + (w + 1)) - f (21 + w)) / 4)) (w + 1) (f (21 + (w + 1)) - (f (21 + (w + 1)) - f (21 + w)) / 4))
    else f
/-- house by house, who fell on the next one -/
def falG (stood : Nat) (g : Nat → Nat) : Nat → (Nat → Nat)
  | 0 => g
  | h + 1 =>
    let f := falG stood g h
    if stood / 2 ^ h % 2 = 1 ∧ f (21 + h) = 0 then sp f (h + 1) (f (21 + (h + 1)) - f 2) else f
def hourG (g : Nat → Nat) : Nat → Nat := fun k => if k = 3 then g 3 + 1 else falG (standG g) (walG (losG g (g 0)) (g 0 - 1)) (g 0 - 1) k
theorem walG_low {g : Nat → Nat} : ∀ w k, k < 21 → walG g w k = g k := by
  intro w
  induction w with
  | zero => intro k _; rfl
  | succ w ih =>
    intro k hk
    rw [walG]
    split
    · split
      · rw [sp_ne (by omega), sp_ne (by omega)]; exact ih k hk
      · rw [sp_ne (by omega), sp_ne (by omega)]; exact ih k hk
    · exact ih k hk
theorem falG_low {stood : Nat} {g : Nat → Nat} : ∀ w k, k < 21 → falG stood g w k = g k := by
  intro w
  induction w with
  | zero => intro k _; rfl
  | succ w ih =>
    intro k hk
    rw [falG]
    split
    · rw [sp_ne (by omega)]; exact ih k hk
    · exact ih k hk
theorem walG_SB {g : Nat → Nat} (hb : SB g) : ∀ w, w ≤ g 0 - 1 → SB (walG g w) := by
  intro w
  induction w with
  | zero => intro _; exact hb
  | succ w ih =>
    intro hw
    have i := ih (by omega)
    have e0 : walG g w 0 = g 0 := walG_low w 0 (by omega)
    have a1 := (i.2.2.2.2 w (by omega)).2.2
    have a2 := (i.2.2.2.2 (w + 1) (by omega)).2.2
    rw [walG]
    split
    · split
      · exact (i.sp (by omega)).sp (by omega)
      · exact (i.sp (by omega)).sp (by omega)
    · exact i
theorem falG_SB {stood : Nat} {g : Nat → Nat} (hb : SB g) : ∀ w, w ≤ g 0 - 1 → SB (falG stood g w) := by
  intro w
  induction w with
  | zero => intro _; exact hb
  | succ w ih =>
    intro hw
    have i := ih (by omega)
    have e0 : falG stood g w 0 = g 0 := falG_low w 0 (by omega)
    have a2 := (i.2.2.2.2 (w + 1) (by omega)).2.2
    rw [falG]
    split
    · exact i.sp (by omega)
    · exact i
def Fr (S : Nat → Prop) (σ τ : Mem) : Prop := ∀ a, ¬ S a → τ a = σ a
theorem Fr.rf {S : Nat → Prop} {σ : Mem} : Fr S σ σ := fun _ _ => rfl
theorem Fr.tr {S : Nat → Prop} {σ τ υ : Mem} (h1 : Fr S σ τ) (h2 : Fr S τ υ) : Fr S σ υ := fun a h => (h2 a h).trans (h1 a h)
theorem Fr.st {S : Nat → Prop} {σ : Mem} {a k : Nat} {x : Int32} (h : S a) : Fr S σ (st2 σ a k x) := fun b hb => st2_row (fun e => hb (e ▸ h))
theorem Fr.le {S T : Nat → Prop} {σ τ : Mem} (h : Fr S σ τ) (hs : ∀ a, S a → T a) : Fr T σ τ := fun a ha => h a (fun q => ha (hs a q))
theorem xpass_7 {b : Nat} {g : Nat → Nat} {m1 : Int32} (hb : SB g) : ∀ n j σ, RS σ b (losG g j) → j ≤ g 0 → g 0 - j < n → ∃ τ, f_X5_pass_7 b n m1 (nI j) σ = f_X5_pass_45 b FU m1 (nI 0) τ ∧ RS τ b (losG g (g 0)) ∧ Fr (fun a => a = b + 3) σ τ := by
  intro n
  induction n with
  | zero => intro j σ _ h1 h2; omega
  | succ n ih =>
    intro j σ hR h1 h2
    have h8 := hb.1
    have e0 : losG g j 0 = g 0 := losG_low j 0 (by omega)
    by_cases c : j = g 0
    · subst c
      refine ⟨σ, ?_, hR, Fr.rf⟩
      simp (disch := omega) only [f_X5_pass_7, hR.1.1, e0, n_le, Nat.le_refl, ↓reduceIte, lt_eq, l_0]
    · have hj : j < g 0 := by omega
      have hs := (hR.2 j (by omega)).2.2
      rw [losG_low j (21 + j) (by omega)] at hs
      have h99 := (hb.2.2.2.2 j hj).2.2
      have hl := xloss hR (losG_SB hb j h1) (j := j) (by omega)
      rw [losG_loss (by omega)] at hl
      have hl18 := lossG_le hb hj
      have c2 : ¬ g 0 ≤ j := by omega
      obtain ⟨τ, t1, t2, t3⟩ := ih (j + 1) (st2 σ (b + 3) j (nI (g (21 + j) - lossG g j))) (hR.sp (by omega)) (by omega) (by omega)
      refine ⟨τ, ?_, t2, (Fr.st (S := fun a => a = b + 3) rfl).tr t3⟩
      rw [← t1]
      simp (disch := omega) only [f_X5_pass_7, hR.1.1, e0, n_le, c2, ↓reduceIte, lt_eq, l_0, l_1, ing_ok, hl, bd2_some, n_ix, hs, im_sub, n_add]
theorem walG_step {g : Nat → Nat} {w : Nat} (h : ¬ (walG g w 4 / 2 ^ w % 2 = 1 ∧ 0 < walG g w (21 + w) ∧ 0 < walG g w (21 + (w + 1)))) : walG g (w + 1) = walG g w := by
  rw [walG]
  exact if_neg h
/-- a quarter of the difference, both ways -/
theorem quart {a b : Nat} (ha : a ≤ 99) (hb : b ≤ 99) : nI a - (nI a - nI b) / nI 4 = nI (if b ≤ a then a - (a - b) / 4 else a + (b - a) / 4) ∧ nI b + (nI a - nI b) / nI 4 = nI (if b ≤ a then b + (a - b) / 4 else b - (b - a) / 4) := by
  have key : ∀ a, a < 100 → ∀ b, b < 100 → nI a - (nI a - nI b) / nI 4 = nI (if b ≤ a then a - (a - b) / 4 else a + (b - a) / 4) ∧ nI b + (nI a - nI b) / nI 4 = nI (if b ≤ a then b + (a - b) / 4 else b - (b - a) / 4) := by decide +kernel
  exact key a (by omega) b (by omega)
theorem walG_go {g : Nat → Nat} {w : Nat} (h : walG g w 4 / 2 ^ w % 2 = 1 ∧ 0 < walG g w (21 + w) ∧ 0 < walG g w (21 + (w + 1))) : walG g (w + 1) = sp (sp (walG g w) w (if walG g w (21 + (w + 1)) ≤ walG g w (21 + w) then walG g w (21 + w) - (walG g w (21 + w) - walG g w (21 + (w + 1))) / 4 else walG g w (21 + w) + (walG g w (21 + (w + 1)) - walG g w (21 + w)) / 4)) (w + 1) (if walG g w (21 + (w + 1)) ≤ walG g w (21 + w) then walG g w (21 + (w + 1)) + (walG g w (21 + w) - walG g w (21 + (w + 1))) / 4 else walG g w (21 + (w + 1)) - (walG g w (21 + (w + 1)) - walG g w (21 + w)) / 4) := by
  rw [walG, if_pos h]
  by_cases c : walG g w (21 + (w + 1)) ≤ walG g w (21 + w)
  · rw [if_pos c, if_pos c, if_pos c]
  · rw [if_neg c, if_neg c, if_neg c]
theorem xpass_45 {b : Nat} {g : Nat → Nat} {m1 : Int32} (hb : SB g) : ∀ n j σ, RS σ b (walG g j) → j ≤ g 0 - 1 → g 0 - 1 - j < n → ∃ τ, f_X5_pass_45 b n m1 (nI j) σ = f_X5_pass_134 b FU m1 (nI 0) τ ∧ RS τ b (walG g (g 0 - 1)) ∧ Fr (fun a => a = b + 3) σ τ := by
  intro n
  induction n with
  | zero => intro j σ _ h1 h2; omega
  | succ n ih =>
    intro j σ hR h1 h2
    have h8 := hb.1
    have e0 : walG g j 0 = g 0 := walG_low j 0 (by omega)
    have e4 : walG g j 4 = g 4 := walG_low j 4 (by omega)
    have h4 := hb.2.2.2.1
    by_cases c : j = g 0 - 1
    · refine ⟨σ, ?_, by rw [← c]; exact hR, Fr.rf⟩
      have c2 : g 0 ≤ j + 1 := by omega
      simp (disch := omega) only [f_X5_pass_45, hR.1.1, e0, l_1, n_add, n_le, c2, ↓reduceIte, lt_eq, l_0]
    · have hS := walG_SB hb j h1
      have a1 := (hS.2.2.2.2 j (by omega)).2.2
      have a2 := (hS.2.2.2.2 (j + 1) (by omega)).2.2
      have s1 := (hR.2 j (by omega)).2.2
      have s2 := (hR.2 (j + 1) (by omega)).2.2
      have c2 : ¬ g 0 ≤ j + 1 := by omega
      have hm : g 4 / 2 ^ j % 2 < 2 := Nat.mod_lt _ (by decide)
      have stay : ¬ (walG g j 4 / 2 ^ j % 2 = 1 ∧ 0 < walG g j (21 + j) ∧ 0 < walG g j (21 + (j + 1))) → f_X5_pass_45 b (n + 1) m1 (nI j) σ = f_X5_pass_45 b n m1 (nI (j + 1)) σ → ∃ τ, f_X5_pass_45 b (n + 1) m1 (nI j) σ = f_X5_pass_134 b FU m1 (nI 0) τ ∧ RS τ b (walG g (g 0 - 1)) ∧ Fr (fun a => a = b + 3) σ τ := by
        intro q1 q2
        obtain ⟨τ, t1, t2, t3⟩ := ih (j + 1) σ (by rw [walG_step q1]; exact hR) (by omega) (by omega)
        exact ⟨τ, q2.trans t1, t2, t3⟩
      by_cases c3 : g 4 / 2 ^ j % 2 = 0
      · refine stay (by rw [e4]; omega) ?_
        simp (disch := omega) only [f_X5_pass_45, hR.1.1, hR.1.2.2.2.2, e0, e4, l_0, l_1, l_31, n_add, n_le, n_bit, n_eq, c2, c3, ↓reduceIte, lt_eq]
      · by_cases c4 : walG g j (21 + j) ≤ 0
        · refine stay (by omega) ?_
          simp (disch := omega) only [f_X5_pass_45, hR.1.1, hR.1.2.2.2.2, e0, e4, l_0, l_1, l_31, n_add, n_le, n_bit, n_eq, c2, c3, c4, ↓reduceIte, lt_eq, ing_ok, n_ix, s1]
        · by_cases c5 : walG g j (21 + (j + 1)) ≤ 0
          · refine stay (by omega) ?_
            simp (disch := omega) only [f_X5_pass_45, hR.1.1, hR.1.2.2.2.2, e0, e4, l_0, l_1, l_31, n_add, n_le, n_bit, n_eq, c2, c3, c4, c5, ↓reduceIte, lt_eq, ing_ok, n_ix, s1, s2]
          · obtain ⟨k1, k2⟩ := quart a1 a2
            have go := walG_go (g := g) (w := j) ⟨by rw [e4]; omega, by omega, by omega⟩
            have hR1 := (hR.sp (j := j) (v := if walG g j (21 + (j + 1)) ≤ walG g j (21 + j) then walG g j (21 + j) - (walG g j (21 + j) - walG g j (21 + (j + 1))) / 4 else walG g j (21 + j) + (walG g j (21 + (j + 1)) - walG g j (21 + j)) / 4) (by omega))
            have hR2 := (hR1.sp (j := j + 1) (v := if walG g j (21 + (j + 1)) ≤ walG g j (21 + j) then walG g j (21 + (j + 1)) + (walG g j (21 + j) - walG g j (21 + (j + 1))) / 4 else walG g j (21 + (j + 1)) - (walG g j (21 + (j + 1)) - walG g j (21 + j)) / 4) (by rw [sp_ne (by omega)]; omega))
            rw [← go] at hR2
            obtain ⟨τ, t1, t2, t3⟩ := ih (j + 1) _ hR2 (by omega) (by omega)
            refine ⟨τ, ?_, t2, ((Fr.st (S := fun a => a = b + 3) rfl).tr (Fr.st (S := fun a => a = b + 3) rfl)).tr t3⟩
            rw [← t1]
            have s3 : ∀ x, st2 σ (b + 3) j x (b + 3) (j + 1) = nI (walG g j (21 + (j + 1))) := fun x => by rw [st2_k (by omega)]; exact s2
            simp (disch := omega) only [f_X5_pass_45, hR.1.1, hR.1.2.2.2.2, e0, e4, l_0, l_1, l_4, l_31, n_add, n_le, n_bit, n_eq, c2, c3, c4, c5, ↓reduceIte, lt_eq, ing_ok, n_ix, s1, s2, s3, k1, k2]
theorem falG_step {stood : Nat} {g : Nat → Nat} {w : Nat} (h : ¬ (stood / 2 ^ w % 2 = 1 ∧ falG stood g w (21 + w) = 0)) : falG stood g (w + 1) = falG stood g w := by
  rw [falG]
  exact if_neg h
theorem falG_go {stood : Nat} {g : Nat → Nat} {w : Nat} (h : stood / 2 ^ w % 2 = 1 ∧ falG stood g w (21 + w) = 0) : falG stood g (w + 1) = sp (falG stood g w) (w + 1) (falG stood g w (21 + (w + 1)) - g 2) := by
  rw [falG, if_pos h, falG_low w 2 (by omega)]
theorem xpass_134 {b stood : Nat} {g : Nat → Nat} (hb : SB g) (hst : stood < 256) : ∀ n j σ, RS σ b (falG stood g j) → j ≤ g 0 - 1 → g 0 - 1 - j < n → ∃ τ, f_X5_pass_134 b n (nI stood) (nI j) σ = some (st2 τ b 6 (nI (g 3 + 1))) ∧ RS τ b (falG stood g (g 0 - 1)) ∧ Fr (fun a => a = b + 3) σ τ := by
  intro n
  induction n with
  | zero => intro j σ _ h1 h2; omega
  | succ n ih =>
    intro j σ hR h1 h2
    have h8 := hb.1
    have h40 := hb.2.2.1
    have e0 : falG stood g j 0 = g 0 := falG_low j 0 (by omega)
    have e2 : falG stood g j 2 = g 2 := falG_low j 2 (by omega)
    have e3 : falG stood g j 3 = g 3 := falG_low j 3 (by omega)
    by_cases c : j = g 0 - 1
    · refine ⟨σ, ?_, by rw [← c]; exact hR, Fr.rf⟩
      have c2 : g 0 ≤ j + 1 := by omega
      simp (disch := omega) only [f_X5_pass_134, hR.1.1, hR.1.2.2.2.1, e0, e3, l_1, n_add, n_le, c2, ↓reduceIte, lt_eq, l_0]
    · have hS := falG_SB (stood := stood) hb j h1
      have a1 := (hS.2.2.2.2 j (by omega)).2.2
      have a2 := (hS.2.2.2.2 (j + 1) (by omega)).2.2
      have s1 := (hR.2 j (by omega)).2.2
      have s2 := (hR.2 (j + 1) (by omega)).2.2
      have c2 : ¬ g 0 ≤ j + 1 := by omega
      have hm : stood / 2 ^ j % 2 < 2 := Nat.mod_lt _ (by decide)
      have stay : ¬ (stood / 2 ^ j % 2 = 1 ∧ falG stood g j (21 + j) = 0) → f_X5_pass_134 b (n + 1) (nI stood) (nI j) σ = f_X5_pass_134 b n (nI stood) (nI (j + 1)) σ → ∃ τ, f_X5_pass_134 b (n + 1) (nI stood) (nI j) σ = some (st2 τ b 6 (nI (g 3 + 1))) ∧ RS τ b (falG stood g (g 0 - 1)) ∧ Fr (fun a => a = b + 3) σ τ := by
        intro q1 q2
        obtain ⟨τ, t1, t2, t3⟩ := ih (j + 1) σ (by rw [falG_step q1]; exact hR) (by omega) (by omega)
        exact ⟨τ, q2.trans t1, t2, t3⟩
      by_cases c3 : stood / 2 ^ j % 2 = 0
      · refine stay (by omega) ?_
        simp (disch := omega) only [f_X5_pass_134, hR.1.1, e0, l_0, l_1, l_31, n_add, n_le, n_bit, n_eq, c2, c3, ↓reduceIte, lt_eq]
      · by_cases c4 : falG stood g j (21 + j) = 0
        · have go := falG_go (stood := stood) (g := g) (w := j) ⟨by omega, c4⟩
          have hR1 := (hR.sp (j := j + 1) (v := falG stood g j (21 + (j + 1)) - g 2) (by omega))
          rw [← go] at hR1
          obtain ⟨τ, t1, t2, t3⟩ := ih (j + 1) _ hR1 (by omega) (by omega)
          refine ⟨τ, ?_, t2, (Fr.st (S := fun a => a = b + 3) rfl).tr t3⟩
          rw [← t1]
          rw [c4] at s1
          simp (disch := omega) only [f_X5_pass_134, hR.1.1, hR.1.2.2.1, e0, e2, l_0, l_1, l_31, n_add, n_le, n_bit, n_eq, c2, c3, ↓reduceIte, lt_eq, ing_ok, n_ix, s1, s2, im_sub]
        · refine stay (by omega) ?_
          simp (disch := omega) only [f_X5_pass_134, hR.1.1, e0, l_0, l_1, l_31, n_add, n_le, n_bit, n_eq, c2, c3, c4, ↓reduceIte, lt_eq, ing_ok, n_ix, s1]
theorem standG_lt {g : Nat → Nat} (hb : SB g) : standG g < 256 := by
  have h8 := hb.1
  have h := sbits_lt g (g 0)
  have : 2 ^ g 0 ≤ 2 ^ 8 := Nat.pow_le_pow_right (by decide) h8
  unfold standG
  omega
theorem hour_low {g : Nat → Nat} {k : Nat} (h : k < 21) (h3 : k ≠ 3) : hourG g k = g k := by
  unfold hourG
  rw [if_neg h3, falG_low _ _ h, walG_low _ _ h, losG_low _ _ (Or.inl h)]
theorem hour_3 {g : Nat → Nat} : hourG g 3 = g 3 + 1 := if_pos rfl
theorem hour_SB {g : Nat → Nat} (hb : SB g) : SB (hourG g) := by
  have h1 := losG_SB hb (g 0) (Nat.le_refl _)
  have h2 := walG_SB h1 (g 0 - 1) (by rw [losG_low _ 0 (by omega)]; exact Nat.le_refl _)
  have h3 := falG_SB (stood := standG g) h2 (g 0 - 1) (by rw [walG_low _ 0 (by omega), losG_low _ 0 (by omega)]; exact Nat.le_refl _)
  have e : ∀ k, k ≠ 3 → hourG g k = falG (standG g) (walG (losG g (g 0)) (g 0 - 1)) (g 0 - 1) k := fun k hk => if_neg hk
  obtain ⟨q0, q1, q2, q4, q5⟩ := h3
  refine ⟨by rw [e 0 (by omega)]; exact q0, by rw [e 1 (by omega)]; exact q1, by rw [e 2 (by omega)]; exact q2, by rw [e 4 (by omega)]; exact q4, fun h hh => ?_⟩
  rw [e (5 + h) (by omega), e (13 + h) (by omega), e (21 + h) (by omega)]
  rw [e 0 (by omega)] at hh
  exact q5 h hh
/-- an hour, on the class's side -/
theorem xpass {b : Nat} {σ : Mem} {g : Nat → Nat} (hR : RS σ b g) (hb : SB g) : ∃ τ, f_X5_pass b σ = some τ ∧ RS τ b (hourG g) ∧ Fr (fun a => a = b ∨ a = b + 3) σ τ := by
  have h8 := hb.1
  have hst := standG_lt hb
  have z0 : losG g (g 0) 0 = g 0 := losG_low _ 0 (by omega)
  have h1 := losG_SB hb (g 0) (Nat.le_refl _)
  have w0 : walG (losG g (g 0)) (g 0 - 1) 0 = g 0 := by rw [walG_low _ 0 (by omega), z0]
  have w3 : walG (losG g (g 0)) (g 0 - 1) 3 = g 3 := by rw [walG_low _ 3 (by omega), losG_low _ 3 (by omega)]
  have h2 := walG_SB h1 (g 0 - 1) (by rw [z0]; exact Nat.le_refl _)
  obtain ⟨τ1, a1, a2, a3⟩ := xpass_7 (m1 := nI (standG g)) hb FU 0 σ hR (Nat.zero_le _) (by rw [FU_eq]; omega)
  obtain ⟨τ2, b1, b2, b3⟩ := xpass_45 (m1 := nI (standG g)) h1 FU 0 τ1 a2 (Nat.zero_le _) (by rw [FU_eq]; omega)
  rw [z0] at b2
  obtain ⟨τ3, c1, c2, c3⟩ := xpass_134 (stood := standG g) h2 hst FU 0 τ2 b2 (Nat.zero_le _) (by rw [FU_eq]; omega)
  rw [w0] at c2
  rw [w3] at c1
  refine ⟨st2 τ3 b 6 (nI (g 3 + 1)), ?_, ?_, Fr.tr (Fr.le (T := fun a => a = b ∨ a = b + 3) ((a3.tr b3).tr c3) (fun a h => Or.inr h)) (Fr.st (S := fun a => a = b ∨ a = b + 3) (Or.inl rfl))⟩
  · unfold f_X5_pass
    rw [xstanding hR hb, bd2_some, lt_eq, lt_eq, l_0, a1, b1, c1]
  · obtain ⟨⟨q0, q1, q2, q3, q4⟩, q5⟩ := c2
    have e : ∀ k, k ≠ 3 → hourG g k = falG (standG g) (walG (losG g (g 0)) (g 0 - 1)) (g 0 - 1) k := fun k hk => if_neg hk
    refine ⟨⟨?_, ?_, ?_, ?_, ?_⟩, fun h hh => ?_⟩
    · rw [st2_k (by omega), e 0 (by omega)]; exact q0
    · rw [st2_k (by omega), e 1 (by omega)]; exact q1
    · rw [st2_k (by omega), e 2 (by omega)]; exact q2
    · rw [st2_at, hour_3]
    · rw [st2_k (by omega), e 4 (by omega)]; exact q4
    · rw [e 0 (by omega)] at hh
      rw [st2_a (by omega), st2_a (by omega), st2_a (by omega), e (5 + h) (by omega), e (13 + h) (by omega), e (21 + h) (by omega)]
      exact q5 h hh
