/-! PURE, 6: the street's other small pieces -/
def bcV (x : Int32) : Int32 := ((f_J6_bitCount_0f7a4 x (fun _ _ => 0)).getD (0, fun _ _ => 0)).1
def popc (a : Nat) : Nat := a % 2 + a / 2 % 2 + a / 4 % 2 + a / 8 % 2 + a / 16 % 2 + a / 32 % 2 + a / 64 % 2 + a / 128 % 2
theorem popc_le (a : Nat) : popc a ≤ 8 := by
  unfold popc
  omega
theorem xones {σ : Mem} {a : Nat} (ha : a < 256) : f_J6_bitCount_0f7a4 (nI a) σ = some (nI (popc a), σ) := by
  have key : ∀ a, a < 256 → bcV (nI a) = nI (popc a) := by decide +kernel
  rw [← key a ha]
  rfl
theorem mones_fr {p m1 m2 : Int32} {σ : Mem} : ∀ n m1 m2, f_X8_ones_4 p n m1 m2 σ = (f_X8_ones_4 p n m1 m2 (fun _ _ => 0)).map (fun q => (q.1, σ)) := by
  intro n
  induction n with
  | zero => intro m1 m2; rfl
  | succ n ih =>
    intro m1 m2
    by_cases c : m2 = 0
    · simp only [f_X8_ones_4, c, ↓reduceIte, Option.map_some]
    · simp only [f_X8_ones_4, c, ↓reduceIte, lt_eq]
      exact ih _ _
def onV (p : Int32) : Option Int32 := (f_X8_ones_4 p FU 0 p (fun _ _ => 0)).map (fun q => q.1)
theorem mones {σ : Mem} {a : Nat} (ha : a < 256) : f_X8_ones (nI a) σ = some (nI (popc a), σ) := by
  have key : ∀ a, a < 256 → onV (nI a) = some (nI (popc a)) := by decide +kernel
  have k := key a ha
  unfold f_X8_ones
  rw [lt_eq, lt_eq, mones_fr (m1 := 0) (m2 := 0)]
  unfold onV at k
  cases e : f_X8_ones_4 (nI a) FU 0 (nI a) (fun _ _ => 0) with
  | none => rw [e] at k; cases k
  | some q =>
    rw [e] at k
    show some (q.1, σ) = _
    rw [Option.map_some] at k
    rw [Option.some.inj k]
/-- who leans, as bits -/
def lbits (g : Nat → Nat) : Nat → Nat
  | 0 => 0
  | j + 1 => lbits g j + if 0 < g (21 + j) ∧ g (21 + j) < g 2 then 2 ^ j else 0
def leanG (g : Nat → Nat) : Nat := lbits g (g 0)
theorem lbits_lt (g : Nat → Nat) : ∀ j, lbits g j < 2 ^ j := by
  intro j
  induction j with
  | zero => exact Nat.one_pos
  | succ j ih =>
    rw [lbits, Nat.pow_succ]
    by_cases c : 0 < g (21 + j) ∧ g (21 + j) < g 2
    · rw [if_pos c]; omega
    · rw [if_neg c]; omega
theorem leanG_lt {g : Nat → Nat} (hb : SB g) : leanG g < 256 := by
  have h8 := hb.1
  have h := lbits_lt g (g 0)
  have : 2 ^ g 0 ≤ 2 ^ 8 := Nat.pow_le_pow_right (by decide) h8
  unfold leanG
  omega
theorem xleaning_4 {σ : Mem} {b : Nat} {g : Nat → Nat} (h : RS σ b g) (hb : SB g) : ∀ n j, j ≤ g 0 → g 0 - j < n → f_X5_leaning_4 b n (nI (lbits g j)) (nI j) σ = some (nI (leanG g), σ) := by
  intro n
  induction n with
  | zero => intro j h1 h2; omega
  | succ n ih =>
    intro j h1 h2
    have h8 := hb.1
    by_cases c : j = g 0
    · subst c
      simp (disch := omega) only [f_X5_leaning_4, h.1.1, n_le, Nat.le_refl, ↓reduceIte]
      rfl
    · have hj : j < g 0 := by omega
      have c2 : ¬ g 0 ≤ j := by omega
      have hl := xleans h hb hj
      by_cases c3 : 0 < g (21 + j) ∧ g (21 + j) < g 2
      · rw [if_pos c3] at hl
        have e : lbits g j + 2 ^ j = lbits g (j + 1) := by rw [lbits, if_pos c3]
        simp (disch := omega) only [f_X5_leaning_4, h.1.1, n_le, l_0, l_1, l_31, lt_eq, hl, bd2_some, c2, ↓reduceIte, n_shl, n_or, n_add, n_eq, Nat.reduceEqDiff, or_new (lbits_lt g j), e]
        exact ih (j + 1) (by omega) (by omega)
      · rw [if_neg c3] at hl
        have e : lbits g j = lbits g (j + 1) := by rw [lbits, if_neg c3, Nat.add_zero]
        simp (disch := omega) only [f_X5_leaning_4, h.1.1, n_le, l_0, l_1, l_31, lt_eq, hl, bd2_some, c2, ↓reduceIte, n_or, n_add, Nat.or_zero]
        rw [e]
        exact ih (j + 1) (by omega) (by omega)
theorem xleaning {σ : Mem} {b : Nat} {g : Nat → Nat} (h : RS σ b g) (hb : SB g) : f_X5_leaning b σ = some (nI (leanG g), σ) := by
  have h8 := hb.1
  exact xleaning_4 h hb FU 0 (Nat.zero_le _) (by rw [FU_eq]; omega)
theorem mleaning_4 {σ : Mem} {g : Nat → Nat} (h : RA σ 187 g) (hb : SB g) : ∀ n j, j ≤ g 0 → g 0 - j < n → f_X8_leaning_4 n (nI (lbits g j)) (nI j) σ = some (nI (leanG g), σ) := by
  intro n
  induction n with
  | zero => intro j h1 h2; omega
  | succ n ih =>
    intro j h1 h2
    have h8 := hb.1
    by_cases c : j = g 0
    · subst c
      simp (disch := omega) only [f_X8_leaning_4, l_0, n_ix, ing_ok, h.1.1, n_le, Nat.le_refl, ↓reduceIte]
      rfl
    · have hj : j < g 0 := by omega
      have c2 : ¬ g 0 ≤ j := by omega
      have hl := mleans h hb hj
      by_cases c3 : 0 < g (21 + j) ∧ g (21 + j) < g 2
      · rw [if_pos c3] at hl
        have e : lbits g j + 2 ^ j = lbits g (j + 1) := by rw [lbits, if_pos c3]
        simp (disch := omega) only [f_X8_leaning_4, h.1.1, n_le, n_ix, ing_ok, l_0, l_1, l_31, lt_eq, hl, bd2_some, c2, ↓reduceIte, n_shl, n_or, n_add, n_eq, Nat.reduceEqDiff, or_new (lbits_lt g j), e]
        exact ih (j + 1) (by omega) (by omega)
      · rw [if_neg c3] at hl
        have e : lbits g j = lbits g (j + 1) := by rw [lbits, if_neg c3, Nat.add_zero]
        simp (disch := omega) only [f_X8_leaning_4, h.1.1, n_le, n_ix, ing_ok, l_0, l_1, l_31, lt_eq, hl, bd2_some, c2, ↓reduceIte, n_or, n_add, Nat.or_zero]
        rw [e]
        exact ih (j + 1) (by omega) (by omega)
theorem mleaning {σ : Mem} {g : Nat → Nat} (h : RA σ 187 g) (hb : SB g) : f_X8_leaning σ = some (nI (leanG g), σ) := by
  have h8 := hb.1
  exact mleaning_4 h hb FU 0 (Nat.zero_le _) (by rw [FU_eq]; omega)
/-- the lack of a house -/
def lackG (g : Nat → Nat) (j : Nat) : Nat := if g (21 + j) = 0 then 0 else 99 - g (21 + j)
theorem xlacking {σ : Mem} {b j : Nat} {g : Nat → Nat} (h : RS σ b g) (hb : SB g) (hj : j < g 0) : f_X5_lacking b (nI j) σ = some (nI (lackG g j), σ) := by
  have h8 := hb.1
  have hs := (h.2 j hj).2.2
  have h99 := (hb.2.2.2.2 j hj).2.2
  unfold lackG
  by_cases c : g (21 + j) = 0
  · have c1 : g (21 + j) ≤ 0 := by omega
    simp (disch := omega) only [f_X5_lacking, l_0, n_ix, ing_ok, hs, n_le, c, Nat.le_refl, ↓reduceIte]
  · have c1 : ¬ g (21 + j) ≤ 0 := by omega
    simp (disch := omega) only [f_X5_lacking, l_0, l_99, n_ix, ing_ok, hs, n_le, c1, c, ↓reduceIte, n_sub]
theorem mlackOf {σ : Mem} {j : Nat} {g : Nat → Nat} (h : RA σ 187 g) (hb : SB g) (hj : j < g 0) : f_X8_lackOf (nI j) σ = some (nI (lackG g j), σ) := by
  have h8 := hb.1
  have hs := (h.2 j hj).2.2
  have h99 := (hb.2.2.2.2 j hj).2.2
  have ht := mstands h hb hj
  unfold lackG
  by_cases c : g (21 + j) = 0
  · rw [if_neg (by omega)] at ht
    simp (disch := omega) only [f_X8_lackOf, l_0, ht, bd2_some, c, ↓reduceIte]
  · rw [if_pos (by omega)] at ht
    simp (disch := omega) only [f_X8_lackOf, l_0, l_21, l_99, ht, bd2_some, n_ix, n_add, ing_ok, hs, n_eq, c, ↓reduceIte, n_sub, Nat.reduceEqDiff]
/-- all the spin from house k on, in steps -/
def sumG (g : Nat → Nat) : Nat → Nat
  | 0 => 0
  | j + 1 => sumG g j + g (21 + j)
theorem sumG_le {g : Nat → Nat} (hb : SB g) : ∀ j, j ≤ g 0 → sumG g j ≤ 99 * j := by
  intro j
  induction j with
  | zero => intro _; exact Nat.le_refl _
  | succ j ih =>
    intro hj
    have := (hb.2.2.2.2 j hj).2.2
    have := ih (by omega)
    rw [sumG]
    omega
theorem xallSpin_4 {σ : Mem} {b : Nat} {g : Nat → Nat} (h : RS σ b g) (hb : SB g) : ∀ n j, j ≤ g 0 → g 0 - j < n → f_X5_allSpin_4 b n (nI (sumG g j)) (nI j) σ = some (nI (sumG g (g 0)), σ) := by
  intro n
  induction n with
  | zero => intro j h1 h2; omega
  | succ n ih =>
    intro j h1 h2
    have h8 := hb.1
    by_cases c : j = g 0
    · subst c
      simp (disch := omega) only [f_X5_allSpin_4, h.1.1, n_le, Nat.le_refl, ↓reduceIte]
    · have hj : j < g 0 := by omega
      have c2 : ¬ g 0 ≤ j := by omega
      have hs := (h.2 j hj).2.2
      have e : sumG g j + g (21 + j) = sumG g (j + 1) := rfl
      simp (disch := omega) only [f_X5_allSpin_4, h.1.1, n_le, l_1, n_ix, ing_ok, c2, ↓reduceIte, lt_eq, hs, n_add, e]
      exact ih (j + 1) (by omega) (by omega)
theorem xallSpin {σ : Mem} {b : Nat} {g : Nat → Nat} (h : RS σ b g) (hb : SB g) : f_X5_allSpin b σ = some (nI (sumG g (g 0)), σ) := by
  have h8 := hb.1
  exact xallSpin_4 h hb FU 0 (Nat.zero_le _) (by rw [FU_eq]; omega)
theorem mallSpin_5 {σ : Mem} {g : Nat → Nat} (h : RA σ 187 g) (hb : SB g) : ∀ n j, j ≤ g 0 → g 0 - j < n → f_X8_spinOf_5 (nI 0) (nI 1) n (nI (sumG g j)) (nI j) σ = some (nI (sumG g (g 0)), σ) := by
  intro n
  induction n with
  | zero => intro j h1 h2; omega
  | succ n ih =>
    intro j h1 h2
    have h8 := hb.1
    by_cases c : j = g 0
    · subst c
      simp (disch := omega) only [f_X8_spinOf_5, l_0, n_ix, ing_ok, h.1.1, n_le, Nat.le_refl, ↓reduceIte]
    · have hj : j < g 0 := by omega
      have c2 : ¬ g 0 ≤ j := by omega
      have hs := (h.2 j hj).2.2
      have e : sumG g j + g (21 + j) = sumG g (j + 1) := rfl
      simp (disch := omega) only [f_X8_spinOf_5, h.1.1, n_le, l_0, l_21, n_ix, n_add, ing_ok, c2, ↓reduceIte, lt_eq, hs, e]
      exact ih (j + 1) (by omega) (by omega)
theorem mallSpin {σ : Mem} {g : Nat → Nat} (h : RA σ 187 g) (hb : SB g) : f_X8_spinOf (nI 0) (nI 1) σ = some (nI (sumG g (g 0)), σ) := by
  have h8 := hb.1
  exact mallSpin_5 h hb FU 0 (Nat.zero_le _) (by rw [FU_eq]; omega)
/-- a lash -/
def raiG (g : Nat → Nat) (j v : Nat) : Nat → Nat := sp g j (min 99 (g (21 + j) + v))
theorem rai_SB {g : Nat → Nat} {j v : Nat} (hb : SB g) : SB (raiG g j v) := hb.sp (Nat.min_le_left _ _)
theorem xraise {σ : Mem} {b j v : Nat} {g : Nat → Nat} (h : RS σ b g) (hb : SB g) (hj : j < g 0) (hv : v < 100000) : f_X5_raise b (nI j) (nI v) σ = some (st2 σ (b + 3) j (nI (min 99 (g (21 + j) + v)))) ∧ RS (st2 σ (b + 3) j (nI (min 99 (g (21 + j) + v)))) b (raiG g j v) := by
  have h8 := hb.1
  have hs := (h.2 j hj).2.2
  have h99 := (hb.2.2.2.2 j hj).2.2
  refine ⟨?_, h.sp h8⟩
  simp (disch := omega) only [f_X5_raise, l_99, n_ix, ing_ok, hs, n_add, in_nI, lt_eq]
theorem mlashBy {σ : Mem} {j v : Nat} {g : Nat → Nat} (h : RA σ 187 g) (hb : SB g) (hj : j < g 0) (hv : v < 100000) : f_X8_lashBy (nI j) (nI v) σ = some (st2 σ 187 (21 + j) (nI (min 99 (g (21 + j) + v)))) ∧ RA (st2 σ 187 (21 + j) (nI (min 99 (g (21 + j) + v)))) 187 (raiG g j v) := by
  have h8 := hb.1
  have hs := (h.2 j hj).2.2
  have h99 := (hb.2.2.2.2 j hj).2.2
  refine ⟨?_, h.sp h8⟩
  by_cases c : g (21 + j) + v ≤ 99
  · simp (disch := omega) only [f_X8_lashBy, l_21, l_99, n_ix, n_add, ing_ok, hs, n_le, c, ↓reduceIte, lt_eq]
    rw [Nat.min_eq_right c]
  · simp (disch := omega) only [f_X8_lashBy, l_21, l_99, n_ix, n_add, ing_ok, hs, n_le, c, ↓reduceIte, lt_eq]
    rw [Nat.min_eq_left (by omega)]
/-- hours on end -/
def itG : Nat → (Nat → Nat) → (Nat → Nat)
  | 0, g => g
  | n + 1, g => hourG (itG n g)
theorem it_SB {g : Nat → Nat} (hb : SB g) : ∀ n, SB (itG n g) := by
  intro n
  induction n with
  | zero => exact hb
  | succ n ih => exact hour_SB ih
theorem it_low {g : Nat → Nat} {k : Nat} (hk : k < 21) (h3 : k ≠ 3) : ∀ n, itG n g k = g k := by
  intro n
  induction n with
  | zero => rfl
  | succ n ih => exact (hour_low hk h3).trans ih
theorem it_3 {g : Nat → Nat} : ∀ n, itG n g 3 = g 3 + n := by
  intro n
  induction n with
  | zero => rfl
  | succ n ih =>
    show hourG (itG n g) 3 = _
    rw [hour_3, ih, Nat.add_assoc]
theorem xpassAll_2 {b : Nat} {g : Nat → Nat} {v : Nat} (hb : SB g) (hv : v < 3000) : ∀ n j σ, RS σ b (itG j g) → j ≤ v → v - j < n → ∃ τ, f_X5_passAll_2 b (nI v) n (nI j) σ = some τ ∧ RS τ b (itG v g) ∧ Fr (fun a => a = b ∨ a = b + 3) σ τ := by
  intro n
  induction n with
  | zero => intro j σ _ h1 h2; omega
  | succ n ih =>
    intro j σ hR h1 h2
    by_cases c : j = v
    · subst c
      refine ⟨σ, ?_, hR, Fr.rf⟩
      simp (disch := omega) only [f_X5_passAll_2, n_le, Nat.le_refl, ↓reduceIte]
    · have c2 : ¬ v ≤ j := by omega
      obtain ⟨τ1, a1, a2, a3⟩ := xpass hR (it_SB hb j)
      obtain ⟨τ, t1, t2, t3⟩ := ih (j + 1) τ1 a2 (by omega) (by omega)
      refine ⟨τ, ?_, t2, a3.tr t3⟩
      rw [← t1]
      simp (disch := omega) only [f_X5_passAll_2, n_le, c2, ↓reduceIte, a1, bd_some, lt_eq, l_1, n_add]
theorem xpassAll {b v : Nat} {σ : Mem} {g : Nat → Nat} (hR : RS σ b g) (hb : SB g) (hv : v < 3000) : ∃ τ, f_X5_passAll b (nI v) σ = some τ ∧ RS τ b (itG v g) ∧ Fr (fun a => a = b ∨ a = b + 3) σ τ := xpassAll_2 hb hv FU 0 σ hR (Nat.zero_le _) (by rw [FU_eq]; omega)
theorem mgoOn_2 {g : Nat → Nat} {v : Nat} (hb : SB g) (h1g : 1 ≤ g 0) (hv : v < 3000) : ∀ n j σ, RA σ 187 (itG j g) → j ≤ v → v - j < n → ∃ τ, f_X8_goOn_2 (nI v) n (nI j) σ = some τ ∧ RA τ 187 (itG v g) ∧ Fr (fun a => a = 187) σ τ := by
  intro n
  induction n with
  | zero => intro j σ _ h1 h2; omega
  | succ n ih =>
    intro j σ hR h1 h2
    by_cases c : j = v
    · subst c
      refine ⟨σ, ?_, hR, Fr.rf⟩
      simp (disch := omega) only [f_X8_goOn_2, n_le, Nat.le_refl, ↓reduceIte]
    · have c2 : ¬ v ≤ j := by omega
      obtain ⟨τ1, a1, a2, a3⟩ := mhour hR (it_SB hb j) (by rw [it_low (by omega) (by omega)]; exact h1g)
      obtain ⟨τ, t1, t2, t3⟩ := ih (j + 1) τ1 a2 (by omega) (by omega)
      refine ⟨τ, ?_, t2, a3.tr t3⟩
      rw [← t1]
      simp (disch := omega) only [f_X8_goOn_2, n_le, c2, ↓reduceIte, a1, bd_some, lt_eq, l_1, n_add]
theorem mgoOn {v : Nat} {σ : Mem} {g : Nat → Nat} (hR : RA σ 187 g) (hb : SB g) (h1g : 1 ≤ g 0) (hv : v < 3000) : ∃ τ, f_X8_goOn (nI v) σ = some τ ∧ RA τ 187 (itG v g) ∧ Fr (fun a => a = 187) σ τ := mgoOn_2 hb h1g hv FU 0 σ hR (Nat.zero_le _) (by rw [FU_eq]; omega)
