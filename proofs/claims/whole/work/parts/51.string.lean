/-! PURE, 26: shares of string -/
def lkS (g : Nat → Nat) : Nat → Nat
  | 0 => 0
  | j + 1 => lkS g j + lackG g j
theorem lack_le (g : Nat → Nat) (j : Nat) : lackG g j ≤ 99 := by
  unfold lackG
  split <;> omega
theorem lkS_le (g : Nat → Nat) : ∀ j, lkS g j ≤ 99 * j := by
  intro j
  induction j with
  | zero => exact Nat.le_refl _
  | succ j ih =>
    have := lack_le g j
    rw [lkS]
    omega
def ovI (g : Nat → Nat) (n : Nat) : Nat → Int32
  | 0 => nI n
  | j + 1 => ovI g n j - nI (n * lackG g j / lkS g (g 0))
def befN (g : Nat → Nat) : Nat → Nat
  | 0 => 0
  | j + 1 => befN g j + (if lackG g j = 0 then 0 else 1)
def strX (g : Nat → Nat) (i n : Nat) : Nat := if lackG g i = 0 then 0 else if ovI g n (g 0) ≤ nI (befN g i) then 0 else 1
def strV (g : Nat → Nat) (i n : Nat) : Int32 := if lkS g (g 0) = 0 then nI 0 else nI (n * lackG g i / lkS g (g 0)) + nI (strX g i n)
theorem nl_le {n l : Nat} (hn : n ≤ 999) (hl : l ≤ 99) : n * l ≤ 98901 := Nat.mul_le_mul hn hl
theorem xyards_44 {σ : Mem} {g : Nat → Nat} {i n b : Nat} (hR : RS σ b g) (hb : SB g) (hi : i < g 0) (hn : n ≤ 999) (ha : lkS g (g 0) ≠ 0) : ∀ m j, j ≤ g 0 → g 0 - j < m → f_X5_yards_44 b (nI i) (nI n) m (nI (lkS g (g 0))) (ovI g n j) (nI (befN g (min j i))) (nI j) σ = some (nI (n * lackG g i / lkS g (g 0)) + nI (strX g i n), σ) := by
  intro m
  induction m with
  | zero => intro j _ h; omega
  | succ m ih =>
    intro j h1 h2
    have h8 := hb.1
    have ls := lkS_le g (g 0)
    by_cases c : g 0 ≤ j
    · have e : j = g 0 := by omega
      subst e
      have e2 : min (g 0) i = i := by omega
      rw [e2]
      have nl := nl_le hn (lack_le g i)
      have l9 := lack_le g i
      have fin : ∀ x, f_X5_yards_119 b (nI i) (nI n) (nI (lkS g (g 0))) (nI x) σ = some (nI (n * lackG g i / lkS g (g 0)) + nI x, σ) := fun x => by
        have nz : ¬ nI (lkS g (g 0)) = nI 0 := by rw [n_eq (by omega) (by omega)]; exact ha
        rw [f_X5_yards_119, lt_eq, xlacking hR hb hi, bd2_some, l_0, gd_ok nz, n_mul, n_div (by omega) (by omega) (by omega)]
      unfold strX
      by_cases c1 : lackG g i ≤ 0
      · have c1' : lackG g i = 0 := by omega
        rw [if_pos c1']
        simp (disch := omega) only [f_X5_yards_44, hR.1.1, n_le, Nat.le_refl, ↓reduceIte, xlacking hR hb hi, bd2_some, l_0, l_1, c1, fin]
      · have c1' : ¬ lackG g i = 0 := by omega
        rw [if_neg c1']
        by_cases c2 : ovI g n (g 0) ≤ nI (befN g i)
        · rw [if_pos c2]
          simp (disch := omega) only [f_X5_yards_44, hR.1.1, n_le, Nat.le_refl, ↓reduceIte, xlacking hR hb hi, bd2_some, l_0, l_1, c1, c2, fin]
        · rw [if_neg c2]
          simp (disch := omega) only [f_X5_yards_44, hR.1.1, n_le, Nat.le_refl, ↓reduceIte, xlacking hR hb hi, bd2_some, l_0, l_1, c1, c2, fin]
    · rw [← ih (j + 1) (by omega) (by omega)]
      have hj : j < g 0 := by omega
      have nl := nl_le hn (lack_le g j)
      have l9 := lack_le g j
      have nz : ¬ nI (lkS g (g 0)) = nI 0 := by rw [n_eq (by omega) (by omega)]; exact ha
      have gk : ∀ k : Option (Int32 × Mem), gd (¬ nI (lkS g (g 0)) = nI 0) k = k := fun k => gd_ok nz
      rw [ovI]
      by_cases c3 : i ≤ j
      · have e1 : min (j + 1) i = i := by omega
        have e2 : min j i = i := by omega
        rw [e1, e2]
        simp (disch := omega) only [f_X5_yards_44, hR.1.1, n_le, c, c3, ↓reduceIte, xlacking hR hb hj, bd2_some, l_0, l_1, gk, lt_eq, n_mul, n_div, n_add, Nat.add_zero]
      · have e1 : min (j + 1) i = j + 1 := by omega
        have e2 : min j i = j := by omega
        rw [e1, e2, befN]
        by_cases c4 : lackG g j ≤ 0
        · have c4' : lackG g j = 0 := by omega
          rw [if_pos c4']
          simp (disch := omega) only [f_X5_yards_44, hR.1.1, n_le, c, c3, c4, ↓reduceIte, xlacking hR hb hj, bd2_some, l_0, l_1, gk, lt_eq, n_mul, n_div, n_add]
        · have c4' : ¬ lackG g j = 0 := by omega
          rw [if_neg c4']
          simp (disch := omega) only [f_X5_yards_44, hR.1.1, n_le, c, c3, c4, ↓reduceIte, xlacking hR hb hj, bd2_some, l_0, l_1, gk, lt_eq, n_mul, n_div, n_add]
theorem xyards_5 {σ : Mem} {g : Nat → Nat} {i n b : Nat} (hR : RS σ b g) (hb : SB g) (hi : i < g 0) (hn : n ≤ 999) : ∀ m j, j ≤ g 0 → g 0 - j < m → f_X5_yards_5 b (nI i) (nI n) m (nI (lkS g j)) (nI j) σ = some (strV g i n, σ) := by
  intro m
  induction m with
  | zero => intro j _ h; omega
  | succ m ih =>
    intro j h1 h2
    have h8 := hb.1
    have ls := lkS_le g (g 0)
    by_cases c : g 0 ≤ j
    · have e : j = g 0 := by omega
      subst e
      unfold strV
      by_cases c1 : lkS g (g 0) = 0
      · rw [if_pos c1]
        simp (disch := omega) only [f_X5_yards_5, hR.1.1, n_le, Nat.le_refl, n_eq, l_0, c1, ↓reduceIte]
      · rw [if_neg c1]
        have w := xyards_44 (n := n) hR hb hi hn c1 FU 0 (Nat.zero_le _) (by rw [FU_eq]; omega)
        rw [show min 0 i = 0 by omega] at w
        rw [f_X5_yards_5, hR.1.1, if_pos ((n_le (by omega) (by omega)).mpr (Nat.le_refl _)), l_0, if_neg (by rw [n_eq (by omega) (by omega)]; exact c1), lt_eq, lt_eq, lt_eq]
        exact w
    · have hj : j < g 0 := by omega
      rw [← ih (j + 1) (by omega) (by omega), lkS]
      simp (disch := omega) only [f_X5_yards_5, hR.1.1, n_le, c, ↓reduceIte, xlacking hR hb hj, bd2_some, l_1, lt_eq, n_add]
theorem mstring_104 {σ : Mem} {g : Nat → Nat} {i n : Nat} (hR : RA σ 187 g) (hb : SB g) (hi : i < g 0) (hn : n ≤ 999) (ha : lkS g (g 0) ≠ 0) : ∀ m j, j ≤ i → i - j < m → f_X8_string_104 (nI i) (nI n) m (nI (lkS g (g 0))) (ovI g n (g 0)) (nI (befN g j)) (nI j) σ = some (nI (n * lackG g i / lkS g (g 0)) + nI (strX g i n), σ) := by
  intro m
  induction m with
  | zero => intro j _ h; omega
  | succ m ih =>
    intro j h1 h2
    have h8 := hb.1
    have ls := lkS_le g (g 0)
    have nz : ¬ nI (lkS g (g 0)) = nI 0 := by rw [n_eq (by omega) (by omega)]; exact ha
    have gk : ∀ k : Option (Int32 × Mem), gd (¬ nI (lkS g (g 0)) = nI 0) k = k := fun k => gd_ok nz
    by_cases c : i ≤ j
    · have e : j = i := by omega
      subst e
      have nl := nl_le hn (lack_le g j)
      have l9 := lack_le g j
      unfold strX
      by_cases c1 : lackG g j ≤ 0
      · have c1' : lackG g j = 0 := by omega
        rw [if_pos c1']
        simp (disch := omega) only [f_X8_string_104, n_le, Nat.le_refl, ↓reduceIte, mlackOf hR hb hi, bd2_some, l_0, gk, c1, n_mul, n_div]
      · have c1' : ¬ lackG g j = 0 := by omega
        rw [if_neg c1']
        by_cases c2 : ovI g n (g 0) ≤ nI (befN g j)
        · rw [if_pos c2]
          simp (disch := omega) only [f_X8_string_104, n_le, Nat.le_refl, ↓reduceIte, mlackOf hR hb hi, bd2_some, l_0, gk, c1, c2, n_mul, n_div]
        · rw [if_neg c2]
          simp (disch := omega) only [f_X8_string_104, n_le, Nat.le_refl, ↓reduceIte, mlackOf hR hb hi, bd2_some, l_0, l_1, gk, c1, c2, n_mul, n_div]
    · have hj : j < g 0 := by omega
      rw [← ih (j + 1) (by omega) (by omega), befN]
      have l9 := lack_le g j
      by_cases c4 : lackG g j ≤ 0
      · have c4' : lackG g j = 0 := by omega
        rw [if_pos c4']
        simp (disch := omega) only [f_X8_string_104, n_le, c, c4, ↓reduceIte, mlackOf hR hb hj, bd2_some, l_0, l_1, lt_eq, n_add]
      · have c4' : ¬ lackG g j = 0 := by omega
        rw [if_neg c4']
        simp (disch := omega) only [f_X8_string_104, n_le, c, c4, ↓reduceIte, mlackOf hR hb hj, bd2_some, l_0, l_1, lt_eq, n_add]
theorem mstring_66 {σ : Mem} {g : Nat → Nat} {i n : Nat} (hR : RA σ 187 g) (hb : SB g) (hi : i < g 0) (hn : n ≤ 999) (ha : lkS g (g 0) ≠ 0) : ∀ m j, j ≤ g 0 → g 0 - j < m → f_X8_string_66 (nI i) (nI n) m (nI (lkS g (g 0))) (ovI g n j) (nI j) σ = some (nI (n * lackG g i / lkS g (g 0)) + nI (strX g i n), σ) := by
  intro m
  induction m with
  | zero => intro j _ h; omega
  | succ m ih =>
    intro j h1 h2
    have h8 := hb.1
    have ls := lkS_le g (g 0)
    have nz : ¬ nI (lkS g (g 0)) = nI 0 := by rw [n_eq (by omega) (by omega)]; exact ha
    have gk : ∀ k : Option (Int32 × Mem), gd (¬ nI (lkS g (g 0)) = nI 0) k = k := fun k => gd_ok nz
    by_cases c : g 0 ≤ j
    · have e : j = g 0 := by omega
      subst e
      have w := mstring_104 (n := n) hR hb hi hn ha FU 0 (Nat.zero_le _) (by rw [FU_eq]; omega)
      rw [f_X8_string_66, l_0, ing_ok (by omega) (by omega), n_ix (by omega), hR.1.1, if_pos ((n_le (by omega) (by omega)).mpr (Nat.le_refl _)), lt_eq, lt_eq]
      exact w
    · have hj : j < g 0 := by omega
      have nl := nl_le hn (lack_le g j)
      have l9 := lack_le g j
      rw [← ih (j + 1) (by omega) (by omega), ovI]
      simp (disch := omega) only [f_X8_string_66, hR.1.1, n_ix, ing_ok, n_le, c, ↓reduceIte, mlackOf hR hb hj, bd2_some, l_0, l_1, gk, lt_eq, n_mul, n_div, n_add]
theorem mstring_28 {σ : Mem} {g : Nat → Nat} {i n : Nat} (hR : RA σ 187 g) (hb : SB g) (hi : i < g 0) (hn : n ≤ 999) : ∀ m j, j ≤ g 0 → g 0 - j < m → f_X8_string_28 (nI i) (nI n) m (nI (lkS g j)) (nI j) σ = some (strV g i n, σ) := by
  intro m
  induction m with
  | zero => intro j _ h; omega
  | succ m ih =>
    intro j h1 h2
    have h8 := hb.1
    have ls := lkS_le g (g 0)
    by_cases c : g 0 ≤ j
    · have e : j = g 0 := by omega
      subst e
      unfold strV
      by_cases c1 : lkS g (g 0) = 0
      · rw [if_pos c1]
        simp (disch := omega) only [f_X8_string_28, hR.1.1, n_ix, ing_ok, n_le, Nat.le_refl, n_eq, l_0, c1, ↓reduceIte]
      · rw [if_neg c1]
        have w := mstring_66 (n := n) hR hb hi hn c1 FU 0 (Nat.zero_le _) (by rw [FU_eq]; omega)
        rw [f_X8_string_28, l_0, ing_ok (by omega) (by omega), n_ix (by omega), hR.1.1, if_pos ((n_le (by omega) (by omega)).mpr (Nat.le_refl _)), if_neg (by rw [n_eq (by omega) (by omega)]; exact c1), lt_eq, lt_eq]
        exact w
    · have hj : j < g 0 := by omega
      rw [← ih (j + 1) (by omega) (by omega), lkS]
      simp (disch := omega) only [f_X8_string_28, hR.1.1, n_ix, ing_ok, n_le, c, ↓reduceIte, mlackOf hR hb hj, bd2_some, l_0, l_1, lt_eq, n_add]
theorem both_string (p q : Int32) : BOTH (f_X7_string p q) (f_X8_string p q) := by
  intro s hs
  have h8 := hs.og.1.1
  have hb := hs.og.1
  by_cases c0 : hous p (s.g 0)
  · obtain ⟨j, rfl, hj⟩ := c0
    have d := Classical.propDecidable (rng q 0 999)
    have hx : ∀ σ, f_X7_within q (nI 0) 999 σ = some (if rng q 0 999 then nI 1 else nI 0, σ) := fun σ => by rw [l_999]; exact xin_rng (by decide) (by decide)
    have hy : ∀ σ, f_X8_in q.toInt64 0 999 σ = some (if rng q 0 999 then nI 1 else nI 0, σ) := fun σ => min_rng (a := 0) (b := 999) rfl rfl (by decide)
    by_cases c : rng q 0 999
    · have c' := c
      obtain ⟨v, rfl, -, hv⟩ := c'
      refine ⟨strV s.g j v, s, hs, XS.rf fun σ hc => ?_, MS.rf fun σ hm => ?_⟩
      · have w : f_X5_yards 8 (nI j) (nI v) σ = some (strV s.g j v, σ) := by
          unfold f_X5_yards
          rw [lt_eq, lt_eq]
          exact xyards_5 hc.c1 hb hj hv FU 0 (Nat.zero_le _) (by rw [FU_eq]; omega)
        simp (disch := omega) only [f_X7_string, xhouse_y hs hj hc, hx, c, bd2_some, l_0, n_eq, ↓reduceIte, Nat.reduceEqDiff, w]
      · unfold f_X8_string
        rw [mhouse_y hs hj hm, bd2_some, if_neg (by decide), hy, if_pos c, bd2_some, if_neg (by decide), lt_eq, lt_eq]
        exact mstring_28 hm.m1 hb hj hv FU 0 (Nat.zero_le _) (by rw [FU_eq]; omega)
    · refine ⟨-1000001, s, hs, XS.rf fun σ hc => ?_, MS.rf fun σ hm => ?_⟩
      · simp (disch := omega) only [f_X7_string, xhouse_y hs hj hc, hx, c, bd2_some, l_0, n_eq, Nat.reduceEqDiff, ↓reduceIte]
      · simp (disch := omega) only [f_X8_string, mhouse_y hs hj hm, hy, c, bd2_some, l_0, n_eq, Nat.reduceEqDiff, ↓reduceIte]
  · refine ⟨-1000001, s, hs, XS.rf fun σ hc => ?_, MS.rf fun σ hm => ?_⟩
    · simp only [f_X7_string, xhouse_n hs c0 hc, bd2_some, l_0, ↓reduceIte]
    · simp only [f_X8_string, mhouse_n hs c0 hm, bd2_some, l_0, ↓reduceIte]
