/-! PURE, 34: counting bits, powers, the common divisor -/
def cntB (a : Nat) : Nat → Nat
  | 0 => 0
  | j + 1 => cntB a j + a / 2 ^ j % 2
theorem popc_cnt (a : Nat) : popc a = cntB a 8 := by
  simp only [cntB, popc, Nat.reducePow, Nat.div_one, Nat.zero_add, Nat.pow_zero, Nat.pow_one]
theorem cntB_top {a n : Nat} (h : a < 2 ^ n) : ∀ k, cntB a (n + k) = cntB a n := by
  intro k
  induction k with
  | zero => rfl
  | succ k ih =>
    have h2 : 2 ^ n ≤ 2 ^ (n + k) := Nat.pow_le_pow_right (by decide) (by omega)
    rw [← Nat.add_assoc, cntB, ih, Nat.div_eq_of_lt (Nat.lt_of_lt_of_le h h2)]
    rfl
theorem popc_n {a n : Nat} (h : a < 2 ^ n) (h8 : n ≤ 8) : popc a = cntB a n := by
  have := cntB_top h (8 - n)
  rw [popc_cnt, ← this, show n + (8 - n) = 8 by omega]
def subN (s c : Nat) : Nat := s &&& (2 ^ 32 - (c + 1))
theorem subN_le (s c : Nat) : subN s c ≤ s := Nat.and_le_left
theorem n_subN {s c : Nat} (hs : s < 2147483648) (hc : c < 2147483648) : nI s &&& (nI c ^^^ (-1 : Int32)) = nI (subN s c) := n_andnot (by omega) (by omega)
theorem sub_tb {s c : Nat} (hc : c < 2147483648) (h : subN s c = 0) {k : Nat} (hk : k < 32) (hb : s.testBit k = true) : c.testBit k = true := by
  have e := fell_tb (a := s) (b := c) (h := k) (by omega) hk
  have e0 : (s &&& (2 ^ 32 - (c + 1))) = 0 := h
  rw [e0, Nat.zero_testBit, hb] at e
  cases e2 : c.testBit k
  · rw [e2] at e; cases e
  · rfl
theorem sub_bit {s c : Nat} (hc : c < 2147483648) (h : subN s c = 0) {k : Nat} (hk : k < 32) : s / 2 ^ k % 2 ≤ c / 2 ^ k % 2 := by
  have h1 : s / 2 ^ k % 2 < 2 := Nat.mod_lt _ (by decide)
  by_cases e : s / 2 ^ k % 2 = 1
  · have t := sub_tb hc h hk (by rw [tb_div, e]; rfl)
    rw [tb_div, decide_eq_true_eq] at t
    omega
  · omega
theorem sub_le {s c : Nat} (hs : s < 2147483648) (hc : c < 2147483648) (h : subN s c = 0) : s ≤ c := by
  have e : s &&& c = s := by
    apply Nat.eq_of_testBit_eq
    intro k
    rw [Nat.testBit_and]
    cases e : s.testBit k
    · rfl
    · by_cases hk : k < 32
      · rw [sub_tb hc h hk e]; rfl
      · have := Nat.testBit_lt_two_pow (x := s) (i := k) (Nat.lt_of_lt_of_le (show s < 2 ^ 32 by omega) (Nat.pow_le_pow_right (by decide) (by omega)))
        rw [this] at e; cases e
  rw [← e]
  exact Nat.and_le_right
theorem sub_cnt {s c : Nat} (hc : c < 2147483648) (h : subN s c = 0) : ∀ j, j ≤ 32 → cntB s j ≤ cntB c j := by
  intro j
  induction j with
  | zero => intro _; exact Nat.le_refl _
  | succ j ih =>
    intro hj
    have := ih (by omega)
    have := sub_bit hc h (k := j) (by omega)
    rw [cntB, cntB]
    omega
/-- the product of the cases, house by house -/
def partN (p s c j : Nat) : Nat := p ^ cntB s j * (10 - p) ^ (cntB c j - cntB s j)
theorem part_n {p s c j : Nat} (h1 : c / 2 ^ j % 2 = 0) (h2 : s / 2 ^ j % 2 = 0) : partN p s c (j + 1) = partN p s c j := by
  unfold partN
  rw [cntB, cntB, h1, h2, Nat.add_zero, Nat.add_zero]
theorem part_y {p s c j : Nat} (h1 : c / 2 ^ j % 2 = 1) (h2 : s / 2 ^ j % 2 = 1) : partN p s c (j + 1) = partN p s c j * p := by
  unfold partN
  rw [cntB, cntB, h1, h2, Nat.add_sub_add_right, Nat.pow_succ, Nat.mul_right_comm]
theorem part_q {p s c j : Nat} (h1 : c / 2 ^ j % 2 = 1) (h2 : s / 2 ^ j % 2 = 0) (h3 : cntB s j ≤ cntB c j) : partN p s c (j + 1) = partN p s c j * (10 - p) := by
  unfold partN
  rw [cntB, cntB, h1, h2, Nat.add_zero, show cntB c j + 1 - cntB s j = cntB c j - cntB s j + 1 by omega, Nat.pow_succ, Nat.mul_assoc]
theorem xpower_5 {b e : Nat} {σ : Mem} (hb : b ≤ 10) (he : e ≤ 8) : ∀ m j, j ≤ e → e - j < m → f_X2_power_5 (nI b) (nI e) m (lN (b ^ j)) (nI j) σ = some (lN (b ^ e), σ) := by
  intro m
  induction m with
  | zero => intro j _ h; omega
  | succ m ih =>
    intro j h1 h2
    by_cases c : e ≤ j
    · have e2 : j = e := by omega
      subst e2
      rw [f_X2_power_5, if_pos ((n_le (by omega) (by omega)).mpr (Nat.le_refl _))]
    · rw [f_X2_power_5, if_neg (by rw [n_le (by omega) (by omega)]; exact c), L_w (by omega), lN_mul, lt_eq, lt_eq, l_1, n_add, ← Nat.pow_succ]
      exact ih (j + 1) (by omega) (by omega)
theorem xpower {b e : Nat} {σ : Mem} (hb : b ≤ 10) (he : e ≤ 8) : f_X2_power (nI b) (nI e) σ = some (lN (b ^ e), σ) := by
  unfold f_X2_power
  rw [lt_eq, lt_eq, L_1]
  exact xpower_5 hb he FU 0 (Nat.zero_le _) (by rw [FU_eq]; omega)
theorem L_pos {b : Nat} (hb : b < 9223372036854775808) : (lg_cmp (lN b) (0 : Int64)) ≤ 0 ↔ b = 0 := by
  rw [lg_cmp_le, L_0, pk_lLE (by omega) (by omega)]
  omega
theorem half_rem {r b : Nat} (h0 : 0 < r) (h : r < b) : 2 * (b % r) < b := by
  by_cases c : 2 * r ≤ b
  · have := Nat.mod_lt b h0
    omega
  · have e : b % r = b - r := by
      rw [Nat.mod_eq_sub_mod (by omega), Nat.mod_eq_of_lt (by omega)]
    omega
theorem gcd_step (a b : Nat) : Nat.gcd a b = Nat.gcd b (a % b) := by
  rw [Nat.gcd_comm, Nat.gcd_rec, Nat.gcd_comm]
theorem xgcd_z {a c m : Nat} {p0 p2 : Int64} {σ : Mem} (hc : c < 1000) : f_X2_commonDivisor_9 p0 p2 (m + 1) (lN a) (lN 0) (nI c) σ = some (lmax 1 (lN a), σ) := by
  have l1000 : (1000 : Int32) = nI 1000 := by decide +kernel
  rw [f_X2_commonDivisor_9, l1000, if_neg (by rw [n_le (by omega) (by omega)]; omega), if_pos ((L_pos (by omega)).mpr rfl)]
  rfl
theorem xgcd_s {a b c m : Nat} {p0 p2 : Int64} {σ : Mem} (hc : c < 1000) (ha : a < 9223372036854775808) (hb : b < 9223372036854775808) (h0 : 0 < b) : f_X2_commonDivisor_9 p0 p2 (m + 1) (lN a) (lN b) (nI c) σ = f_X2_commonDivisor_9 p0 p2 m (lN b) (lN (a % b)) (nI (c + 1)) σ := by
  have l1000 : (1000 : Int32) = nI 1000 := by decide +kernel
  have nz : ¬ lN b = 0 := by rw [L_0, L_eq hb (by omega)]; omega
  rw [f_X2_commonDivisor_9, l1000, if_neg (by rw [n_le (by omega) (by omega)]; omega), if_neg (by rw [L_pos hb]; omega), gd_ok nz, L_rem ha h0 hb, lt_eq, lt_eq, lt_eq, lt_eq, l_1, n_add]
theorem xgcd_9 {p0 p2 : Int64} {σ : Mem} : ∀ k a b c m, b < 2 ^ k → a < 9223372036854775808 → b < 9223372036854775808 → c + 2 * k < 999 → 2 * k < m → f_X2_commonDivisor_9 p0 p2 m (lN a) (lN b) (nI c) σ = some (lmax 1 (lN (Nat.gcd a b)), σ) := by
  intro k
  induction k with
  | zero =>
    intro a b c m h1 h2 h3 h4 h5
    have e : b = 0 := by omega
    subst e
    obtain ⟨m', rfl⟩ : ∃ m', m = m' + 1 := ⟨m - 1, by omega⟩
    rw [xgcd_z (by omega), Nat.gcd_zero_right]
  | succ k ih =>
    intro a b c m h1 h2 h3 h4 h5
    obtain ⟨m', rfl⟩ : ∃ m', m = m' + 1 + 1 := ⟨m - 2, by omega⟩
    by_cases e : b = 0
    · subst e
      rw [xgcd_z (by omega), Nat.gcd_zero_right]
    · have hr := Nat.mod_lt a (show 0 < b by omega)
      rw [xgcd_s (by omega) h2 h3 (by omega), gcd_step]
      by_cases e2 : a % b = 0
      · rw [e2, xgcd_z (by omega), Nat.gcd_zero_right]
      · have h7 := half_rem (show 0 < a % b by omega) hr
        rw [xgcd_s (by omega) h3 (by omega) (by omega), gcd_step]
        rw [Nat.pow_succ] at h1
        exact ih (a % b) (b % (a % b)) (c + 1 + 1) m' (by omega) (by omega) (by omega) (by omega) (by omega)
theorem lmax_1 {d : Nat} (h1 : 1 ≤ d) (hd : d < 9223372036854775808) : lmax 1 (lN d) = lN d := by
  unfold lmax
  rw [if_neg]
  rw [L_1, pk_lLT (by omega) (by omega)]
  omega
theorem xgcd {a b : Nat} {σ : Mem} (h1 : 1 ≤ a) (ha : a < 9223372036854775808) (hb : b < 34359738368) : f_X2_commonDivisor (lN a) (lN b) σ = some (lN (Nat.gcd a b), σ) := by
  have hg : Nat.gcd a b ≤ a := Nat.gcd_le_left b (by omega)
  have hp : 0 < Nat.gcd a b := Nat.gcd_pos_of_pos_left b (by omega)
  unfold f_X2_commonDivisor
  rw [lt_eq, lt_eq, lt_eq, l_0, xgcd_9 35 a b 0 FU (by omega) ha (by omega) (by omega) (by rw [FU_eq]; omega), lmax_1 hp (by omega)]
/-- the reference's divisor -/
def finC (p4 : Int32) (m6 m8 : Int64) (d : Nat) (σ : Mem) : Option (Int64 × Mem) := if p4 = 0 then some (m6 / lN d, σ) else some (m8 / lN d, σ)
theorem mgcd_z {a m : Nat} {p1 p2 p3 p4 : Int32} {m6 m8 : Int64} {σ : Mem} (h1 : 1 ≤ a) (ha : a < 9223372036854775808) : f_X8_crack_250 p1 p2 p3 p4 (m + 1) m6 m8 (lN a) (lN 0) σ = finC p4 m6 m8 a σ := by
  have nz : ¬ lN a = 0 := by rw [L_0, L_eq ha (by omega)]; omega
  rw [f_X8_crack_250, if_pos (lg_e.mpr L_0.symm), gd_ok nz, gd_ok nz]
  rfl
theorem mgcd_s {a b m : Nat} {p1 p2 p3 p4 : Int32} {m6 m8 : Int64} {σ : Mem} (ha : a < 9223372036854775808) (hb : b < 9223372036854775808) (h0 : 0 < b) : f_X8_crack_250 p1 p2 p3 p4 (m + 1) m6 m8 (lN a) (lN b) σ = f_X8_crack_250 p1 p2 p3 p4 m m6 m8 (lN b) (lN (a % b)) σ := by
  have nz : ¬ lN b = 0 := by rw [L_0, L_eq hb (by omega)]; omega
  rw [f_X8_crack_250, if_neg (fun w => nz (lg_e.mp w)), gd_ok nz, L_rem ha h0 hb, lt_eq, lt_eq, lt_eq]
theorem mgcd_250 {p1 p2 p3 p4 : Int32} {m6 m8 : Int64} {σ : Mem} : ∀ k a b m, b < 2 ^ k → 1 ≤ a ∨ 1 ≤ b → a < 9223372036854775808 → b < 9223372036854775808 → 2 * k < m → f_X8_crack_250 p1 p2 p3 p4 m m6 m8 (lN a) (lN b) σ = finC p4 m6 m8 (Nat.gcd a b) σ := by
  intro k
  induction k with
  | zero =>
    intro a b m h1 h6 h2 h3 h5
    have e : b = 0 := by omega
    subst e
    obtain ⟨m', rfl⟩ : ∃ m', m = m' + 1 := ⟨m - 1, by omega⟩
    rw [mgcd_z (by omega) h2, Nat.gcd_zero_right]
  | succ k ih =>
    intro a b m h1 h6 h2 h3 h5
    obtain ⟨m', rfl⟩ : ∃ m', m = m' + 1 + 1 := ⟨m - 2, by omega⟩
    by_cases e : b = 0
    · subst e
      rw [mgcd_z (by omega) h2, Nat.gcd_zero_right]
    · have hr := Nat.mod_lt a (show 0 < b by omega)
      rw [mgcd_s h2 h3 (by omega), gcd_step]
      by_cases e2 : a % b = 0
      · rw [e2, mgcd_z (by omega) h3, Nat.gcd_zero_right]
      · have h7 := half_rem (show 0 < a % b by omega) hr
        rw [mgcd_s h3 (by omega) (by omega), gcd_step]
        rw [Nat.pow_succ] at h1
        exact ih (a % b) (b % (a % b)) m' (by omega) (by omega) (by omega) (by omega) (by omega)
