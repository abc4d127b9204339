/-! PURE, 24: foretold: who falls first -/
theorem losG_dead {g : Nat → Nat} {h : Nat} (h0 : g (21 + h) = 0) : ∀ n, losG g n (21 + h) = 0 := by
  intro n
  induction n with
  | zero => exact h0
  | succ n ih =>
    rw [losG]
    by_cases e : h = n
    · subst e
      rw [sp_at, h0, Nat.zero_sub]
    · rw [sp_ne (by omega)]; exact ih
theorem walG_dead {g : Nat → Nat} {h : Nat} (h0 : g (21 + h) = 0) : ∀ n, walG g n (21 + h) = 0 := by
  intro n
  induction n with
  | zero => exact h0
  | succ n ih =>
    rw [walG]
    by_cases c : walG g n 4 / 2 ^ n % 2 = 1 ∧ 0 < walG g n (21 + n) ∧ 0 < walG g n (21 + (n + 1))
    · have e1 : h ≠ n := fun e => by subst e; omega
      have e2 : h ≠ n + 1 := fun e => by subst e; omega
      rw [if_pos c]
      split
      · rw [sp_ne (by omega), sp_ne (by omega)]; exact ih
      · rw [sp_ne (by omega), sp_ne (by omega)]; exact ih
    · rw [if_neg c]; exact ih
theorem falG_dead {g : Nat → Nat} {st h : Nat} (h0 : g (21 + h) = 0) : ∀ n, falG st g n (21 + h) = 0 := by
  intro n
  induction n with
  | zero => exact h0
  | succ n ih =>
    rw [falG]
    split
    · by_cases e : h = n + 1
      · subst e
        rw [sp_at, ih, Nat.zero_sub]
      · rw [sp_ne (by omega)]; exact ih
    · exact ih
theorem hour_dead {g : Nat → Nat} {h : Nat} (h0 : g (21 + h) = 0) : hourG g (21 + h) = 0 := by
  unfold hourG
  rw [if_neg (by omega)]
  exact falG_dead (walG_dead (losG_dead h0 _) _) _
theorem it_dead {g : Nat → Nat} {h : Nat} (h0 : g (21 + h) = 0) : ∀ n, itG n g (21 + h) = 0 := by
  intro n
  induction n with
  | zero => exact h0
  | succ n ih => exact hour_dead ih
theorem sbits_tb (g : Nat → Nat) (h : Nat) : ∀ j, (sbits g j).testBit h = decide (h < j ∧ 0 < g (21 + h)) := by
  intro j
  induction j with
  | zero => simp [sbits]
  | succ j ih =>
    rw [sbits]
    by_cases c : 0 < g (21 + j)
    · rw [if_pos c, Nat.add_comm]
      rcases Nat.lt_trichotomy h j with e | e | e
      · rw [Nat.testBit_two_pow_add_gt e, ih]
        have : h < j + 1 := by omega
        simp [e, this]
      · subst e
        rw [Nat.testBit_two_pow_add_eq, ih]
        simp [c]
      · have h1 : 2 ^ j + sbits g j < 2 ^ h := by
          have h2 := sbits_lt g j
          have h3 : 2 ^ (j + 1) ≤ 2 ^ h := Nat.pow_le_pow_right (by decide) e
          rw [Nat.pow_succ] at h3
          omega
        rw [Nat.testBit_lt_two_pow h1]
        have : ¬ h < j + 1 := by omega
        simp [this]
    · rw [if_neg c, Nat.add_zero, ih]
      by_cases e : h = j
      · subst e
        simp [c]
      · have : h < j ↔ h < j + 1 := by omega
        simp [this]
theorem tb_div (a h : Nat) : a.testBit h = decide (a / 2 ^ h % 2 = 1) := Nat.testBit_eq_decide_div_mod_eq
/-- the first of the first k that stood and is fallen; k -/
def felK (g g' : Nat → Nat) : Nat → Nat
  | 0 => 0
  | k + 1 => if felK g g' k < k then felK g g' k else if 0 < g (21 + k) ∧ g' (21 + k) = 0 then k else k + 1
theorem felK_le (g g' : Nat → Nat) : ∀ k, felK g g' k ≤ k := by
  intro k
  induction k with
  | zero => exact Nat.le_refl _
  | succ k ih =>
    rw [felK]
    repeat' split
    all_goals omega
theorem felK_y (g g' : Nat → Nat) : ∀ k, felK g g' k < k → 0 < g (21 + felK g g' k) ∧ g' (21 + felK g g' k) = 0 := by
  intro k
  induction k with
  | zero => intro h; omega
  | succ k ih =>
    intro h
    rw [felK] at h ⊢
    by_cases c : felK g g' k < k
    · rw [if_pos c]; exact ih c
    · rw [if_neg c] at h ⊢
      by_cases c2 : 0 < g (21 + k) ∧ g' (21 + k) = 0
      · rw [if_pos c2]; exact c2
      · rw [if_neg c2] at h; omega
theorem felK_n (g g' : Nat → Nat) : ∀ k h, h < felK g g' k → ¬ (0 < g (21 + h) ∧ g' (21 + h) = 0) := by
  intro k
  induction k with
  | zero => intro h hh; rw [felK] at hh; omega
  | succ k ih =>
    intro h hh
    have l := felK_le g g' k
    rw [felK] at hh
    by_cases c : felK g g' k < k
    · rw [if_pos c] at hh; exact ih h hh
    · rw [if_neg c] at hh
      by_cases c2 : 0 < g (21 + k) ∧ g' (21 + k) = 0
      · rw [if_pos c2] at hh; exact ih h (by omega)
      · rw [if_neg c2] at hh
        by_cases e : h = k
        · rw [e]; exact c2
        · exact ih h (by omega)
def felN (g g' : Nat → Nat) : Nat := felK g g' (g 0)
/-- the class's look at all houses -/
theorem xfirst_26 {σ : Mem} {g g' : Nat → Nat} {what : Nat} {m3 : Int32} {K : Int32 → Mem → Option (Int32 × Mem)} (hR : RS σ 8 g) (hT : RS σ 112 g') (hb : SB g) (hb' : SB g') (h0 : g' 0 = g 0) (hw : what ≤ 1) : ∀ n j, j ≤ felN g g' → j ≤ g 0 → g 0 - j < n → f_X2_firstToFall_26 8 (nI what) K n m3 (nI j) σ = if felN g g' < g 0 then some (if what = 0 then nI (felN g g') else m3, σ) else K (m3 + nI 1) σ := by
  intro n
  induction n with
  | zero => intro j h1 h2 h3; omega
  | succ n ih =>
    intro j h1 h2 h3
    have h8 := hb.1
    by_cases c : j = g 0
    · subst c
      rw [if_neg (by omega)]
      simp (disch := omega) only [f_X2_firstToFall_26, hR.1.1, n_le, Nat.le_refl, ↓reduceIte, lt_eq, l_1]
    · have c2 : ¬ g 0 ≤ j := by omega
      have s1 := (hR.2 j (by omega)).2.2
      have s2 := (hT.2 j (by omega)).2.2
      have b1 := (hb.2.2.2.2 j (by omega)).2.2
      have b2 := (hb'.2.2.2.2 j (by omega)).2.2
      by_cases e : j = felN g g'
      · have y := felK_y g g' (g 0) (by show felN g g' < g 0; omega)
        have y1 : 0 < g (21 + felN g g') := y.1
        have y2 : g' (21 + felN g g') = 0 := y.2
        rw [← e] at y1 y2
        have c3 : ¬ g (21 + j) ≤ 0 := by omega
        rw [y2] at s2
        rw [if_pos (by omega), ← e]
        rcases (by omega : what = 0 ∨ what = 1) with rfl | rfl
        all_goals simp (disch := omega) only [f_X2_firstToFall_26, hR.1.1, n_le, n_eq, c2, c3, ↓reduceIte, lt_eq, l_0, n_ix, ing_ok, s1, s2, Nat.reduceEqDiff]
      · have nq := felK_n g g' (g 0) j (by show j < felN g g'; omega)
        rw [← ih (j + 1) (by omega) (by omega) (by omega)]
        by_cases c3 : g (21 + j) ≤ 0
        · simp (disch := omega) only [f_X2_firstToFall_26, hR.1.1, n_le, c2, c3, ↓reduceIte, lt_eq, l_0, l_1, n_add, n_ix, ing_ok, s1]
        · have c4 : ¬ g' (21 + j) = 0 := by omega
          simp (disch := omega) only [f_X2_firstToFall_26, hR.1.1, n_le, n_eq, c2, c3, c4, ↓reduceIte, lt_eq, l_0, l_1, n_add, n_ix, ing_ok, s1, s2]
def firV (g : Nat → Nat) (what n : Nat) : Int32 := if what = 0 then nI (felN g (itG n g)) else nI n
def firG (g : Nat → Nat) (what : Nat) : Nat → Int32
  | 0 => if felN g (itG 60 g) < g 0 then firV g what 60 else -1000000
  | k + 1 => if felN g (itG (60 - (k + 1)) g) < g 0 then firV g what (60 - (k + 1)) else firG g what k
theorem fir_y {g : Nat → Nat} {what k : Nat} (h : felN g (itG (60 - k) g) < g 0) : firG g what k = firV g what (60 - k) := by
  cases k with
  | zero => unfold firG; exact if_pos h
  | succ k => unfold firG; exact if_pos h
theorem xfirst_10 {g : Nat → Nat} {what : Nat} (hb : SB g) (hw : what ≤ 1) : ∀ k m σ, k ≤ 59 → k + 1 < m → RS σ 8 g → RS σ 112 (itG (59 - k) g) → ∃ τ, f_X2_firstToFall_10 8 (nI what) m (nI (60 - k)) σ = some (firG g what k, τ) ∧ Fr (fun a => 111 ≤ a ∧ a ≤ 156) σ τ := by
  intro k
  induction k with
  | zero =>
    intro m σ _ hm h8 hR
    obtain ⟨m', rfl⟩ : ∃ m', m = m' + 1 + 1 := ⟨m - 2, by omega⟩
    obtain ⟨τ, t1, t2, t3⟩ := xgo1 hR (it_SB hb _)
    have h8' : RS τ 8 g := h8.fr fun a h1 h2 => t3 a (by omega)
    have e := xfirst_26 (m3 := nI 60) (K := f_X2_firstToFall_10 8 (nI what) (m' + 1)) h8' t2 hb (hour_SB (it_SB hb _)) (by rw [hour_low (by omega) (by omega), it_low (by omega) (by omega)]) hw FU 0 (Nat.zero_le _) (Nat.zero_le _) (by rw [FU_eq]; have := hb.1; omega)
    refine ⟨τ, ?_, t3⟩
    rw [f_X2_firstToFall_10, l_60, if_neg (by decide), t1, bd_some, lt_eq, l_0, e]
    show (if felN g (itG 60 g) < g 0 then _ else _) = _
    unfold firG firV
    by_cases c : felN g (itG 60 g) < g 0
    · rw [if_pos c, if_pos c]; rfl
    · rw [if_neg c, if_neg c, n_add, f_X2_firstToFall_10, l_60, if_pos (by decide)]
  | succ k ih =>
    intro m σ hk hm h8 hR
    obtain ⟨m', rfl⟩ : ∃ m', m = m' + 1 := ⟨m - 1, by omega⟩
    obtain ⟨τ, t1, t2, t3⟩ := xgo1 hR (it_SB hb _)
    have e0 : 60 - (k + 1) = 59 - (k + 1) + 1 := by omega
    have e1 : 59 - k = 59 - (k + 1) + 1 := by omega
    have e2 : 60 - (k + 1) + 1 = 60 - k := by omega
    have t2' : RS τ 112 (itG (60 - (k + 1)) g) := by rw [e0]; exact t2
    have h8' : RS τ 8 g := h8.fr fun a h1 h2 => t3 a (by omega)
    have e := xfirst_26 (m3 := nI (60 - (k + 1))) (K := f_X2_firstToFall_10 8 (nI what) m') h8' t2' hb (it_SB hb _) (it_low (by omega) (by omega) _) hw FU 0 (Nat.zero_le _) (Nat.zero_le _) (by rw [FU_eq]; have := hb.1; omega)
    have c60 : ¬ nI 60 < nI (60 - (k + 1)) := by rw [n_lt (by omega) (by omega)]; omega
    by_cases c : felN g (itG (60 - (k + 1)) g) < g 0
    · refine ⟨τ, ?_, t3⟩
      rw [fir_y c, f_X2_firstToFall_10, l_60, if_neg c60, t1, bd_some, lt_eq, l_0, e, if_pos c]
      rfl
    · obtain ⟨υ, u1, u2⟩ := ih m' τ (by omega) (by omega) h8' (by rw [e1]; exact t2)
      refine ⟨υ, ?_, t3.tr u2⟩
      rw [f_X2_firstToFall_10, l_60, if_neg c60, t1, bd_some, lt_eq, l_0, e, if_neg c, n_add, e2, firG, if_neg c]
      exact u1
/-- the reference's side: who fell, as bits -/
theorem n_andnot {a b : Nat} (ha : a < 2 ^ 32) (hb : b < 2 ^ 32) : nI a &&& (nI b ^^^ (-1 : Int32)) = nI (a &&& (2 ^ 32 - (b + 1))) := by
  apply Int32.toBitVec_inj.mp
  apply BitVec.eq_of_toNat_eq
  have e : (nI b ^^^ (-1 : Int32)).toBitVec = ~~~ (BitVec.ofNat 32 b) := BitVec.xor_allOnes
  rw [Int32.toBitVec_and, e, BitVec.toNat_and, BitVec.toNat_not]
  show a % 2 ^ 32 &&& (2 ^ 32 - 1 - b % 2 ^ 32) = (a &&& (2 ^ 32 - (b + 1))) % 2 ^ 32
  have l : a &&& (2 ^ 32 - (b + 1)) ≤ a := Nat.and_le_left
  rw [Nat.mod_eq_of_lt ha, Nat.mod_eq_of_lt hb, Nat.mod_eq_of_lt (by omega), show 2 ^ 32 - 1 - b = 2 ^ 32 - (b + 1) by omega]
theorem fell_tb {a b h : Nat} (hb : b < 2 ^ 32) (hh : h < 32) : (a &&& (2 ^ 32 - (b + 1))).testBit h = (a.testBit h && !b.testBit h) := by
  rw [Nat.testBit_and, Nat.testBit_two_pow_sub_succ hb]
  simp [hh]
theorem mleast_2 {f h0 : Nat} {σ : Mem} (hf : f < 2147483648) (h31 : h0 < 31) (hn : ∀ h, h < h0 → f.testBit h = false) (hy : f.testBit h0 = true) : ∀ n j, j ≤ h0 → h0 - j < n → f_X8_least_2 (nI f) n (nI j) σ = some (nI h0, σ) := by
  intro n
  induction n with
  | zero => intro j h1 h2; omega
  | succ n ih =>
    intro j h1 h2
    by_cases c : j = h0
    · subst c
      rw [tb_div, decide_eq_true_eq] at hy
      simp (disch := omega) only [f_X8_least_2, mhas, bd2_some, hy, l_0, n_eq, Nat.reduceEqDiff, ↓reduceIte]
    · have q := hn j (by omega)
      rw [tb_div, decide_eq_false_iff_not] at q
      have q0 : f / 2 ^ j % 2 = 0 := by omega
      simp (disch := omega) only [f_X8_least_2, mhas, bd2_some, q0, l_0, l_1, n_add, lt_eq, ↓reduceIte]
      exact ih (j + 1) (by omega) (by omega)
theorem stand_eq {g g' : Nat → Nat} (h0 : g' 0 = g 0) (hd : ∀ h, g (21 + h) = 0 → g' (21 + h) = 0) : standG g' = standG g ↔ ¬ felN g g' < g 0 := by
  unfold standG
  rw [h0]
  constructor
  · intro e c
    have y := felK_y g g' (g 0) c
    have t1 := sbits_tb g (felN g g') (g 0)
    have t2 := sbits_tb g' (felN g g') (g 0)
    rw [e, t1] at t2
    have y1 : 0 < g (21 + felN g g') := y.1
    have y2 : g' (21 + felN g g') = 0 := y.2
    simp [c, y1, y2] at t2
  · intro c
    have n : ∀ h, h < g 0 → ¬ (0 < g (21 + h) ∧ g' (21 + h) = 0) := fun h hh => felK_n g g' (g 0) h (by show h < felN g g'; omega)
    have : ∀ j, j ≤ g 0 → sbits g' j = sbits g j := by
      intro j
      induction j with
      | zero => intro _; rfl
      | succ j ih =>
        intro hj
        rw [sbits, sbits, ih (by omega)]
        have q := n j (by omega)
        have q2 := hd j
        by_cases c3 : 0 < g (21 + j)
        · rw [if_pos c3, if_pos (by omega)]
        · rw [if_neg c3, if_neg (by omega)]
    exact this (g 0) (Nat.le_refl _)
theorem mfirst_55 {σ : Mem} {g g' : Nat → Nat} {what n : Nat} (hb : SB g) (hb' : SB g') (h0 : g' 0 = g 0) (hd : ∀ h, g (21 + h) = 0 → g' (21 + h) = 0) (hw : what ≤ 1) (hR : RA σ 187 g') (h2 : RA σ 192 g) : ∃ τ, f_X8_first_55 (nI what) (nI (standG g)) (nI n) σ = some (if felN g g' < g 0 then (if what = 0 then nI (felN g g') else nI n) else -1000000, τ) ∧ RA τ 187 g ∧ Fr (fun a => a = 187 ∨ a = 192 ∨ a = 193) σ τ := by
  have h8 := hb.1
  have s1 := standG_lt hb
  have s2 := standG_lt hb'
  obtain ⟨τ, t1, t2, t3, t4⟩ := mbac h2 h8
  refine ⟨τ, ?_, t2, t4⟩
  rw [f_X8_first_55, mstanding hR hb', bd2_some, n_andnot (by omega) (by omega), lt_eq, t1, bd_some]
  have l : standG g &&& (2 ^ 32 - (standG g' + 1)) ≤ standG g := Nat.and_le_left
  have ftb : ∀ h, h < 32 → (standG g &&& (2 ^ 32 - (standG g' + 1))).testBit h = (decide (h < g 0 ∧ 0 < g (21 + h)) && !decide (h < g 0 ∧ 0 < g' (21 + h))) := by
    intro h hh
    rw [fell_tb (by omega) hh]
    unfold standG
    rw [sbits_tb, sbits_tb, h0]
  by_cases c : felN g g' < g 0
  · rw [if_pos c]
    have y := felK_y g g' (g 0) c
    have y1 : 0 < g (21 + felN g g') := y.1
    have y2 : g' (21 + felN g g') = 0 := y.2
    have b1 : (standG g &&& (2 ^ 32 - (standG g' + 1))).testBit (felN g g') = true := by
      rw [ftb _ (by omega)]
      simp [c, y1, y2]
    have b0 : ∀ h, h < felN g g' → (standG g &&& (2 ^ 32 - (standG g' + 1))).testBit h = false := by
      intro h hh
      have nq := felK_n g g' (g 0) h hh
      rw [ftb _ (by omega)]
      by_cases c1 : 0 < g (21 + h)
      · have c2 : 0 < g' (21 + h) := by omega
        simp [c1, c2]
      · simp [c1]
    have nz : standG g &&& (2 ^ 32 - (standG g' + 1)) ≠ 0 := by
      intro e
      rw [e, Nat.zero_testBit] at b1
      cases b1
    have nz' : ¬ nI (standG g &&& (2 ^ 32 - (standG g' + 1))) = 0 := by
      rw [l_0, n_eq (by omega) (by omega)]
      exact nz
    rw [if_neg nz']
    rcases (by omega : what = 0 ∨ what = 1) with rfl | rfl
    · rw [if_pos l_0.symm, if_pos rfl, f_X8_least, lt_eq, l_0, mleast_2 (by omega) (by omega) b0 b1 FU 0 (Nat.zero_le _) (by rw [FU_eq]; omega), bd2_some]
    · rw [if_neg (by decide), if_neg (by decide)]
  · rw [if_neg c]
    have e := (stand_eq h0 hd).mpr c
    have z : standG g &&& (2 ^ 32 - (standG g' + 1)) = 0 := by
      apply Nat.eq_of_testBit_eq
      intro h
      rw [Nat.zero_testBit]
      by_cases hh : h < 32
      · rw [fell_tb (by omega) hh, e]
        cases (standG g).testBit h <;> rfl
      · exact Nat.testBit_lt_two_pow (Nat.lt_of_lt_of_le (show _ < 2 ^ 32 by omega) (Nat.pow_le_pow_right (by decide) (by omega)))
    rw [z, if_pos l_0.symm]
theorem mfirst_31 {g : Nat → Nat} {what : Nat} (hb : SB g) (h1 : 1 ≤ g 0) (hw : what ≤ 1) : ∀ k m σ, k ≤ 60 → k < m → RA σ 187 (itG (60 - k) g) → RA σ 192 g → ∃ τ, f_X8_first_31 (nI what) m (nI (standG g)) (nI (60 - k)) σ = some (firG g what k, τ) ∧ RA τ 187 g ∧ Fr (fun a => a = 187 ∨ a = 192 ∨ a = 193) σ τ := by
  intro k
  induction k with
  | zero =>
    intro m σ _ hm hR h2
    obtain ⟨m', rfl⟩ : ∃ m', m = m' + 1 := ⟨m - 1, by omega⟩
    have hd : ∀ h, g (21 + h) = 0 → itG (60 - 0) g (21 + h) = 0 := fun h hh => it_dead hh _
    have h0 : itG (60 - 0) g 0 = g 0 := it_low (by omega) (by omega) _
    have s2 := standG_lt (it_SB hb (60 - 0))
    have s1 := standG_lt hb
    obtain ⟨τ, t1, t2, t3⟩ := mfirst_55 (n := 60 - 0) hb (it_SB hb (60 - 0)) h0 hd hw hR h2
    refine ⟨τ, ?_, t2, t3⟩
    rw [f_X8_first_31, mstanding hR (it_SB hb _), bd2_some]
    have fin : f_X8_first_55 (nI what) (nI (standG g)) (nI (60 - 0)) σ = some (firG g what 0, τ) := t1
    by_cases c : nI (standG (itG (60 - 0) g)) = nI (standG g)
    · rw [if_pos c, if_pos (by decide)]; exact fin
    · rw [if_neg c]; exact fin
  | succ k ih =>
    intro m σ hk hm hR h2
    obtain ⟨m', rfl⟩ : ∃ m', m = m' + 1 := ⟨m - 1, by omega⟩
    have hd : ∀ h, g (21 + h) = 0 → itG (60 - (k + 1)) g (21 + h) = 0 := fun h hh => it_dead hh _
    have h0 : itG (60 - (k + 1)) g 0 = g 0 := it_low (by omega) (by omega) _
    have s2 := standG_lt (it_SB hb (60 - (k + 1)))
    have s1 := standG_lt hb
    have q := stand_eq h0 hd
    have e : 60 - k = 60 - (k + 1) + 1 := by omega
    by_cases c : felN g (itG (60 - (k + 1)) g) < g 0
    · obtain ⟨τ, t1, t2, t3⟩ := mfirst_55 (n := 60 - (k + 1)) hb (it_SB hb (60 - (k + 1))) h0 hd hw hR h2
      refine ⟨τ, ?_, t2, t3⟩
      rw [if_pos c] at t1
      have cn : ¬ nI (standG (itG (60 - (k + 1)) g)) = nI (standG g) := by
        rw [n_eq (by omega) (by omega)]
        exact fun w => (q.mp w) c
      rw [f_X8_first_31, mstanding hR (it_SB hb _), bd2_some, if_neg cn, fir_y c]
      exact t1
    · obtain ⟨τ, t1, t2, t3, t4⟩ := mgo1 hR h2 (it_SB hb _) (by omega)
      obtain ⟨υ, u1, u2, u3⟩ := ih m' τ (by omega) (by omega) (by rw [e]; exact t2) t3
      refine ⟨υ, ?_, u2, t4.tr u3⟩
      have c60 : ¬ (nI 60 ≤ nI (60 - (k + 1))) := by rw [n_le (by omega) (by omega)]; omega
      rw [f_X8_first_31, mstanding hR (it_SB hb _), bd2_some, q.mpr c, if_pos rfl, l_60, if_neg c60, t1, bd_some, lt_eq, l_1, n_add, ← e, firG, if_neg c]
      exact u1
theorem fir_59 {g : Nat → Nat} {what : Nat} : firG g what 60 = firG g what 59 := by
  rw [firG, if_neg]
  intro c
  have y := felK_y g (itG (60 - (59 + 1)) g) (g 0) c
  have y1 : 0 < g (21 + felN g (itG (60 - (59 + 1)) g)) := y.1
  have y2 : g (21 + felN g (itG (60 - (59 + 1)) g)) = 0 := y.2
  omega
theorem misWhat {p : Int32} {σ : Mem} [Decidable (rng p 0 1)] : f_X8_isWhat p σ = some (if rng p 0 1 then nI 1 else nI 0, σ) := by
  unfold f_X8_isWhat
  rw [min_rng (a := 0) (b := 1) rfl rfl (by decide), bd2_some]
  by_cases c : rng p 0 1
  · rw [if_pos c, gd_ok (Or.inr l_1.symm)]
  · rw [if_neg c, gd_ok (Or.inl l_0.symm)]
theorem both_first (p : Int32) : BOTH (f_X7_first p) (f_X8_first p) := by
  intro s hs
  have h8 := hs.og.1.1
  have hb := hs.og.1
  have d := Classical.propDecidable (rng p 0 1)
  have hx : ∀ σ, f_X7_within p (nI 0) (nI 1) σ = some (if rng p 0 1 then nI 1 else nI 0, σ) := fun σ => xin_rng (by decide) (by decide)
  by_cases c0 : s.g 0 = 0
  · refine ⟨-1000002, s, hs, XS.rf fun σ hc => ?_, MS.rf fun σ hm => ?_⟩
    · simp (disch := omega) only [f_X7_first, xnoStreet hc hs, c0, bd2_some, l_0, n_eq, ↓reduceIte, Nat.reduceEqDiff]
    · have e := hm.m1b
      rw [if_pos c0] at e
      simp (disch := omega) only [f_X8_first, e, l_0, ↓reduceIte]
  · have e1 : ∀ σ, MI σ s → σ 183 4 = nI 1 := fun σ hm => by rw [hm.m1b, if_neg c0]
    by_cases c : rng p 0 1
    · have c' := c
      obtain ⟨v, rfl, -, hv⟩ := c'
      refine ⟨firG s.g v 59, s, hs, XT.xs fun σ hc => ?_, MT.ms fun σ hm => ?_⟩
      · obtain ⟨τ, t1, t2, t3⟩ := xthen hc hs
        obtain ⟨υ, u1, u2⟩ := xfirst_10 hb hv 59 FU τ (by omega) (by rw [FU_eq]; omega) (hc.fo t3).c1 t2
        refine ⟨υ, ?_, t3.tr u2⟩
        have w : f_X2_firstToFall 8 (nI v) σ = some (firG s.g v 59, υ) := by
          unfold f_X2_firstToFall
          rw [t1, bd_some, lt_eq]
          exact u1
        simp (disch := omega) only [f_X7_first, xnoStreet hc hs, c0, hx, c, bd2_some, l_0, l_1, n_eq, ↓reduceIte, Nat.reduceEqDiff, w]
      · obtain ⟨τ1, a1, a2, a3, a4⟩ := masi hm hs
        obtain ⟨τ2, b1, b2, b3⟩ := mfirst_31 hb (by omega) hv 60 FU τ1 (by omega) (by rw [FU_eq]; omega) a2 a3
        refine ⟨τ2, ?_, b2, a4.tr b3⟩
        unfold f_X8_first
        rw [e1 σ hm, if_neg (by decide), misWhat, if_pos c, bd2_some, if_neg (by decide), a1, bd_some, mstanding a2 hb, bd2_some, lt_eq, lt_eq, ← fir_59]
        exact b1
    · refine ⟨-1000001, s, hs, XS.rf fun σ hc => ?_, MS.rf fun σ hm => ?_⟩
      · simp (disch := omega) only [f_X7_first, xnoStreet hc hs, c0, hx, c, bd2_some, l_0, l_1, n_eq, Nat.reduceEqDiff, ↓reduceIte]
      · simp (disch := omega) only [f_X8_first, e1 σ hm, misWhat, c, bd2_some, l_0, n_eq, Nat.reduceEqDiff, ↓reduceIte]
