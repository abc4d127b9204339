/-! PURE, 1: numbers; how the printed functions run -/
theorem n_lit (n : Nat) : (OfNat.ofNat n : Int32) = nI n := rfl
theorem n_ix {n : Nat} (h : n < 2147483648) : (nI n).toNatClampNeg = n := nI_clamp h
theorem n_le {a b : Nat} (ha : a < 2147483648) (hb : b < 2147483648) : nI a ≤ nI b ↔ a ≤ b := nI_leI ha hb
theorem n_lt {a b : Nat} (ha : a < 2147483648) (hb : b < 2147483648) : nI a < nI b ↔ a < b := nI_ltI ha hb
theorem n_eq {a b : Nat} (ha : a < 2147483648) (hb : b < 2147483648) : nI a = nI b ↔ a = b := nI_eq ha hb
theorem n_add (a b : Nat) : nI a + nI b = nI (a + b) := nI_add a b
theorem n_sub {a b : Nat} (h : b ≤ a) : nI a - nI b = nI (a - b) := pk_sub h
theorem n_mul (a b : Nat) : nI a * nI b = nI (a * b) := pk_mul a b
theorem n_div {a d : Nat} (ha : a < 2147483648) (h0 : 0 < d) (hd : d < 2147483648) : nI a / nI d = nI (a / d) := pk_div ha h0 hd
theorem n_rem {a d : Nat} (ha : a < 2147483648) (h0 : 0 < d) (hd : d < 2147483648) : nI a - nI a / nI d * nI d = nI (a % d) := pk_rem ha h0 hd
theorem n_int {a : Nat} (ha : a < 2147483648) : (nI a).toInt = (a : Int) := nI_toInt ha
theorem n_nn {a : Nat} (ha : a < 2147483648) : ¬ nI a < nI 0 := by
  rw [n_lt ha (by decide)]
  omega
/-- a branch that is known -/
theorem ing_ok {α : Type} {j n : Nat} {k : Option α} (hj : j < n) (hn : n < 2147483648) : ing (nI j) n k = k := by
  unfold ing
  rw [if_neg]
  rintro (h | h)
  · exact n_nn (by omega) h
  · rw [n_ix (by omega)] at h
    omega
theorem gd_ok {α : Type} {c : Prop} [Decidable c] {k : Option α} (h : c) : gd c k = k := if_pos h
theorem bd2_some {α β γ : Type} {a : α} {b : β} {k : α → β → Option γ} : bd2 (some (a, b)) k = k a b := rfl
theorem bd_some {α β : Type} {a : α} {k : α → Option β} : bd (some a) k = k a := rfl
theorem lt_eq {α β : Type} {e : α} {k : α → β} : lt e k = k e := rfl
theorem swi_in {α : Type} {j n : Nat} {lo : Nat} {f : Nat → Option α} {g : Option α} (h1 : lo ≤ j) (h2 : j < lo + n) (hj : j < 2147483648) : swi (nI j) (lo : Int) n f g = f (j - lo) := by
  unfold swi
  rw [n_int hj, if_neg (by omega)]
  congr 1
  omega
theorem swi_out {α : Type} {j n : Nat} {lo : Nat} {f : Nat → Option α} {g : Option α} (h : j < lo ∨ lo + n ≤ j) (hj : j < 2147483648) : swi (nI j) (lo : Int) n f g = g := by
  unfold swi
  rw [n_int hj, if_pos (by omega)]
/-- memory -/
theorem st2_at {σ : Mem} {a k : Nat} {x : Int32} : st2 σ a k x a k = x := by simp [st2, upd]
theorem st2_k {σ : Mem} {a k j : Nat} {x : Int32} (h : j ≠ k) : st2 σ a k x a j = σ a j := by simp [st2, upd, h]
theorem st2_a {σ : Mem} {a b k j : Nat} {x : Int32} (h : b ≠ a) : st2 σ a k x b j = σ b j := by simp [st2, h]
theorem st2_row {σ : Mem} {a b k : Nat} {x : Int32} (h : b ≠ a) : st2 σ a k x b = σ b := by funext j; exact st2_a h
theorem im_nI {a b : Nat} (ha : a < 2147483648) (hb : b < 2147483648) : imax (nI a) (nI b) = nI (max a b) := by
  unfold imax
  by_cases h : a < b
  · rw [if_pos ((n_lt ha hb).mpr h), Nat.max_eq_right (by omega)]
  · rw [if_neg (fun q => h ((n_lt ha hb).mp q)), Nat.max_eq_left (by omega)]
theorem in_nI {a b : Nat} (ha : a < 2147483648) (hb : b < 2147483648) : imin (nI a) (nI b) = nI (min a b) := by
  unfold imin
  by_cases h : b < a
  · rw [if_pos ((n_lt hb ha).mpr h), Nat.min_eq_right (by omega)]
  · rw [if_neg (fun q => h ((n_lt hb ha).mp q)), Nat.min_eq_left (by omega)]
/-- 0 at least of a difference -/
theorem im_sub {a b : Nat} (ha : a < 1073741824) (hb : b < 1073741824) : imax (nI 0) (nI a - nI b) = nI (a - b) := by
  unfold imax
  by_cases h : b < a
  · rw [n_sub (by omega), if_pos ((n_lt (by decide) (by omega)).mpr (by omega))]
  · rw [if_neg]
    · rw [show a - b = 0 by omega]
    · rw [Int32.lt_iff_toInt_lt, pk_sub_toInt ha hb, n_int (by decide)]
      omega
/-- a bit -/
theorem n_bit {a j : Nat} (ha : a < 2147483648) (hj : j < 31) : (nI a >>> (nI j &&& nI 31)) &&& nI 1 = nI (a / 2 ^ j % 2) := by
  have e1 : ∀ j, j < 31 → (((nI j &&& nI 31)).toBitVec.smod 32).toNat = j := by decide +kernel
  rw [pk_shrN ha (nI j &&& nI 31) j (e1 j hj)]
  have e2 := pk_andN (n := a / 2 ^ j) (m := nI 1) (by
    have := Nat.div_le_self a (2 ^ j)
    omega) 1 (by decide)
  rw [e2]
theorem n_shl {j : Nat} (hj : j < 31) : nI 1 <<< (nI j &&& nI 31) = nI (2 ^ j) := by
  have e1 : ∀ j, j < 31 → nI 1 <<< (nI j &&& nI 31) = nI (2 ^ j) := by decide +kernel
  exact e1 j hj
theorem n_or (a b : Nat) : nI a ||| nI b = nI (a ||| b) := by
  unfold nI
  apply Int32.toBitVec_inj.mp
  rw [Int32.toBitVec_or]
  show (BitVec.ofNat 32 a) ||| (BitVec.ofNat 32 b) = BitVec.ofNat 32 (a ||| b)
  rw [BitVec.ofNat_or]
theorem or_new {a j : Nat} (h : a < 2 ^ j) : a ||| 2 ^ j = a + 2 ^ j := by
  rw [Nat.or_comm, ← Nat.mul_one (2 ^ j), ← Nat.two_pow_add_eq_or_of_lt h, Nat.add_comm]
theorem FU_eq : FU = 3000 := rfl
