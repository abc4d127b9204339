/-! THE PURE PART: what the law's function answers -/
theorem sw0_big {α : Type} {k n : Nat} {f : Nat → Option α} {g : Option α} (h : n ≤ k) (hk : k < 2147483648) : swi (nI k) 0 n f g = g := by
  unfold swi
  rw [n_int hk, if_pos]
  omega
theorem law_step {F G : Mem → Option (Int32 × Mem)} (hB : BOTH F G) {σ : Mem} {s : Sys} (hs : SysOk s) (hc : CI σ s) (hm : MI σ s) {K : Mem → Option (Int32 × Mem)} (hK : ∀ υ s', SysOk s' → CI υ s' → MI υ s' → ∃ τ, K υ = some (nI 1, τ)) : ∃ τ, (bd2 (F σ) fun x s3 => bd2 (G s3) fun y s5 => if x = y then K s5 else some ((0 : Int32), s5)) = some (nI 1, τ) := by
  obtain ⟨v, τ, υ, s', h1, h2, h3, h4, h5⟩ := hB.go hs hc hm
  obtain ⟨φ, hφ⟩ := hK υ s' h3 h4 h5
  exact ⟨φ, by rw [h1, bd2_some, h2, bd2_some, if_pos rfl, hφ]⟩
theorem law_stepL {F G : Mem → Option (Int64 × Mem)} (hB : BOTHL F G) {σ : Mem} {s : Sys} (hs : SysOk s) (hc : CI σ s) (hm : MI σ s) {K : Mem → Option (Int32 × Mem)} (hK : ∀ υ s', SysOk s' → CI υ s' → MI υ s' → ∃ τ, K υ = some (nI 1, τ)) : ∃ τ, (bd2 (F σ) fun x s3 => bd2 (G s3) fun y s5 => if (lg_cmp x y) = 0 then K s5 else some ((0 : Int32), s5)) = some (nI 1, τ) := by
  obtain ⟨v, τ, υ, s', h1, h2, h3, h4, h5⟩ := hB.go hs hc hm
  obtain ⟨φ, hφ⟩ := hK υ s' h3 h4 h5
  exact ⟨φ, by rw [h1, bd2_some, h2, bd2_some, if_pos (lg_e.mpr rfl), hφ]⟩
theorem law_18 {L : Nat} {xs : Nat → Int32} (hL : L ≤ 384) : ∀ n j σ s, SysOk s → CI σ s → MI σ s → j ≤ L + 6 → L + 6 - j < n → ∃ τ, f_L_law_18 L xs n (nI j) σ = some (nI 1, τ) := by
  intro n
  induction n with
  | zero => intro j σ s _ _ _ _ h; omega
  | succ n ih =>
    intro j σ s hs hc hm h1 h2
    have cmp : ((Int32.ofNat L) - (6 : Int32)) < nI j ↔ L < j + 6 := by
      show (nI L - nI 6) < nI j ↔ _
      rw [Int32.lt_iff_toInt_lt, pk_sub_toInt (by omega) (by omega), n_int (by omega)]
      omega
    by_cases c : L < j + 6
    · exact ⟨σ, by rw [f_L_law_18, if_pos (cmp.mpr c), l_1]⟩
    · have K : ∀ υ s', SysOk s' → CI υ s' → MI υ s' → ∃ τ, f_L_law_18 L xs n (nI (j + 6)) υ = some (nI 1, τ) := fun υ s' a1 a2 a3 => ih (j + 6) υ s' a1 a2 a3 (by omega) (by omega)
      obtain ⟨k, hk, ek⟩ := pk_andE (xs j) (m := 63) 6 (by decide)
      rw [f_L_law_18, if_neg (fun w => c (cmp.mp w)), ing_ok (by omega) (by omega), n_ix (by omega), ek]
      rcases (by omega : k = 0 ∨ k = 1 ∨ k = 2 ∨ k = 3 ∨ k = 4 ∨ k = 5 ∨ k = 6 ∨ k = 7 ∨ k = 8 ∨ k = 9 ∨ k = 10 ∨ k = 11 ∨ k = 12 ∨ k = 13 ∨ k = 14 ∨ k = 15 ∨ k = 16 ∨ k = 17 ∨ k = 18 ∨ k = 19 ∨ k = 20 ∨ k = 21 ∨ k = 22 ∨ k = 23 ∨ k = 24 ∨ k = 25 ∨ k = 26 ∨ k = 27 ∨ k = 28 ∨ k = 29 ∨ k = 30 ∨ k = 31 ∨ k = 32 ∨ k = 33 ∨ k = 34 ∨ k = 35 ∨ 36 ≤ k) with rfl | rfl | rfl | rfl | rfl | rfl | rfl | rfl | rfl | rfl | rfl | rfl | rfl | rfl | rfl | rfl | rfl | rfl | rfl | rfl | rfl | rfl | rfl | rfl | rfl | rfl | rfl | rfl | rfl | rfl | rfl | rfl | rfl | rfl | rfl | rfl | hk36
      · rw [sw0 (by omega) (by omega)]
        simp (disch := omega) only [l_1, l_2, l_3, l_4, l_5, l_6, n_add, n_ix, ing_ok, lt_eq]
        exact law_step (both_row _ _ _) hs hc hm K
      · rw [sw0 (by omega) (by omega)]
        simp (disch := omega) only [l_1, l_2, l_3, l_4, l_5, l_6, n_add, n_ix, ing_ok, lt_eq]
        exact law_step (both_set _ _ _) hs hc hm K
      · rw [sw0 (by omega) (by omega)]
        simp (disch := omega) only [l_1, l_2, l_3, l_4, l_5, l_6, n_add, n_ix, ing_ok, lt_eq]
        exact law_step (both_copy _ _ _ _ _) hs hc hm K
      · rw [sw0 (by omega) (by omega)]
        simp (disch := omega) only [l_1, l_2, l_3, l_4, l_5, l_6, n_add, n_ix, ing_ok, lt_eq]
        exact law_step (both_drop _) hs hc hm K
      · rw [sw0 (by omega) (by omega)]
        simp (disch := omega) only [l_1, l_2, l_3, l_4, l_5, l_6, n_add, n_ix, ing_ok, lt_eq]
        exact law_step (both_feed _) hs hc hm K
      · rw [sw0 (by omega) (by omega)]
        simp (disch := omega) only [l_1, l_2, l_3, l_4, l_5, l_6, n_add, n_ix, ing_ok, lt_eq]
        exact law_step both_street hs hc hm K
      · rw [sw0 (by omega) (by omega)]
        simp (disch := omega) only [l_1, l_2, l_3, l_4, l_5, l_6, n_add, n_ix, ing_ok, lt_eq]
        exact law_step both_fault hs hc hm K
      · rw [sw0 (by omega) (by omega)]
        simp (disch := omega) only [l_1, l_2, l_3, l_4, l_5, l_6, n_add, n_ix, ing_ok, lt_eq]
        exact law_step both_undo hs hc hm K
      · rw [sw0 (by omega) (by omega)]
        simp (disch := omega) only [l_1, l_2, l_3, l_4, l_5, l_6, n_add, n_ix, ing_ok, lt_eq]
        exact law_step (both_hours _) hs hc hm K
      · rw [sw0 (by omega) (by omega)]
        simp (disch := omega) only [l_1, l_2, l_3, l_4, l_5, l_6, n_add, n_ix, ing_ok, lt_eq]
        exact law_step (both_lash _) hs hc hm K
      · rw [sw0 (by omega) (by omega)]
        simp (disch := omega) only [l_1, l_2, l_3, l_4, l_5, l_6, n_add, n_ix, ing_ok, lt_eq]
        exact law_step (both_touch _ _) hs hc hm K
      · rw [sw0 (by omega) (by omega)]
        simp (disch := omega) only [l_1, l_2, l_3, l_4, l_5, l_6, n_add, n_ix, ing_ok, lt_eq]
        exact law_step (both_putUp _) hs hc hm K
      · rw [sw0 (by omega) (by omega)]
        simp (disch := omega) only [l_1, l_2, l_3, l_4, l_5, l_6, n_add, n_ix, ing_ok, lt_eq]
        exact law_step (both_house _ _) hs hc hm K
      · rw [sw0 (by omega) (by omega)]
        simp (disch := omega) only [l_1, l_2, l_3, l_4, l_5, l_6, n_add, n_ix, ing_ok, lt_eq]
        exact law_step (both_stand _) hs hc hm K
      · rw [sw0 (by omega) (by omega)]
        simp (disch := omega) only [l_1, l_2, l_3, l_4, l_5, l_6, n_add, n_ix, ing_ok, lt_eq]
        exact law_step (both_ahead _ _) hs hc hm K
      · rw [sw0 (by omega) (by omega)]
        simp (disch := omega) only [l_1, l_2, l_3, l_4, l_5, l_6, n_add, n_ix, ing_ok, lt_eq]
        exact law_step (both_when _ _) hs hc hm K
      · rw [sw0 (by omega) (by omega)]
        simp (disch := omega) only [l_1, l_2, l_3, l_4, l_5, l_6, n_add, n_ix, ing_ok, lt_eq]
        exact law_step (both_first _) hs hc hm K
      · rw [sw0 (by omega) (by omega)]
        simp (disch := omega) only [l_1, l_2, l_3, l_4, l_5, l_6, n_add, n_ix, ing_ok, lt_eq]
        exact law_step (both_left _) hs hc hm K
      · rw [sw0 (by omega) (by omega)]
        simp (disch := omega) only [l_1, l_2, l_3, l_4, l_5, l_6, n_add, n_ix, ing_ok, lt_eq]
        exact law_step (both_round _ _ _) hs hc hm K
      · rw [sw0 (by omega) (by omega)]
        simp (disch := omega) only [l_1, l_2, l_3, l_4, l_5, l_6, n_add, n_ix, ing_ok, lt_eq]
        exact law_step (both_walls _ _) hs hc hm K
      · rw [sw0 (by omega) (by omega)]
        simp (disch := omega) only [l_1, l_2, l_3, l_4, l_5, l_6, n_add, n_ix, ing_ok, lt_eq]
        exact law_step (both_steady _ _) hs hc hm K
      · rw [sw0 (by omega) (by omega)]
        simp (disch := omega) only [l_1, l_2, l_3, l_4, l_5, l_6, n_add, n_ix, ing_ok, lt_eq]
        exact law_step (both_boys _ _) hs hc hm K
      · rw [sw0 (by omega) (by omega)]
        simp (disch := omega) only [l_1, l_2, l_3, l_4, l_5, l_6, n_add, n_ix, ing_ok, lt_eq]
        exact law_step (both_string _ _) hs hc hm K
      · rw [sw0 (by omega) (by omega)]
        simp (disch := omega) only [l_1, l_2, l_3, l_4, l_5, l_6, n_add, n_ix, ing_ok, lt_eq]
        exact law_step (both_who _ _ _ _ _) hs hc hm K
      · rw [sw0 (by omega) (by omega)]
        simp (disch := omega) only [l_1, l_2, l_3, l_4, l_5, l_6, n_add, n_ix, ing_ok, lt_eq]
        exact law_step (both_finger _ _ _ _) hs hc hm K
      · rw [sw0 (by omega) (by omega)]
        simp (disch := omega) only [l_1, l_2, l_3, l_4, l_5, l_6, n_add, n_ix, ing_ok, lt_eq]
        exact law_step (both_lashes _ _ _ _ _) hs hc hm K
      · rw [sw0 (by omega) (by omega)]
        simp (disch := omega) only [l_1, l_2, l_3, l_4, l_5, l_6, n_add, n_ix, ing_ok, lt_eq]
        exact law_stepL (both_crack _ _ _ _) hs hc hm K
      · rw [sw0 (by omega) (by omega)]
        simp (disch := omega) only [l_1, l_2, l_3, l_4, l_5, l_6, n_add, n_ix, ing_ok, lt_eq]
        exact law_step (both_drawn _ _ _) hs hc hm K
      · rw [sw0 (by omega) (by omega)]
        simp (disch := omega) only [l_1, l_2, l_3, l_4, l_5, l_6, n_add, n_ix, ing_ok, lt_eq]
        exact law_step (both_image _) hs hc hm K
      · rw [sw0 (by omega) (by omega)]
        simp (disch := omega) only [l_1, l_2, l_3, l_4, l_5, l_6, n_add, n_ix, ing_ok, lt_eq]
        exact law_step (both_restore _) hs hc hm K
      · rw [sw0 (by omega) (by omega)]
        simp (disch := omega) only [l_1, l_2, l_3, l_4, l_5, l_6, n_add, n_ix, ing_ok, lt_eq]
        exact law_step (both_kind _) hs hc hm K
      · rw [sw0 (by omega) (by omega)]
        simp (disch := omega) only [l_1, l_2, l_3, l_4, l_5, l_6, n_add, n_ix, ing_ok, lt_eq]
        exact law_step (both_as _ _) hs hc hm K
      · rw [sw0 (by omega) (by omega)]
        simp (disch := omega) only [l_1, l_2, l_3, l_4, l_5, l_6, n_add, n_ix, ing_ok, lt_eq]
        exact law_step (both_ask _ _) hs hc hm K
      · rw [sw0 (by omega) (by omega)]
        simp (disch := omega) only [l_1, l_2, l_3, l_4, l_5, l_6, n_add, n_ix, ing_ok, lt_eq]
        exact law_step (both_trace _) hs hc hm K
      · rw [sw0 (by omega) (by omega)]
        simp (disch := omega) only [l_1, l_2, l_3, l_4, l_5, l_6, n_add, n_ix, ing_ok, lt_eq]
        exact law_step (both_count _) hs hc hm K
      · rw [sw0 (by omega) (by omega)]
        simp (disch := omega) only [l_1, l_2, l_3, l_4, l_5, l_6, n_add, n_ix, ing_ok, lt_eq]
        exact law_step both_status hs hc hm K
      · rw [sw0_big hk36 (by omega), lt_eq, l_6, n_add]
        exact K σ s hs hc hm
theorem pure_law (L : Nat) (xs : Nat → Int32) (hL : L ≤ 384) : ∃ τ : Mem, f_L_law L xs M0 = some (1, τ) := by
  obtain ⟨τ, h⟩ := law_18 (xs := xs) hL FU 0 M0 sys0 ok_0 ci_0 mi_0 (by omega) (by rw [FU_eq]; omega)
  refine ⟨τ, ?_⟩
  unfold f_L_law
  rw [lt_eq, l_0, l_1]
  exact h
