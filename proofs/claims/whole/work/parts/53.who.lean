/-! PURE, 28: of which kind, how it rubs, how much it spun -/
theorem l_11c : (100 : Int32) = nI 100 := by decide +kernel
def bitsF (f sh : Nat → Nat) : Nat → Int32
  | 0 => nI 0
  | j + 1 => bitsF f sh j ||| (if f j = 0 then nI 0 else nI 1 <<< (nI (sh j) &&& nI 31))
def kdF (g : Nat → Nat) (i : Nat) (hum : Nat → Int32) (n j : Nat) : Nat := hearB (kd g i (1 + j)) i hum n 0
def rbF (g : Nat → Nat) (i : Nat) (hum : Nat → Int32) (n j : Nat) : Nat := hearB (rb g i (1 + j)) i hum n 0
def spF (g : Nat → Nat) (i : Nat) (hum : Nat → Int32) (n j : Nat) : Nat := hearB (sp g i j) i hum n 0
def one1 (j : Nat) : Nat := 1 + j
theorem xkinds_5 {s : Sys} {i n : Nat} {hum : Nat → Int32} (hs : SysOk s) (hi : i < s.g 0) (hn : n ≤ 12) : ∀ m j σ, CI σ s → HU σ n hum → j ≤ 5 → 5 - j < m → ∃ τ, f_X2_kindsHeard_5 8 (nI i) m (bitsF (kdF s.g i hum n) one1 j) (nI (1 + j)) σ = some (bitsF (kdF s.g i hum n) one1 5, τ) ∧ Fr (fun a => 112 ≤ a ∧ a ≤ 115) σ τ := by
  intro m
  induction m with
  | zero => intro j σ _ _ _ h; omega
  | succ m ih =>
    intro j σ hc hU h2 h3
    have h8 := hs.og.1.1
    by_cases c : 5 < 1 + j
    · have e : j = 5 := by omega
      subst e
      refine ⟨σ, ?_, Fr.rf⟩
      simp (disch := omega) only [f_X2_kindsHeard_5, l_5, n_lt, c, ↓reduceIte]
    · obtain ⟨τ1, a1, a2, a3⟩ := xthenF hc hs
      have a4 := RS.kd (j := i) (v := 1 + j) a2 h8 (by omega)
      have hF0 : Fr (fun a => 112 ≤ a ∧ a ≤ 115) τ1 (st2 τ1 (112 + 1) i (nI (1 + j))) := Fr.st (S := fun a => 112 ≤ a ∧ a ≤ 115) (by omega)
      obtain ⟨τ2, b1, b2⟩ := xheard (i := i) a4 (hs.og.1.kd (by omega) (by omega) (by omega)) (by rw [kd_ne (by omega)]; exact hi) hn (hU.fr (a3.tr hF0))
      have hF := (a3.tr hF0).tr b2
      obtain ⟨υ, u1, u2⟩ := ih (j + 1) τ2 (hc.fo (fr45 hF)) (hU.fr hF) (by omega) (by omega)
      refine ⟨υ, ?_, hF.tr u2⟩
      rw [← u1, bitsF]
      rw [show 1 + (j + 1) = 1 + j + 1 by omega]
      have b1' : f_X2_isHeard (nI i) (st2 τ1 (112 + 1) i (nI (1 + j))) = some (nI (kdF s.g i hum n j), τ2) := b1
      rcases (hearB_01 (kd s.g i (1 + j)) i hum n 0) with w | w
      · have w' : kdF s.g i hum n j = 0 := w
        rw [w'] at b1'
        rw [if_pos w']
        simp (disch := omega) only [f_X2_kindsHeard_5, l_0, l_1, l_5, n_lt, c, ↓reduceIte, a1, bd_some, n_ix, ing_ok, lt_eq, b1', bd2_some, n_add]
      · have w' : kdF s.g i hum n j = 1 := w
        rw [w'] at b1'
        rw [if_neg (by omega)]
        simp (disch := omega) only [f_X2_kindsHeard_5, l_0, l_1, l_31, l_5, n_lt, n_eq, Nat.reduceEqDiff, c, ↓reduceIte, a1, bd_some, n_ix, ing_ok, lt_eq, b1', bd2_some, n_add, one1]
theorem xrubs_5 {s : Sys} {i n : Nat} {hum : Nat → Int32} (hs : SysOk s) (hi : i < s.g 0) (hn : n ≤ 12) : ∀ m j σ, CI σ s → HU σ n hum → j ≤ 9 → 9 - j < m → ∃ τ, f_X2_rubsHeard_5 8 (nI i) m (bitsF (rbF s.g i hum n) one1 j) (nI (1 + j)) σ = some (bitsF (rbF s.g i hum n) one1 9, τ) ∧ Fr (fun a => 112 ≤ a ∧ a ≤ 115) σ τ := by
  intro m
  induction m with
  | zero => intro j σ _ _ _ h; omega
  | succ m ih =>
    intro j σ hc hU h2 h3
    have h8 := hs.og.1.1
    by_cases c : 9 < 1 + j
    · have e : j = 9 := by omega
      subst e
      refine ⟨σ, ?_, Fr.rf⟩
      simp (disch := omega) only [f_X2_rubsHeard_5, l_9, n_lt, c, ↓reduceIte]
    · obtain ⟨τ1, a1, a2, a3⟩ := xthenF hc hs
      have a4 := RS.rb (j := i) (v := 1 + j) a2 h8 (by omega)
      have hF0 : Fr (fun a => 112 ≤ a ∧ a ≤ 115) τ1 (st2 τ1 (112 + 2) i (nI (1 + j))) := Fr.st (S := fun a => 112 ≤ a ∧ a ≤ 115) (by omega)
      obtain ⟨τ2, b1, b2⟩ := xheard (i := i) a4 (hs.og.1.rb (by omega) (by omega) (by omega)) (by rw [rb_ne (by omega)]; exact hi) hn (hU.fr (a3.tr hF0))
      have hF := (a3.tr hF0).tr b2
      obtain ⟨υ, u1, u2⟩ := ih (j + 1) τ2 (hc.fo (fr45 hF)) (hU.fr hF) (by omega) (by omega)
      refine ⟨υ, ?_, hF.tr u2⟩
      rw [← u1, bitsF]
      rw [show 1 + (j + 1) = 1 + j + 1 by omega]
      have b1' : f_X2_isHeard (nI i) (st2 τ1 (112 + 2) i (nI (1 + j))) = some (nI (rbF s.g i hum n j), τ2) := b1
      rcases (hearB_01 (rb s.g i (1 + j)) i hum n 0) with w | w
      · have w' : rbF s.g i hum n j = 0 := w
        rw [w'] at b1'
        rw [if_pos w']
        simp (disch := omega) only [f_X2_rubsHeard_5, l_0, l_1, l_9, n_lt, c, ↓reduceIte, a1, bd_some, n_ix, ing_ok, lt_eq, b1', bd2_some, n_add]
      · have w' : rbF s.g i hum n j = 1 := w
        rw [w'] at b1'
        rw [if_neg (by omega)]
        simp (disch := omega) only [f_X2_rubsHeard_5, l_0, l_1, l_31, l_9, n_lt, n_eq, Nat.reduceEqDiff, c, ↓reduceIte, a1, bd_some, n_ix, ing_ok, lt_eq, b1', bd2_some, n_add, one1]
/-- how many spins, the least, the greatest -/
def spsF (f : Nat → Nat) : Nat → Nat × Int32 × Int32
  | 0 => (0, -1000000, -1000000)
  | j + 1 => if f j = 0 then spsF f j else ((spsF f j).1 + 1, (if (spsF f j).1 = 0 then nI j else (spsF f j).2.1), nI j)
theorem spsF_ok (f : Nat → Nat) : ∀ j, (spsF f j).1 ≤ j ∧ ((spsF f j).1 = 0 ∧ (spsF f j).2.1 = -1000000 ∨ (spsF f j).1 ≠ 0 ∧ ∃ x, x ≤ j ∧ (spsF f j).2.1 = nI x) := by
  intro j
  induction j with
  | zero => exact ⟨Nat.le_refl _, Or.inl ⟨rfl, rfl⟩⟩
  | succ j ih =>
    obtain ⟨h1, h2⟩ := ih
    rw [spsF]
    by_cases c : f j = 0
    · rw [if_pos c]
      refine ⟨by omega, ?_⟩
      rcases h2 with h2 | ⟨h2, x, h3, h4⟩
      · exact Or.inl h2
      · exact Or.inr ⟨h2, x, by omega, h4⟩
    · rw [if_neg c]
      refine ⟨by show (spsF f j).1 + 1 ≤ j + 1; omega, Or.inr ⟨by show (spsF f j).1 + 1 ≠ 0; omega, ?_⟩⟩
      show ∃ x, x ≤ j + 1 ∧ (if (spsF f j).1 = 0 then nI j else (spsF f j).2.1) = nI x
      rcases h2 with ⟨h2, h3⟩ | ⟨h2, x, h3, h4⟩
      · exact ⟨j, by omega, if_pos h2⟩
      · exact ⟨x, by omega, by rw [if_neg h2]; exact h4⟩
def spsV (q : Nat × Int32 × Int32) (w : Nat) : Int32 := if w = 2 then nI q.1 else if w = 3 then q.2.1 else q.2.2
theorem xspins_14 {s : Sys} {i n w : Nat} {hum : Nat → Int32} (hs : SysOk s) (hi : i < s.g 0) (hn : n ≤ 12) (hw : w ≤ 4) : ∀ m j σ, CI σ s → HU σ n hum → j ≤ 100 → 100 - j < m → ∃ τ, f_X2_spinsHeard_14 8 (nI i) (nI w) m (nI (spsF (spF s.g i hum n) j).1) (spsF (spF s.g i hum n) j).2.1 (spsF (spF s.g i hum n) j).2.2 (nI j) σ = some (spsV (spsF (spF s.g i hum n) 100) w, τ) ∧ Fr (fun a => 112 ≤ a ∧ a ≤ 115) σ τ := by
  intro m
  induction m with
  | zero => intro j σ _ _ _ h; omega
  | succ m ih =>
    intro j σ hc hU h2 h3
    have h8 := hs.og.1.1
    by_cases c : 100 ≤ j
    · have e : j = 100 := by omega
      subst e
      refine ⟨σ, ?_, Fr.rf⟩
      unfold spsV
      by_cases w2 : w = 2
      · simp (disch := omega) only [f_X2_spinsHeard_14, l_11c, l_2, n_le, n_eq, c, w2, ↓reduceIte]
      · by_cases w3 : w = 3
        · simp (disch := omega) only [f_X2_spinsHeard_14, l_11c, l_2, l_3, n_le, n_eq, c, w3, ↓reduceIte, Nat.reduceEqDiff]
        · simp (disch := omega) only [f_X2_spinsHeard_14, l_11c, l_2, l_3, n_le, n_eq, c, w2, w3, ↓reduceIte]
    · obtain ⟨τ1, a1, a2, a3⟩ := xthenF hc hs
      have a4 := RS.sp (j := i) (v := j) a2 h8
      have hF0 : Fr (fun a => 112 ≤ a ∧ a ≤ 115) τ1 (st2 τ1 (112 + 3) i (nI j)) := Fr.st (S := fun a => 112 ≤ a ∧ a ≤ 115) (by omega)
      obtain ⟨τ2, b1, b2⟩ := xheard (i := i) a4 (hs.og.1.sp (by omega)) (by rw [sp_ne (by omega)]; exact hi) hn (hU.fr (a3.tr hF0))
      have hF := (a3.tr hF0).tr b2
      obtain ⟨υ, u1, u2⟩ := ih (j + 1) τ2 (hc.fo (fr45 hF)) (hU.fr hF) (by omega) (by omega)
      refine ⟨υ, ?_, hF.tr u2⟩
      have k1 := (spsF_ok (spF s.g i hum n) j).1
      rw [← u1, spsF]
      have b1' : f_X2_isHeard (nI i) (st2 τ1 (112 + 3) i (nI j)) = some (nI (spF s.g i hum n j), τ2) := b1
      rcases (hearB_01 (sp s.g i j) i hum n 0) with w | w
      · have w' : spF s.g i hum n j = 0 := w
        rw [w'] at b1'
        rw [if_pos w']
        simp (disch := omega) only [f_X2_spinsHeard_14, l_0, l_1, l_11c, n_le, c, ↓reduceIte, a1, bd_some, n_ix, ing_ok, lt_eq, b1', bd2_some, n_add]
      · have w' : spF s.g i hum n j = 1 := w
        rw [w'] at b1'
        rw [if_neg (by omega)]
        by_cases z : (spsF (spF s.g i hum n) j).1 = 0
        · simp (disch := omega) only [f_X2_spinsHeard_14, l_0, l_1, l_11c, n_le, n_eq, Nat.reduceEqDiff, c, ↓reduceIte, a1, bd_some, n_ix, ing_ok, lt_eq, b1', bd2_some, n_add, z]
        · simp (disch := omega) only [f_X2_spinsHeard_14, l_0, l_1, l_11c, n_le, n_eq, Nat.reduceEqDiff, c, ↓reduceIte, a1, bd_some, n_ix, ing_ok, lt_eq, b1', bd2_some, n_add, z]
/-- the reference's loops -/
theorem mwho_k {g : Nat → Nat} {i n r a : Nat} {hum : Nat → Int32} (hb : SB g) (hi : i < g 0) (hn : n ≤ 12) (hr : r < 8) (ha : a + n ≤ 40) : ∀ m j σ, RA σ 187 g → RA σ 192 g → (∀ k, k < n → σ 186 (40 * r + a + k) = hum k) → j ≤ 5 → 5 - j < m → ∃ τ, f_X8_who_111 (nI i) (nI 0) (nI r) (nI a) (nI n) m (nI (5 + i)) (bitsF (kdF g i hum n) one1 j) (nI (1 + j)) σ = (bd2 (f_X8_well (bitsF (kdF g i hum n) one1 5) τ) fun x8 s9 => some (x8, s9)) ∧ RA τ 187 g ∧ Fr (fun a => a = 187) σ τ := by
  intro m
  induction m with
  | zero => intro j σ _ _ _ _ h; omega
  | succ m ih =>
    intro j σ hR hA hI h2 h3
    have h8 := hb.1
    by_cases c : 5 < 1 + j
    · have e : j = 5 := by omega
      subst e
      refine ⟨σ, ?_, hR, Fr.rf⟩
      simp (disch := omega) only [f_X8_who_111, f_X8_who_123, l_0, l_5, n_lt, c, ↓reduceIte]
    · have a4 := RA.kd (j := i) (v := 1 + j) hR h8 (by omega)
      have hF0 : Fr (fun a => a = 187) σ (st2 σ 187 (5 + i) (nI (1 + j))) := Fr.st (S := fun a => a = 187) rfl
      obtain ⟨τ2, b1, b2, b3, b4⟩ := misSo (i := i) (n := n) (at' := 40 * r + a) (hum := hum) a4 (hA.fr (hF0 192 (by omega))) (hb.kd (by omega) (by omega) (by omega)) (by rw [kd_ne (by omega)]; omega) (by rw [kd_ne (by omega)]; exact hi) h8 hn (by omega) (fun k hk => by rw [hF0 186 (by omega)]; exact hI k hk)
      have hF := hF0.tr b4
      obtain ⟨υ, u1, u2, u3⟩ := ih (j + 1) τ2 b2 b3 (fun k hk => by rw [hF 186 (by omega)]; exact hI k hk) (by omega) (by omega)
      refine ⟨υ, ?_, u2, hF.tr u3⟩
      rw [← u1, bitsF]
      rw [show 1 + (j + 1) = 1 + j + 1 by omega]
      have b1' : f_X8_isSo (nI i) (nI (40 * r + a)) (nI n) (st2 σ 187 (5 + i) (nI (1 + j))) = some (nI (kdF g i hum n j), τ2) := b1
      rcases (hearB_01 (kd g i (1 + j)) i hum n 0) with w | w
      · have w' : kdF g i hum n j = 0 := w
        rw [w'] at b1'
        rw [if_pos w']
        simp (disch := omega) only [f_X8_who_111, f_X8_who_123, l_0, l_1, l_5, l_40, n_lt, c, ↓reduceIte, n_ix, ing_ok, n_mul, n_add, lt_eq, b1', bd2_some]
      · have w' : kdF g i hum n j = 1 := w
        rw [w'] at b1'
        rw [if_neg (by omega)]
        simp (disch := omega) only [f_X8_who_111, f_X8_who_123, l_0, l_1, l_31, l_5, l_40, n_lt, n_eq, Nat.reduceEqDiff, c, ↓reduceIte, n_ix, ing_ok, n_mul, n_add, lt_eq, b1', bd2_some, one1]
theorem mwho_r {g : Nat → Nat} {i n r a : Nat} {hum : Nat → Int32} (hb : SB g) (hi : i < g 0) (hn : n ≤ 12) (hr : r < 8) (ha : a + n ≤ 40) : ∀ m j σ, RA σ 187 g → RA σ 192 g → (∀ k, k < n → σ 186 (40 * r + a + k) = hum k) → j ≤ 9 → 9 - j < m → ∃ τ, f_X8_who_111 (nI i) (nI 1) (nI r) (nI a) (nI n) m (nI (13 + i)) (bitsF (rbF g i hum n) one1 j) (nI (1 + j)) σ = (bd2 (f_X8_well (bitsF (rbF g i hum n) one1 9) τ) fun x8 s9 => some (x8, s9)) ∧ RA τ 187 g ∧ Fr (fun a => a = 187) σ τ := by
  intro m
  induction m with
  | zero => intro j σ _ _ _ _ h; omega
  | succ m ih =>
    intro j σ hR hA hI h2 h3
    have h8 := hb.1
    by_cases c : 9 < 1 + j
    · have e : j = 9 := by omega
      subst e
      refine ⟨σ, ?_, hR, Fr.rf⟩
      simp (disch := omega) only [f_X8_who_111, f_X8_who_123, l_0, l_9, n_lt, n_eq, Nat.reduceEqDiff, c, ↓reduceIte]
    · have a4 := RA.rb (j := i) (v := 1 + j) hR h8 (by omega)
      have hF0 : Fr (fun a => a = 187) σ (st2 σ 187 (13 + i) (nI (1 + j))) := Fr.st (S := fun a => a = 187) rfl
      obtain ⟨τ2, b1, b2, b3, b4⟩ := misSo (i := i) (n := n) (at' := 40 * r + a) (hum := hum) a4 (hA.fr (hF0 192 (by omega))) (hb.rb (by omega) (by omega) (by omega)) (by rw [rb_ne (by omega)]; omega) (by rw [rb_ne (by omega)]; exact hi) h8 hn (by omega) (fun k hk => by rw [hF0 186 (by omega)]; exact hI k hk)
      have hF := hF0.tr b4
      obtain ⟨υ, u1, u2, u3⟩ := ih (j + 1) τ2 b2 b3 (fun k hk => by rw [hF 186 (by omega)]; exact hI k hk) (by omega) (by omega)
      refine ⟨υ, ?_, u2, hF.tr u3⟩
      rw [← u1, bitsF]
      rw [show 1 + (j + 1) = 1 + j + 1 by omega]
      have b1' : f_X8_isSo (nI i) (nI (40 * r + a)) (nI n) (st2 σ 187 (13 + i) (nI (1 + j))) = some (nI (rbF g i hum n j), τ2) := b1
      rcases (hearB_01 (rb g i (1 + j)) i hum n 0) with w | w
      · have w' : rbF g i hum n j = 0 := w
        rw [w'] at b1'
        rw [if_pos w']
        simp (disch := omega) only [f_X8_who_111, f_X8_who_123, l_0, l_1, l_9, l_40, n_lt, n_eq, Nat.reduceEqDiff, c, ↓reduceIte, n_ix, ing_ok, n_mul, n_add, lt_eq, b1', bd2_some]
      · have w' : rbF g i hum n j = 1 := w
        rw [w'] at b1'
        rw [if_neg (by omega)]
        simp (disch := omega) only [f_X8_who_111, f_X8_who_123, l_0, l_1, l_31, l_9, l_40, n_lt, n_eq, Nat.reduceEqDiff, c, ↓reduceIte, n_ix, ing_ok, n_mul, n_add, lt_eq, b1', bd2_some, one1]
theorem mspins_14 {g : Nat → Nat} {i n r a w : Nat} {hum : Nat → Int32} (hb : SB g) (hi : i < g 0) (hn : n ≤ 12) (hr : r < 8) (ha : a + n ≤ 40) (hw : w ≤ 4) : ∀ m j σ, RA σ 187 g → RA σ 192 g → (∀ k, k < n → σ 186 (40 * r + a + k) = hum k) → j ≤ 100 → 100 - j < m → ∃ τ, f_X8_spinsBy_14 (nI i) (nI w) (nI (40 * r + a)) (nI n) m (nI (spsF (spF g i hum n) j).1) (spsF (spF g i hum n) j).2.1 (spsF (spF g i hum n) j).2.2 (nI j) σ = (bd2 (f_X8_well (spsV (spsF (spF g i hum n) 100) w) τ) fun x8 s9 => some (x8, s9)) ∧ RA τ 187 g ∧ Fr (fun a => a = 187) σ τ := by
  intro m
  induction m with
  | zero => intro j σ _ _ _ _ h; omega
  | succ m ih =>
    intro j σ hR hA hI h2 h3
    have h8 := hb.1
    by_cases c : 99 < j
    · have e : j = 100 := by omega
      subst e
      refine ⟨σ, ?_, hR, Fr.rf⟩
      unfold spsV
      by_cases w2 : w = 2
      · simp (disch := omega) only [f_X8_spinsBy_14, f_X8_spinsBy_93, l_99, l_2, n_lt, n_eq, c, w2, ↓reduceIte]
      · by_cases w3 : w = 3
        · simp (disch := omega) only [f_X8_spinsBy_14, f_X8_spinsBy_93, l_99, l_2, l_3, n_lt, n_eq, c, w3, ↓reduceIte, Nat.reduceEqDiff]
        · simp (disch := omega) only [f_X8_spinsBy_14, f_X8_spinsBy_93, l_99, l_2, l_3, n_lt, n_eq, c, w2, w3, ↓reduceIte]
    · have a4 := RA.sp (j := i) (v := j) hR h8
      have hF0 : Fr (fun a => a = 187) σ (st2 σ 187 (21 + i) (nI j)) := Fr.st (S := fun a => a = 187) rfl
      obtain ⟨τ2, b1, b2, b3, b4⟩ := misSo (i := i) (n := n) (at' := 40 * r + a) (hum := hum) a4 (hA.fr (hF0 192 (by omega))) (hb.sp (by omega)) (by rw [sp_ne (by omega)]; omega) (by rw [sp_ne (by omega)]; exact hi) h8 hn (by omega) (fun k hk => by rw [hF0 186 (by omega)]; exact hI k hk)
      have hF := hF0.tr b4
      obtain ⟨υ, u1, u2, u3⟩ := ih (j + 1) τ2 b2 b3 (fun k hk => by rw [hF 186 (by omega)]; exact hI k hk) (by omega) (by omega)
      refine ⟨υ, ?_, u2, hF.tr u3⟩
      obtain ⟨k1, k2⟩ := spsF_ok (spF g i hum n) j
      rw [← u1, spsF]
      have b1' : f_X8_isSo (nI i) (nI (40 * r + a)) (nI n) (st2 σ 187 (21 + i) (nI j)) = some (nI (spF g i hum n j), τ2) := b1
      rcases (hearB_01 (sp g i j) i hum n 0) with w | w
      · have w' : spF g i hum n j = 0 := w
        rw [w'] at b1'
        rw [if_pos w']
        simp (disch := omega) only [f_X8_spinsBy_14, l_0, l_1, l_21, l_99, n_lt, c, ↓reduceIte, n_ix, ing_ok, n_add, lt_eq, b1', bd2_some]
      · have w' : spF g i hum n j = 1 := w
        rw [w'] at b1'
        rw [if_neg (by omega)]
        rcases k2 with ⟨z, lo⟩ | ⟨z, x, hx, lo⟩
        · have ng : ¬ (0 : Int32) ≤ -1000000 := by decide
          have ng' : ¬ nI 0 ≤ (spsF (spF g i hum n) j).2.1 := by rw [lo]; exact ng
          rw [if_pos z]
          simp (disch := omega) only [f_X8_spinsBy_14, l_0, l_1, l_21, l_99, n_lt, n_eq, Nat.reduceEqDiff, c, ↓reduceIte, n_ix, ing_ok, n_add, lt_eq, b1', bd2_some, ng']
        · have ng' : nI 0 ≤ (spsF (spF g i hum n) j).2.1 := by rw [lo, n_le (by omega) (by omega)]; omega
          rw [if_neg z]
          simp (disch := omega) only [f_X8_spinsBy_14, l_0, l_1, l_21, l_99, n_lt, n_eq, Nat.reduceEqDiff, c, ↓reduceIte, n_ix, ing_ok, n_add, lt_eq, b1', bd2_some, ng']
