/-! PURE, 13: what is noted before an act -/
def noteM (m : Nat) : Nat := if m = 24 then 24 else m + 1
def noteA (m : Nat) (act : Nat → Nat → Nat) (g : Nat → Nat) : Nat → Nat → Nat := fun i => if m = 24 then (if i < 23 then act (i + 1) else g) else if i = m then g else act i
theorem xkeep {σ : Mem} {m : Nat} {act : Nat → Nat → Nat} {g : Nat → Nat} (h : C2 σ m act) (hm : m ≤ 24) (hR : RS σ 8 g) (h8 : g 0 ≤ 8) : ∃ τ, f_X0_keep 8 σ = some τ ∧ C2 τ (noteM m) (noteA m act g) ∧ Fr (fun a => a = 13 ∨ 15 ≤ a ∧ a ≤ 110) σ τ := by
  obtain ⟨o, h1, h2, h3, h4⟩ := h
  have hix : nI (o + m) - nI (o + m) / nI 24 * nI 24 = nI ((o + m) % 24) := n_rem (by omega) (by decide) (by decide)
  have hlt : (o + m) % 24 < 24 := Nat.mod_lt _ (by decide)
  obtain ⟨τ, t1, t2, t3⟩ := xtake (b := 15 + 4 * ((o + m) % 24)) hR h8 (Or.inr (by omega))
  have e13 : τ 13 = σ 13 := t3 13 (by omega)
  by_cases c : m = 24
  · subst c
    have hix2 : nI (o + 1) - nI (o + 1) / nI 24 * nI 24 = nI ((o + 1) % 24) := n_rem (by omega) (by decide) (by decide)
    refine ⟨st2 τ 13 1 (nI ((o + 1) % 24)), ?_, ⟨(o + 1) % 24, Nat.mod_lt _ (by decide), st2_at, ?_, fun i hi => ?_⟩, (t3.le fun a ha => Or.inr (by omega)).tr (Fr.st (S := fun a => a = 13 ∨ 15 ≤ a ∧ a ≤ 110) (Or.inl rfl))⟩
    · simp (disch := omega) only [f_X0_keep, h2, h3, l_24, l_1, n_add, hix, hix2, n_ix, ing_ok, t1, bd_some, e13, n_le, Nat.le_refl, ↓reduceIte, lt_eq]
    · rw [st2_k (by decide), e13]
      exact h3
    · have hi' : i < 24 := hi
      have e : ∀ a, a ≠ 13 → st2 τ 13 1 (nI ((o + 1) % 24)) a = τ a := fun a ha => st2_row ha
      have hia : 15 ≤ 15 + 4 * (((o + 1) % 24 + i) % 24) := by omega
      refine RS.fr (σ := τ) ?_ fun a h5 h6 => e a (by omega)
      unfold noteA
      rw [if_pos rfl]
      by_cases c2 : i < 23
      · rw [if_pos c2]
        have q : ((o + 1) % 24 + i) % 24 = (o + (i + 1)) % 24 := by omega
        rw [q]
        exact (h4 (i + 1) (by omega)).fr fun a h5 h6 => t3 a (by omega)
      · rw [if_neg c2]
        have q : ((o + 1) % 24 + i) % 24 = (o + 24) % 24 := by omega
        rw [q]
        exact t2
  · refine ⟨st2 τ 13 2 (nI (m + 1)), ?_, ⟨o, h1, ?_, ?_, fun i hi => ?_⟩, (t3.le fun a ha => Or.inr (by omega)).tr (Fr.st (S := fun a => a = 13 ∨ 15 ≤ a ∧ a ≤ 110) (Or.inl rfl))⟩
    · have c2 : ¬ 24 ≤ m := by omega
      simp (disch := omega) only [f_X0_keep, h2, h3, l_24, l_1, n_add, hix, n_ix, ing_ok, t1, bd_some, e13, n_le, c2, ↓reduceIte, lt_eq]
    · rw [st2_k (by decide), e13]
      exact h2
    · unfold noteM
      rw [st2_at, if_neg c]
    · unfold noteM at hi
      rw [if_neg c] at hi
      have e : ∀ a, a ≠ 13 → st2 τ 13 2 (nI (m + 1)) a = τ a := fun a ha => st2_row ha
      have hia : 15 ≤ 15 + 4 * ((o + i) % 24) := by omega
      refine RS.fr (σ := τ) ?_ fun a h5 h6 => e a (by omega)
      unfold noteA
      rw [if_neg c]
      by_cases c2 : i = m
      · rw [if_pos c2, c2]
        exact t2
      · rw [if_neg c2]
        exact (h4 i (by omega)).fr fun a h5 h6 => t3 a (by omega)
theorem mnote_51 {m : Nat} (hm : m ≤ 23) : ∀ n j σ, σ 183 17 = nI m → j ≤ 29 → 29 - j < n → ∃ τ, f_X8_note_51 n (nI j) σ = some (st2 τ 183 17 (nI (m + 1))) ∧ (∀ k, j ≤ k → k < 29 → τ 191 (29 * m + k) = σ 187 k) ∧ (∀ i, (i < 29 * m + j ∨ 29 * m + 29 ≤ i) → τ 191 i = σ 191 i) ∧ Fr (fun a => a = 191) σ τ := by
  intro n
  induction n with
  | zero => intro j σ _ h1 h2; omega
  | succ n ih =>
    intro j σ h0 h1 h2
    by_cases c : j = 29
    · subst c
      refine ⟨σ, ?_, fun k h3 h4 => by omega, fun i _ => rfl, Fr.rf⟩
      simp (disch := omega) only [f_X8_note_51, l_29, l_1, n_le, Nat.le_refl, ↓reduceIte, h0, n_add, lt_eq]
    · have c2 : ¬ 29 ≤ j := by omega
      obtain ⟨τ, t1, t2, t3, t4⟩ := ih (j + 1) (st2 σ 191 (29 * m + j) (σ 187 j)) (by rw [st2_a (by decide)]; exact h0) (by omega) (by omega)
      refine ⟨τ, ?_, fun k h3 h4 => ?_, fun i h3 => ?_, (Fr.st (S := fun a => a = 191) rfl).tr t4⟩
      · rw [← t1]
        simp (disch := omega) only [f_X8_note_51, l_29, l_1, n_le, c2, ↓reduceIte, h0, n_mul, n_add, n_ix, ing_ok, lt_eq]
      · by_cases e : k = j
        · subst e
          rw [t3 _ (by omega), st2_at]
        · rw [t2 k (by omega) h4, st2_a (by decide)]
      · rw [t3 i (by omega), st2_k (by omega)]
theorem l_667 : (667 : Int32) = nI 667 := by decide +kernel
theorem mnote_11 : ∀ n j σ, σ 183 17 = nI 24 → j ≤ 667 → 667 - j < n → ∃ τ, f_X8_note_11 n (nI j) σ = f_X8_note_51 FU (nI 0) (st2 τ 183 17 (nI 23)) ∧ (∀ k, j ≤ k → k < 667 → τ 191 k = σ 191 (k + 29)) ∧ (∀ k, k < j → τ 191 k = σ 191 k) ∧ Fr (fun a => a = 191) σ τ := by
  intro n
  induction n with
  | zero => intro j σ _ h1 h2; omega
  | succ n ih =>
    intro j σ h0 h1 h2
    by_cases c : 667 ≤ j
    · refine ⟨σ, ?_, fun k h3 h4 => by omega, fun k _ => rfl, Fr.rf⟩
      have e : nI 24 - (1 : Int32) = nI 23 := by decide +kernel
      have c' : (667 : Int32) ≤ nI j := by rw [l_667, n_le (by omega) (by omega)]; exact c
      rw [f_X8_note_11, if_pos c', h0, lt_eq, lt_eq, e, l_0]
    · obtain ⟨τ, t1, t2, t3, t4⟩ := ih (j + 1) (st2 σ 191 j (σ 191 (j + 29))) (by rw [st2_a (by decide)]; exact h0) (by omega) (by omega)
      refine ⟨τ, ?_, fun k h3 h4 => ?_, fun k h3 => ?_, (Fr.st (S := fun a => a = 191) rfl).tr t4⟩
      · rw [← t1]
        have c' : ¬ (667 : Int32) ≤ nI j := by rw [l_667, n_le (by omega) (by omega)]; exact c
        rw [f_X8_note_11, if_neg c', l_29, l_1, n_add, n_add, ing_ok (by omega) (by omega), ing_ok (by omega) (by omega), lt_eq, lt_eq, n_ix (by omega), n_ix (by omega)]
      · by_cases e : k = j
        · subst e
          rw [t3 k (by omega), st2_at]
        · rw [t2 k (by omega) h4, st2_k (by omega)]
      · rw [t3 k (by omega), st2_k (by omega)]
theorem RA_of {σ τ : Mem} {a b : Nat} {g : Nat → Nat} (h : RA σ a g) (h8 : g 0 ≤ 8) (e : ∀ k, k < 29 → τ b k = σ a k) : RA τ b g := by
  obtain ⟨⟨h0, h1, h2, h3, h4⟩, h5⟩ := h
  refine ⟨⟨?_, ?_, ?_, ?_, ?_⟩, fun k hk => ⟨?_, ?_, ?_⟩⟩
  all_goals rw [e _ (by omega)]
  · exact h0
  · exact h1
  · exact h2
  · exact h3
  · exact h4
  · exact (h5 k hk).1
  · exact (h5 k hk).2.1
  · exact (h5 k hk).2.2
theorem mnote {σ : Mem} {m : Nat} {act : Nat → Nat → Nat} {g : Nat → Nat} (h : R2 σ m act) (hm : m ≤ 24) (ha : ∀ i, i < m → act i 0 ≤ 8) (hR : RA σ 187 g) (h8 : g 0 ≤ 8) : ∃ τ, f_X8_note σ = some τ ∧ R2 τ (noteM m) (noteA m act g) ∧ Fr (fun a => a = 183 ∨ a = 191) σ τ ∧ ∀ k, k ≠ 17 → τ 183 k = σ 183 k := by
  obtain ⟨h1, h2⟩ := h
  by_cases c : m = 24
  · subst c
    obtain ⟨τ1, a1, a2, a3, a4⟩ := mnote_11 FU 0 σ h1 (by omega) (by rw [FU_eq]; omega)
    obtain ⟨τ2, b1, b2, b3, b4⟩ := mnote_51 (m := 23) (by omega) FU 0 (st2 τ1 183 17 (nI 23)) st2_at (by omega) (by rw [FU_eq]; omega)
    have e187 : st2 τ1 183 17 (nI 23) 187 = σ 187 := by rw [st2_row (by omega)]; exact a4 187 (by omega)
    have e191 : ∀ i, st2 τ1 183 17 (nI 23) 191 i = τ1 191 i := fun i => st2_a (by omega)
    refine ⟨st2 τ2 183 17 (nI 24), ?_, ⟨st2_at, fun i hi => ?_⟩, fun a ha' => ?_, fun k hk => ?_⟩
    · unfold f_X8_note
      rw [h1, if_pos (by decide), lt_eq, l_0, a1, b1]
    · have hi' : i < 24 := hi
      unfold noteA
      rw [if_pos rfl]
      by_cases c2 : i < 23
      · rw [if_pos c2]
        refine RA_of (h2 (i + 1) (by omega)) (ha (i + 1) (by omega)) fun k hk => ?_
        show st2 τ2 183 17 (nI 24) 191 (29 * i + k) = σ 191 (29 * (i + 1) + k)
        rw [st2_a (by omega), b3 _ (by omega), e191, a2 _ (by omega) (by omega)]
        rw [show 29 * i + k + 29 = 29 * (i + 1) + k by omega]
      · rw [if_neg c2]
        refine RA_of hR h8 fun k hk => ?_
        show st2 τ2 183 17 (nI 24) 191 (29 * i + k) = σ 187 k
        rw [st2_a (by omega), show i = 23 by omega, b2 k (by omega) hk, e187]
    · rw [st2_row (by omega), b4 a (by omega), st2_row (by omega), a4 a (by omega)]
    · rw [st2_k hk, b4 183 (by omega), st2_k hk, a4 183 (by omega)]
  · obtain ⟨τ2, b1, b2, b3, b4⟩ := mnote_51 (m := m) (by omega) FU 0 σ h1 (by omega) (by rw [FU_eq]; omega)
    refine ⟨st2 τ2 183 17 (nI (m + 1)), ?_, ⟨?_, fun i hi => ?_⟩, fun a ha' => ?_, fun k hk => ?_⟩
    · unfold f_X8_note
      rw [h1, if_neg (by rw [l_24, n_eq (by omega) (by omega)]; exact c), lt_eq, l_0, b1]
    · unfold noteM
      rw [if_neg c]
      exact st2_at
    · unfold noteM at hi
      rw [if_neg c] at hi
      unfold noteA
      rw [if_neg c]
      by_cases c2 : i = m
      · rw [if_pos c2]
        refine RA_of hR h8 fun k hk => ?_
        show st2 τ2 183 17 (nI (m + 1)) 191 (29 * i + k) = σ 187 k
        rw [st2_a (by omega), c2, b2 k (by omega) hk]
      · rw [if_neg c2]
        refine RA_of (h2 i (by omega)) (ha i (by omega)) fun k hk => ?_
        show st2 τ2 183 17 (nI (m + 1)) 191 (29 * i + k) = σ 191 (29 * i + k)
        have hlt : 29 * i + 29 ≤ 29 * m := by omega
        rw [st2_a (by omega), b3 _ (by omega)]
    · rw [st2_row (by omega), b4 a (by omega)]
    · rw [st2_k hk, b4 183 (by omega)]
