/-! PURE, 44: the tape read by the reference: tokens -/
def TM (σ : Mem) (t : Nat → Nat) (L : Nat) : Prop := L ≤ 100 ∧ σ 183 8 = nI L ∧ ∀ k, k < L → σ 189 k = nI (t k) ∧ t k ≤ 255
def MF0 (σ τ : Mem) : Prop := ∀ a i, ¬ (a = 183 ∧ 10 ≤ i ∧ i ≤ 13) → τ a i = σ a i
def MFn (n : Nat) (σ τ : Mem) : Prop := ∀ a i, ¬ (a = 183 ∧ 10 ≤ i ∧ i ≤ 14) → ¬ (a = 190 ∧ i = n) → τ a i = σ a i
def MFr (σ τ : Mem) : Prop := ∀ a i, ¬ (a = 183 ∧ 10 ≤ i ∧ i ≤ 14) → a ≠ 190 → τ a i = σ a i
theorem MF0.rf {σ : Mem} : MF0 σ σ := fun _ _ _ => rfl
theorem MF0.tr {σ τ υ : Mem} (h1 : MF0 σ τ) (h2 : MF0 τ υ) : MF0 σ υ := fun a i n => (h2 a i n).trans (h1 a i n)
theorem MF0.st {σ : Mem} {k : Nat} {x : Int32} (h : 10 ≤ k ∧ k ≤ 13) : MF0 σ (st2 σ 183 k x) := fun a i n => by
  by_cases e : a = 183
  · subst e
    rw [st2_k (by omega)]
  · rw [st2_a e]
theorem MFr.tr {σ τ υ : Mem} (h1 : MFr σ τ) (h2 : MFr τ υ) : MFr σ υ := fun a i n1 n2 => (h2 a i n1 n2).trans (h1 a i n1 n2)
theorem MF0.toN {σ τ : Mem} {n : Nat} (h : MF0 σ τ) : MFn n σ τ := fun a i n1 _ => h a i (by omega)
theorem MF0.toR {σ τ : Mem} (h : MF0 σ τ) : MFr σ τ := fun a i n1 _ => h a i (by omega)
theorem MFn.toR {σ τ : Mem} {n : Nat} (h : MFn n σ τ) : MFr σ τ := fun a i n1 n2 => h a i n1 (fun w => n2 w.1)
theorem MFn.tr {σ τ υ : Mem} {n : Nat} (h1 : MFn n σ τ) (h2 : MFn n τ υ) : MFn n σ υ := fun a i n1 n2 => (h2 a i n1 n2).trans (h1 a i n1 n2)
theorem TM.fr {σ τ : Mem} {t : Nat → Nat} {L : Nat} (h : TM σ t L) (hF : MFr σ τ) : TM τ t L := ⟨h.1, by rw [hF 183 8 (by omega) (by omega)]; exact h.2.1, fun k hk => by rw [hF 189 k (by omega) (by omega)]; exact h.2.2 k hk⟩
def isG (c : Nat) : Prop := (97 ≤ c ∧ c ≤ 122) ∨ c = 44 ∨ c = 59
/-- the token at a place -/
def TK (t : Nat → Nat) (L : Nat) (σ : Mem) (a : Nat) : Prop := σ 183 13 = nI a ∧ (a = L → σ 183 11 = nI 3) ∧ (a < L → dR t L a = 0 → (isG (t a) → σ 183 11 = nI 1) ∧ (¬ isG (t a) → σ 183 11 = nI 0) ∧ σ 183 12 = nI (t a) ∧ σ 183 10 = nI (a + 1)) ∧ (dR t L a ≠ 0 → (dR t L a ≤ 2 → σ 183 11 = nI 2 ∧ σ 183 12 = nI (nv t L a)) ∧ (¬ dR t L a ≤ 2 → σ 183 11 = nI 0) ∧ σ 183 10 = nI (a + dR t L a))
def vvN (t : Nat → Nat) (p : Nat) : Nat → Nat
  | 0 => 0
  | i + 1 => if vvN t p i ≤ 99 then 10 * vvN t p i + (t (p + i) - 48) else vvN t p i
theorem vvN_lt {t : Nat → Nat} {L p : Nat} : ∀ i, i ≤ dR t L p → vvN t p i < 1000 := by
  intro i
  induction i with
  | zero => intro _; show 0 < 1000; omega
  | succ i ih =>
    intro h
    have d : 48 ≤ t (p + i) ∧ t (p + i) ≤ 57 := (dR_dig (t := t) (L := L) (a := p) (j := i) (by omega)).2
    have := ih (by omega)
    rw [vvN]
    split <;> omega
theorem vvN_nv {t : Nat → Nat} {L p : Nat} (h : dR t L p = 1 ∨ dR t L p = 2) : vvN t p (dR t L p) = nv t L p := by
  have d0 : 48 ≤ t (p + 0) ∧ t (p + 0) ≤ 57 := (dR_dig (t := t) (L := L) (a := p) (j := 0) (by omega)).2
  rw [Nat.add_zero] at d0
  have e1 : vvN t p 1 = t p - 48 := by
    rw [vvN, vvN, if_pos (by omega), Nat.add_zero]
    omega
  unfold nv
  rcases h with h | h
  · rw [h, if_pos rfl, e1]
  · rw [h, if_neg (by omega), vvN, e1, if_pos (by omega)]
theorem mnext_33 {t : Nat → Nat} {L p : Nat} (hp : p ≤ L) : ∀ m i σ, TM σ t L → σ 183 10 = nI (p + i) → σ 183 12 = nI (vvN t p i) → i ≤ dR t L p → dR t L p - i < m → ∃ τ, f_X8_nextToken_33 m σ = f_X8_nextToken_119 τ ∧ τ 183 10 = nI (p + dR t L p) ∧ τ 183 12 = nI (vvN t p (dR t L p)) ∧ (∀ a i, ¬ (a = 183 ∧ (i = 10 ∨ i = 12)) → τ a i = σ a i) := by
  intro m
  induction m with
  | zero => intro i σ _ _ _ _ h; omega
  | succ m ih =>
    intro i σ hT h10 h12 h1 h2
    have hL := hT.1
    have dl := dR_le (t := t) hp
    have vl := vvN_lt (t := t) (L := L) (p := p) i h1
    have stop : ¬ (p + i < L ∧ isD (t (p + i))) → i = dR t L p := fun w => by
      have := dR_step i p h1
      have z := dR_n w
      omega
    by_cases c1 : L ≤ p + i
    · have e := stop (fun w => by omega)
      rw [← e]
      refine ⟨σ, ?_, h10, h12, fun _ _ _ => rfl⟩
      rw [f_X8_nextToken_33, hT.2.1, h10, if_pos ((n_le (by omega) (by omega)).mpr c1)]
    · obtain ⟨v1, v2⟩ := hT.2.2 (p + i) (by omega)
      have dd := Classical.propDecidable (rng (nI (t (p + i))) 48 57)
      have rw1 : f_X8_in (nI (t (p + i))).toInt64 48 57 σ = some (if rng (nI (t (p + i))) 48 57 then nI 1 else nI 0, σ) := min_rng (a := 48) (b := 57) rfl rfl (by decide)
      have r1 : rng (nI (t (p + i))) 48 57 ↔ isD (t (p + i)) := by
        rw [rng_int (by decide), n_int (by omega)]
        unfold isD
        omega
      rcases Classical.em (isD (t (p + i))) with c3 | c3
      · have hj : i < dR t L p := by
          apply Nat.lt_of_not_le
          intro w
          have e : i = dR t L p := by omega
          rw [e] at c1 c3
          exact dR_end (t := t) (L := L) (a := p) ⟨by omega, c3⟩
        have c3' : 48 ≤ t (p + i) ∧ t (p + i) ≤ 57 := c3
        have vs : vvN t p (i + 1) = if vvN t p i ≤ 99 then 10 * vvN t p i + (t (p + i) - 48) else vvN t p i := rfl
        by_cases c4 : vvN t p i ≤ 99
        · rw [if_pos c4] at vs
          have hT2 : TM (st2 (st2 σ 183 12 (nI (vvN t p (i + 1)))) 183 10 (nI (p + (i + 1)))) t L := hT.fr fun a k n1 n2 => by
            by_cases e : a = 183
            · subst e
              rw [st2_k (by omega), st2_k (by omega)]
            · rw [st2_a e, st2_a e]
          obtain ⟨τ, t1, t2, t3, t4⟩ := ih (i + 1) _ hT2 st2_at (by rw [st2_k (by omega), st2_at]) (by omega) (by omega)
          refine ⟨τ, ?_, t2, t3, fun a k n => ?_⟩
          · rw [← t1, f_X8_nextToken_33, hT.2.1, h10, if_neg (by rw [n_le (by omega) (by omega)]; exact c1), ing_ok (by omega) (by omega), n_ix (by omega), v1, rw1, if_pos (r1.mpr c3), bd2_some, if_neg (by decide), h12, show (99 : Int32) = nI 99 from rfl, if_pos ((n_le (by omega) (by omega)).mpr c4), h10, ing_ok (by omega) (by omega), n_ix (by omega), v1, l_10, n_mul, n_add, show (48 : Int32) = nI 48 from rfl, n_sub (by omega), show 10 * vvN t p i + t (p + i) - 48 = vvN t p (i + 1) by omega, lt_eq, st2_k (by omega), h10, l_1, n_add, lt_eq]
            rfl
          · rw [t4 a k n]
            by_cases e : a = 183
            · subst e
              rw [st2_k (by omega), st2_k (by omega)]
            · rw [st2_a e, st2_a e]
        · rw [if_neg c4] at vs
          have hT2 : TM (st2 (st2 σ 183 12 (nI (vvN t p i))) 183 10 (nI (p + (i + 1)))) t L := hT.fr fun a k n1 n2 => by
            by_cases e : a = 183
            · subst e
              rw [st2_k (by omega), st2_k (by omega)]
            · rw [st2_a e, st2_a e]
          obtain ⟨τ, t1, t2, t3, t4⟩ := ih (i + 1) _ hT2 st2_at (by rw [st2_k (by omega), st2_at, vs]) (by omega) (by omega)
          refine ⟨τ, ?_, t2, t3, fun a k n => ?_⟩
          · rw [← t1, f_X8_nextToken_33, hT.2.1, h10, if_neg (by rw [n_le (by omega) (by omega)]; exact c1), ing_ok (by omega) (by omega), n_ix (by omega), v1, rw1, if_pos (r1.mpr c3), bd2_some, if_neg (by decide), h12, show (99 : Int32) = nI 99 from rfl, if_neg (by rw [n_le (by omega) (by omega)]; exact c4), lt_eq, st2_k (by omega), h10, l_1, n_add, lt_eq]
            rfl
          · rw [t4 a k n]
            by_cases e : a = 183
            · subst e
              rw [st2_k (by omega), st2_k (by omega)]
            · rw [st2_a e, st2_a e]
      · have e := stop (fun w => c3 w.2)
        rw [← e]
        refine ⟨σ, ?_, h10, h12, fun _ _ _ => rfl⟩
        rw [f_X8_nextToken_33, hT.2.1, h10, if_neg (by rw [n_le (by omega) (by omega)]; exact c1), ing_ok (by omega) (by omega), n_ix (by omega), v1, rw1, if_neg (fun w => c3 (r1.mp w)), bd2_some, if_pos l_0.symm]
theorem mnext_119 {σ : Mem} {t : Nat → Nat} {L p : Nat} (hT : TM σ t L) (hp : p ≤ L) (h13 : σ 183 13 = nI p) (h10 : σ 183 10 = nI (p + dR t L p)) (h12 : σ 183 12 = nI (vvN t p (dR t L p))) (h11 : σ 183 11 = if p = L then nI 3 else nI 0) : ∃ τ, f_X8_nextToken_119 σ = some τ ∧ TK t L τ p ∧ MF0 σ τ := by
  have hL := hT.1
  have dl := dR_le (t := t) hp
  by_cases c1 : dR t L p = 0
  · rw [c1, Nat.add_zero] at h10
    by_cases c2 : p = L
    · rw [if_pos c2] at h11
      refine ⟨σ, ?_, ⟨h13, fun _ => h11, fun w => by omega, fun w => absurd c1 w⟩, MF0.rf⟩
      rw [f_X8_nextToken_119, h10, h13, if_pos ((n_le (by omega) (by omega)).mpr (Nat.le_refl _)), h11, if_neg (by decide)]
    · rw [if_neg c2] at h11
      obtain ⟨v1, v2⟩ := hT.2.2 p (by omega)
      have dd := Classical.propDecidable (rng (nI (t p)) 97 122)
      have rw1 : ∀ τ, f_X8_in (nI (t p)).toInt64 97 122 τ = some (if rng (nI (t p)) 97 122 then nI 1 else nI 0, τ) := fun τ => min_rng (a := 97) (b := 122) rfl rfl (by decide)
      have r1 : rng (nI (t p)) 97 122 ↔ 97 ≤ t p ∧ t p ≤ 122 := by
        rw [rng_int (by decide), n_int (by omega)]
        omega
      have e0 : st2 σ 183 12 (nI (t p)) 183 10 = nI p := by rw [st2_k (by omega)]; exact h10
      have e1 : ∀ x, st2 (st2 σ 183 12 (nI (t p))) 183 11 x 183 10 = nI p := fun x => by rw [st2_k (by omega), st2_k (by omega)]; exact h10
      have fin : ∀ b, ((isG (t p) → b = 1) ∧ (¬ isG (t p) → b = 0)) → ∃ τ, some (st2 (st2 (st2 σ 183 12 (nI (t p))) 183 11 (nI b)) 183 10 (nI (p + 1))) = some τ ∧ TK t L τ p ∧ MF0 σ τ := fun b hb => by
        refine ⟨_, rfl, ⟨?_, fun w => absurd w c2, fun _ _ => ⟨fun g => ?_, fun g => ?_, ?_, st2_at⟩, fun w => absurd c1 w⟩, ((MF0.st (by omega)).tr (MF0.st (by omega))).tr (MF0.st (by omega))⟩
        · rw [st2_k (by omega), st2_k (by omega), st2_k (by omega)]; exact h13
        · rw [st2_k (by omega), st2_at, hb.1 g]
        · rw [st2_k (by omega), st2_at, hb.2 g]
        · rw [st2_k (by omega), st2_k (by omega), st2_at]
      have head : f_X8_nextToken_119 σ = if (if rng (nI (t p)) 97 122 then nI 1 else nI 0) = 0 then (if nI (t p) = nI 44 then some (st2 (st2 (st2 σ 183 12 (nI (t p))) 183 11 (nI 1)) 183 10 (nI (p + 1))) else if nI (t p) = nI 59 then some (st2 (st2 (st2 σ 183 12 (nI (t p))) 183 11 (nI 1)) 183 10 (nI (p + 1))) else some (st2 (st2 (st2 σ 183 12 (nI (t p))) 183 11 (nI 0)) 183 10 (nI (p + 1)))) else some (st2 (st2 (st2 σ 183 12 (nI (t p))) 183 11 (nI 1)) 183 10 (nI (p + 1))) := by
        have l44 : (44 : Int32) = nI 44 := rfl
        have l59 : (59 : Int32) = nI 59 := rfl
        rw [f_X8_nextToken_119, h10, h13, if_pos ((n_le (by omega) (by omega)).mpr (Nat.le_refl _)), h11, if_pos l_0.symm, ing_ok (by omega) (by omega), n_ix (by omega), v1, lt_eq, st2_at, rw1, bd2_some, st2_at, l44, l59]
        simp only [lt_eq, e1, l_0, l_1, n_add]
        rfl
      rw [head]
      by_cases g1 : 97 ≤ t p ∧ t p ≤ 122
      · rw [if_pos (r1.mpr g1), if_neg (by decide)]
        exact fin 1 ⟨fun _ => rfl, fun w => absurd (Or.inl g1) w⟩
      · rw [if_neg (fun w => g1 (r1.mp w)), if_pos l_0.symm]
        by_cases g2 : t p = 44
        · rw [if_pos (by rw [g2])]
          exact fin 1 ⟨fun _ => rfl, fun w => absurd (Or.inr (Or.inl g2)) w⟩
        · rw [if_neg (by rw [n_eq (by omega) (by omega)]; exact g2)]
          by_cases g3 : t p = 59
          · rw [if_pos (by rw [g3])]
            exact fin 1 ⟨fun _ => rfl, fun w => absurd (Or.inr (Or.inr g3)) w⟩
          · rw [if_neg (by rw [n_eq (by omega) (by omega)]; exact g3)]
            exact fin 0 ⟨fun w => by
              have w' : (97 ≤ t p ∧ t p ≤ 122) ∨ t p = 44 ∨ t p = 59 := w
              omega, fun _ => rfl⟩
  · have pl : p < L := (dR_dig (t := t) (L := L) (a := p) (j := 0) (by omega)).1
    have cn : ¬ nI (p + dR t L p) ≤ nI p := by rw [n_le (by omega) (by omega)]; omega
    by_cases c2 : dR t L p ≤ 2
    · refine ⟨st2 σ 183 11 (nI 2), ?_, ⟨?_, fun w => by omega, fun _ w => absurd w c1, fun _ => ⟨fun _ => ⟨st2_at, ?_⟩, fun w => absurd c2 w, ?_⟩⟩, MF0.st (by omega)⟩
      · rw [f_X8_nextToken_119, h10, h13, if_neg cn, n_sub (by omega), show p + dR t L p - p = dR t L p by omega, l_2, if_pos ((n_le (by omega) (by omega)).mpr c2), lt_eq]
      · rw [st2_k (by omega)]; exact h13
      · rw [st2_k (by omega), h12, vvN_nv (by omega)]
      · rw [st2_k (by omega)]; exact h10
    · refine ⟨st2 σ 183 11 (nI 0), ?_, ⟨?_, fun w => by omega, fun _ w => absurd w c1, fun _ => ⟨fun w => absurd w c2, fun _ => st2_at, ?_⟩⟩, MF0.st (by omega)⟩
      · rw [f_X8_nextToken_119, h10, h13, if_neg cn, n_sub (by omega), show p + dR t L p - p = dR t L p by omega, l_2, if_neg (by rw [n_le (by omega) (by omega)]; exact c2), l_0, lt_eq]
      · rw [st2_k (by omega)]; exact h13
      · rw [st2_k (by omega)]; exact h10
theorem mnext {σ : Mem} {t : Nat → Nat} {L p : Nat} (hT : TM σ t L) (hp : p ≤ L) (h10 : σ 183 10 = nI p) : ∃ τ, f_X8_nextToken σ = some τ ∧ TK t L τ p ∧ MF0 σ τ := by
  have hL := hT.1
  have dl := dR_le (t := t) hp
  have mid : ∀ b, b = (if p = L then 3 else 0) → ∃ τ, f_X8_nextToken_33 FU (st2 (st2 (st2 σ 183 13 (nI p)) 183 11 (nI b)) 183 12 (nI 0)) = some τ ∧ TK t L τ p ∧ MF0 σ τ := fun b hb => by
    have hF : MF0 σ (st2 (st2 (st2 σ 183 13 (nI p)) 183 11 (nI b)) 183 12 (nI 0)) := ((MF0.st (by omega)).tr (MF0.st (by omega))).tr (MF0.st (by omega))
    obtain ⟨τ1, a1, a2, a3, a4⟩ := mnext_33 hp FU 0 _ (hT.fr hF.toR) (by rw [st2_k (by omega), st2_k (by omega), st2_k (by omega)]; exact h10) (by rw [st2_at]; rfl) (Nat.zero_le _) (by rw [FU_eq]; omega)
    have f2 : MF0 (st2 (st2 (st2 σ 183 13 (nI p)) 183 11 (nI b)) 183 12 (nI 0)) τ1 := fun a i n => a4 a i (by omega)
    obtain ⟨τ, t1, t2, t3⟩ := mnext_119 ((hT.fr hF.toR).fr f2.toR) hp (by rw [a4 183 13 (by omega), st2_k (by omega), st2_k (by omega), st2_at]) a2 a3 (by rw [a4 183 11 (by omega), st2_k (by omega), st2_at, hb]; split <;> rfl)
    exact ⟨τ, by rw [a1, t1], t2, (hF.tr f2).tr t3⟩
  have e10 : st2 σ 183 13 (nI p) 183 10 = nI p := by rw [st2_k (by omega)]; exact h10
  have e8 : st2 σ 183 13 (nI p) 183 8 = nI L := by rw [st2_k (by omega)]; exact hT.2.1
  by_cases c : p = L
  · obtain ⟨τ, t1, t2⟩ := mid 3 (if_pos c).symm
    refine ⟨τ, ?_, t2⟩
    rw [f_X8_nextToken, h10, lt_eq, e10, e8, if_pos (by rw [c]), l_3, l_0, lt_eq, lt_eq]
    exact t1
  · obtain ⟨τ, t1, t2⟩ := mid 0 (if_neg c).symm
    refine ⟨τ, ?_, t2⟩
    rw [f_X8_nextToken, h10, lt_eq, e10, e8, if_neg (by rw [n_eq (by omega) (by omega)]; exact c), l_0, lt_eq, lt_eq]
    exact t1
