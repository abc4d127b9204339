/-! PURE, 12: what was found; kinds; rows dropped and made -/
theorem CI.sta {σ : Mem} {s : Sys} {x : Int32} (h : CI σ s) : CI (st2 σ 0 9 x) (s.w_sta x) := by
  have e : ∀ a, a ≠ 0 → st2 σ 0 9 x a = σ a := fun a ha => st2_row ha
  exact ⟨h.c1.fr fun a h1 h2 => e a (by omega), h.c2.fr fun a h1 h2 => e a (by omega), h.c3.fr fun a h1 h2 => e a (by omega), h.c4.fr (e 2 (by omega)) (e 7 (by omega)), ⟨by rw [st2_k (by omega)]; exact h.c5.1, st2_at, by rw [st2_a (by omega)]; exact h.c5.2.2.1, by rw [st2_a (by omega)]; exact h.c5.2.2.2⟩, h.c6.fr fun a h1 h2 => e a (by omega), h.c7.fr (e 157 (by omega)) (e 158 (by omega))⟩
theorem MI.sta {σ : Mem} {s : Sys} {x : Int32} (h : MI σ s) : MI (st2 σ 183 3 x) (s.w_sta x) := by
  have e : ∀ a, a ≠ 183 → st2 σ 183 3 x a = σ a := fun a ha => st2_row ha
  refine ⟨h.m1.fr (e 187 (by omega)), by rw [st2_k (by omega)]; exact h.m1b, ⟨by rw [st2_k (by omega)]; exact h.m2.1, fun i hi => by rw [shm_eq (e 191 (by omega))]; exact h.m2.2 i hi⟩, h.m3.fr (e 194 (by omega)) (e 195 (by omega)), ⟨by rw [st2_k (by omega)]; exact h.m4.1, by rw [e 189 (by omega)]; exact h.m4.2⟩, ⟨by rw [st2_k (by omega)]; exact h.m5.1, st2_at⟩, h.m6.fr (e 184 (by omega)) (e 185 (by omega)) (e 186 (by omega)), ⟨by rw [st2_k (by omega)]; exact h.m7.1, by rw [e 196 (by omega)]; exact h.m7.2⟩⟩
theorem SysOk.sta {s : Sys} {x : Int32} (h : SysOk s) : SysOk (s.w_sta x) := h
theorem xfound {p : Int32} {σ : Mem} {s : Sys} (h : CI σ s) : ∃ τ, f_X7_found p σ = some (-1000010 - p, τ) ∧ CI τ (s.w_sta p) ∧ Fr (fun a => a < 183) σ τ := ⟨st2 σ 0 9 p, rfl, h.sta, Fr.st (S := fun a => a < 183) (by omega)⟩
theorem xfine {p : Int32} {σ : Mem} {s : Sys} (h : CI σ s) : ∃ τ, f_X7_fine p σ = some (p, τ) ∧ CI τ (s.w_sta 0) ∧ Fr (fun a => a < 183) σ τ := ⟨st2 σ 0 9 0, rfl, h.sta, Fr.st (S := fun a => a < 183) (by omega)⟩
theorem mfind {p : Int32} {σ : Mem} {s : Sys} (h : MI σ s) : ∃ τ, f_X8_find p σ = some (-1000010 - p, τ) ∧ MI τ (s.w_sta p) ∧ Fr (fun a => 183 ≤ a) σ τ := ⟨st2 σ 183 3 p, rfl, h.sta, Fr.st (S := fun a => 183 ≤ a) (by omega)⟩
theorem mwell {p : Int32} {σ : Mem} {s : Sys} (h : MI σ s) : ∃ τ, f_X8_well p σ = some (p, τ) ∧ MI τ (s.w_sta 0) ∧ Fr (fun a => 183 ≤ a) σ τ := ⟨st2 σ 183 3 0, rfl, h.sta, Fr.st (S := fun a => 183 ≤ a) (by omega)⟩
/-- is a kind under a kind -/
def kiV (a q : Nat) : Nat := if q = 0 then 1 else if q = a then 1 else if q = 1 ∧ a < 4 then 1 else if q = 4 ∧ a = 5 then 1 else 0
theorem xki_z {p q : Int32} {σ : Mem} : f_X7_isOfKind p q σ = (f_X7_isOfKind p q (fun _ _ => 0)).map (fun r => (r.1, σ)) := by
  unfold f_X7_isOfKind swi
  by_cases c : q.toInt < 0 ∨ 0 + ((5 : Nat) : Int) ≤ q.toInt
  · rw [if_pos c, if_pos c]
    by_cases d : p = q
    · rw [if_pos d, if_pos d]; rfl
    · rw [if_neg d, if_neg d]; rfl
  · rw [if_neg c, if_neg c]
    generalize (q.toInt - 0).toNat = j
    rcases j with _ | _ | _ | _ | _ | j
    all_goals dsimp only
    all_goals (repeat' split)
    all_goals rfl
theorem mki_z {p q : Int32} {σ : Mem} : f_X8_isKind p q σ = (f_X8_isKind p q (fun _ _ => 0)).map (fun r => (r.1, σ)) := by
  unfold f_X8_isKind f_X8_isKind_19
  repeat' split
  all_goals rfl
def xkiV (p q : Int32) : Option Int32 := (f_X7_isOfKind p q (fun _ _ => 0)).map (fun r => r.1)
def mkiV (p q : Int32) : Option Int32 := (f_X8_isKind p q (fun _ _ => 0)).map (fun r => r.1)
theorem z_of {f : Mem → Option (Int32 × Mem)} {v : Int32} {σ : Mem} (hz : f σ = (f (fun _ _ => 0)).map (fun r => (r.1, σ))) (h : (f (fun _ _ => 0)).map (fun r => r.1) = some v) : f σ = some (v, σ) := by
  rw [hz]
  cases e : f (fun _ _ => 0) with
  | none => rw [e] at h; cases h
  | some q =>
    rw [e, Option.map_some] at h
    rw [Option.map_some, Option.some.inj h]
theorem ki_key : ∀ a, a < 6 → 1 ≤ a → ∀ q, q < 6 → xkiV (nI a) (nI q) = some (nI (kiV a q)) ∧ mkiV (nI a) (nI q) = some (nI (kiV a q)) := by decide +kernel
theorem xki {a q : Nat} {σ : Mem} (h1 : 1 ≤ a) (h2 : a ≤ 5) (h3 : q ≤ 5) : f_X7_isOfKind (nI a) (nI q) σ = some (nI (kiV a q), σ) := z_of xki_z (ki_key a (by omega) h1 q (by omega)).1
theorem mki {a q : Nat} {σ : Mem} (h1 : 1 ≤ a) (h2 : a ≤ 5) (h3 : q ≤ 5) : f_X8_isKind (nI a) (nI q) σ = some (nI (kiV a q), σ) := z_of mki_z (ki_key a (by omega) h1 q (by omega)).2
theorem kiV_01 (a q : Nat) : kiV a q = 0 ∨ kiV a q = 1 := by
  unfold kiV
  repeat' split
  all_goals first | exact Or.inl rfl | exact Or.inr rfl
theorem both_as (p q : Int32) : BOTH (f_X7_as p q) (f_X8_as p q) := by
  intro s hs
  have h8 := hs.og.1.1
  have hb := hs.og.1
  by_cases c0 : hous p (s.g 0)
  · obtain ⟨j, rfl, hj⟩ := c0
    obtain ⟨k1, k2⟩ := (hb.2.2.2.2 j hj).1
    have d := Classical.propDecidable (rng q 0 5)
    have hx : ∀ σ, f_X7_within q (nI 0) (nI 5) σ = some (if rng q 0 5 then nI 1 else nI 0, σ) := fun σ => xin_rng (by decide) (by decide)
    have hy : ∀ σ, f_X8_in q.toInt64 0 5 σ = some (if rng q 0 5 then nI 1 else nI 0, σ) := fun σ => min_rng (a := 0) (b := 5) rfl rfl (by decide)
    by_cases c : rng q 0 5
    · have c' := c
      obtain ⟨k, rfl, -, hk⟩ := c'
      rcases kiV_01 (s.g (5 + j)) k with w | w
      · refine ⟨-1000010 - 3, s.w_sta 3, hs.sta, fun σ hc => ?_, fun σ hm => ?_⟩
        · have e := (hc.c1.2 j hj).1
          obtain ⟨τ, t1, t2⟩ := xfound (p := 3) hc
          refine ⟨τ, ?_, t2⟩
          rw [l_3] at t1
          have w' : ∀ σ, f_X7_isOfKind (nI (s.g (5 + j))) (nI k) σ = some (nI 0, σ) := fun σ => by rw [xki k1 k2 hk, w]
          simp (disch := omega) only [f_X7_as, xhouse_y hs hj hc, hx, c, bd2_some, l_0, l_3, l_5, n_eq, n_ix, ing_ok, ↓reduceIte, Nat.reduceEqDiff, e, w', t1]
        · have e := (hm.m1.2 j hj).1
          obtain ⟨τ, t1, t2⟩ := mfind (p := 3) hm
          refine ⟨τ, ?_, t2⟩
          rw [l_3] at t1
          have w' : ∀ σ, f_X8_isKind (nI (s.g (5 + j))) (nI k) σ = some (nI 0, σ) := fun σ => by rw [mki k1 k2 hk, w]
          simp (disch := omega) only [f_X8_as, mhouse_y hs hj hm, hy, c, bd2_some, l_0, l_3, l_5, n_add, n_eq, n_ix, ing_ok, ↓reduceIte, Nat.reduceEqDiff, e, w', t1]
      · refine ⟨nI j, s.w_sta 0, hs.sta, fun σ hc => ?_, fun σ hm => ?_⟩
        · have e := (hc.c1.2 j hj).1
          obtain ⟨τ, t1, t2⟩ := xfine (p := nI j) hc
          refine ⟨τ, ?_, t2⟩
          have w' : ∀ σ, f_X7_isOfKind (nI (s.g (5 + j))) (nI k) σ = some (nI 1, σ) := fun σ => by rw [xki k1 k2 hk, w]
          simp (disch := omega) only [f_X7_as, xhouse_y hs hj hc, hx, c, bd2_some, l_0, l_5, n_eq, n_ix, ing_ok, ↓reduceIte, Nat.reduceEqDiff, e, w', t1]
        · have e := (hm.m1.2 j hj).1
          obtain ⟨τ, t1, t2⟩ := mwell (p := nI j) hm
          refine ⟨τ, ?_, t2⟩
          have w' : ∀ σ, f_X8_isKind (nI (s.g (5 + j))) (nI k) σ = some (nI 1, σ) := fun σ => by rw [mki k1 k2 hk, w]
          simp (disch := omega) only [f_X8_as, mhouse_y hs hj hm, hy, c, bd2_some, l_0, l_5, n_add, n_eq, n_ix, ing_ok, ↓reduceIte, Nat.reduceEqDiff, e, w', t1]
    · refine ⟨-1000001, s, hs, XS.rf fun σ hc => ?_, MS.rf fun σ hm => ?_⟩
      · simp (disch := omega) only [f_X7_as, xhouse_y hs hj hc, hx, c, bd2_some, l_0, l_5, n_eq, Nat.reduceEqDiff, ↓reduceIte]
      · simp (disch := omega) only [f_X8_as, mhouse_y hs hj hm, hy, c, bd2_some, l_0, n_eq, Nat.reduceEqDiff, ↓reduceIte]
  · refine ⟨-1000001, s, hs, XS.rf fun σ hc => ?_, MS.rf fun σ hm => ?_⟩
    · simp only [f_X7_as, xhouse_n hs c0 hc, bd2_some, l_0, ↓reduceIte]
    · simp only [f_X8_as, mhouse_n hs c0 hm, bd2_some, l_0, ↓reduceIte]
