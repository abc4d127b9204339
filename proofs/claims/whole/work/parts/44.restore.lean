/-! PURE, 19: an image restored; a row dropped -/
theorem both_restore (p : Int32) : BOTH (f_X7_restore p) (f_X8_restore p) := by
  intro s hs
  have d := Classical.propDecidable (rng p 0 1)
  have hx : ∀ σ, f_X7_within p (nI 0) (nI 1) σ = some (if rng p 0 1 then nI 1 else nI 0, σ) := fun σ => xin_rng (by decide) (by decide)
  have hy : ∀ σ, f_X8_in p.toInt64 0 1 σ = some (if rng p 0 1 then nI 1 else nI 0, σ) := fun σ => min_rng (a := 0) (b := 1) rfl rfl (by decide)
  by_cases c : rng p 0 1
  · have c' := c
    obtain ⟨i, rfl, -, hi⟩ := c'
    obtain ⟨q1, q2⟩ := hs.oi i (by omega)
    have q8 := q1.1.1
    by_cases c0 : s.im i 0 = 0
    · refine ⟨-1000002, s, hs, XS.rf fun σ hc => ?_, MS.rf fun σ hm => ?_⟩
      · have e : σ (175 + 4 * i) 3 = nI 0 := by rw [(hc.c3 i (by omega)).1.1, c0]
        simp (disch := omega) only [f_X7_restore, l_0, l_1, hx, c, bd2_some, n_eq, ↓reduceIte, Nat.reduceEqDiff, n_ix, ing_ok, e]
      · have e := (hm.m3 i (by omega)).1
        rw [if_pos c0] at e
        simp (disch := omega) only [f_X8_restore, l_0, hy, c, e, bd2_some, n_eq, ↓reduceIte, Nat.reduceEqDiff, n_ix, ing_ok]
    · have g1 := q2 (by omega)
      refine ⟨nI 1, (s.w_m 0).w_g (s.im i), ?_, fun σ hc => ?_, fun σ hm => ?_⟩
      · exact ⟨q1, Nat.zero_le _, fun k hk => absurd hk (Nat.not_lt_zero k), fun _ => by show 1 ≤ s.im i 0; omega, fun k hk => ⟨(hs.oi k hk).1, fun _ => by show 1 ≤ s.im i 0; omega⟩, hs.ot, hs.otp, hs.or, hs.on⟩
      · have e := (hc.c3 i (by omega)).1.1
        obtain ⟨τ, t1, t2, t3⟩ := xtake (b := 8) (hc.c3 i (by omega)) q8 (Or.inl (by omega))
        obtain ⟨o, h1, h2, -, -⟩ := hc.c2
        have e0 : ∀ a, (a < 8 ∨ 11 < a) → a ≠ 13 → st2 τ 13 2 (nI 0) a = σ a := fun a h5 h6 => (st2_row h6).trans (t3 a (by omega))
        refine ⟨st2 τ 13 2 (nI 0), ?_, ⟨t2.fr fun a h5 h6 => st2_row (by omega), ⟨o, h1, by rw [st2_k (by omega), t3 13 (by omega)]; exact h2, st2_at, fun k hk => absurd hk (Nat.not_lt_zero k)⟩, hc.c3.fr fun a h5 h6 => e0 a (by omega) (by omega), hc.c4.fr (e0 2 (by omega) (by omega)) (e0 7 (by omega) (by omega)), hc.c5.fr (e0 0 (by omega) (by omega)) (e0 3 (by omega) (by omega)), hc.c6.fr fun a h5 h6 => e0 a (by omega) (by omega), hc.c7.fr (e0 157 (by omega) (by omega)) (e0 158 (by omega) (by omega))⟩, fun a ha => e0 a (by omega) (by omega)⟩
        simp (disch := omega) only [f_X7_restore, f_X0_forget, l_0, l_1, hx, c, bd2_some, bd_some, n_eq, ↓reduceIte, Nat.reduceEqDiff, n_ix, ing_ok, e, c0, t1, lt_eq]
      · have e := (hm.m3 i (by omega)).1
        rw [if_neg c0] at e
        obtain ⟨τ, t1, t2, -, t4⟩ := mrestore_27 (i := i) (by omega) FU 0 σ (by omega) (by rw [FU_eq]; omega)
        have e0 : ∀ a, a ≠ 183 → a ≠ 187 → st2 τ 183 17 (nI 0) a = σ a := fun a h5 h6 => by rw [st2_row h5, t4 a h6]
        have e1 : ∀ k, k ≠ 17 → st2 τ 183 17 (nI 0) 183 k = σ 183 k := fun k h5 => by rw [st2_k h5, t4 183 (by omega)]
        have hR : RA (st2 τ 183 17 (nI 0)) 187 (s.im i) := RA_of (hm.m3 i (by omega)).2 q8 fun k hk => by
          rw [st2_a (by omega), t2 k (by omega) hk]
          rfl
        refine ⟨_, ?_, ⟨hR, ?_, ⟨st2_at, fun k hk => absurd hk (Nat.not_lt_zero k)⟩, hm.m3.fr (e0 194 (by omega) (by omega)) (e0 195 (by omega) (by omega)), ⟨by rw [e1 8 (by omega)]; exact hm.m4.1, by rw [e0 189 (by omega) (by omega)]; exact hm.m4.2⟩, ⟨by rw [e1 9 (by omega)]; exact hm.m5.1, by rw [e1 3 (by omega)]; exact hm.m5.2⟩, hm.m6.fr (e0 184 (by omega) (by omega)) (e0 185 (by omega) (by omega)) (e0 186 (by omega) (by omega)), ⟨by rw [e1 23 (by omega)]; exact hm.m7.1, by rw [e0 196 (by omega) (by omega)]; exact hm.m7.2⟩⟩, fun a ha => e0 a (by omega) (by omega)⟩
        · rw [l_1] at t1
          simp (disch := omega) only [f_X8_restore, l_0, hy, c, e, bd2_some, n_eq, ↓reduceIte, Nat.reduceEqDiff, n_ix, ing_ok, lt_eq, t1]
        · rw [e1 4 (by omega), hm.m1b, if_neg (by omega)]
          show _ = if s.im i 0 = 0 then nI 0 else nI 1
          rw [if_neg c0]
  · refine ⟨-1000001, s, hs, XS.rf fun σ hc => ?_, MS.rf fun σ hm => ?_⟩
    · simp (disch := omega) only [f_X7_restore, l_0, l_1, hx, c, bd2_some, ↓reduceIte]
    · simp (disch := omega) only [f_X8_restore, l_0, hy, c, bd2_some, ↓reduceIte]
/-- rows alone change -/
def Sys.w_rows (s : Sys) (gone : Nat → Bool) (lane size : Nat → Nat) (item : Nat → Nat → Int32) : Sys := (s.g, s.m, s.act, s.im, s.tl, s.tp, s.flt, s.sta, gone, lane, size, item, s.tn, s.tr)
theorem CI.rows {σ τ : Mem} {s : Sys} {gone : Nat → Bool} {lane size : Nat → Nat} {item : Nat → Nat → Int32} (h : CI σ s) (h6 : C6 τ gone lane size item) (e0 : ∀ a, (a < 159 ∨ 174 < a) → τ a = σ a) : CI τ (s.w_rows gone lane size item) ∧ Fr (fun a => a < 183) σ τ := ⟨⟨h.c1.fr fun a h1 h2 => e0 a (by omega), h.c2.fr fun a h1 h2 => e0 a (by omega), h.c3.fr fun a h1 h2 => e0 a (by omega), h.c4.fr (e0 2 (by omega)) (e0 7 (by omega)), h.c5.fr (e0 0 (by omega)) (e0 3 (by omega)), h6, h.c7.fr (e0 157 (by omega)) (e0 158 (by omega))⟩, fun a ha => e0 a (by omega)⟩
theorem MI.rows {σ τ : Mem} {s : Sys} {gone : Nat → Bool} {lane size : Nat → Nat} {item : Nat → Nat → Int32} (h : MI σ s) (h6 : R6 τ gone lane size item) (e0 : ∀ a, (a < 184 ∨ 186 < a) → a ≠ 188 → τ a = σ a) : MI τ (s.w_rows gone lane size item) ∧ Fr (fun a => 183 ≤ a) σ τ := by
  have e3 := e0 183 (by omega) (by omega)
  exact ⟨⟨h.m1.fr (e0 187 (by omega) (by omega)), by rw [e3]; exact h.m1b, h.m2.fr e3 (e0 191 (by omega) (by omega)), h.m3.fr (e0 194 (by omega) (by omega)) (e0 195 (by omega) (by omega)), h.m4.fr e3 (e0 189 (by omega) (by omega)), by unfold R5; rw [e3]; exact h.m5, h6, h.m7.fr e3 (e0 196 (by omega) (by omega))⟩, fun a ha => e0 a (by omega) (by omega)⟩
def putB {α : Type} (f : Nat → α) (r : Nat) (x : α) : Nat → α := fun k => if k = r then x else f k
theorem putB_at {α : Type} {f : Nat → α} {r : Nat} {x : α} : putB f r x r = x := if_pos rfl
theorem putB_ne {α : Type} {f : Nat → α} {r k : Nat} {x : α} (h : k ≠ r) : putB f r x k = f k := if_neg h
