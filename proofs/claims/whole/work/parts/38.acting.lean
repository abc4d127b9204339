/-! PURE, 14: the acts: hours, a lash, an act taken back -/
def Sys.note (s : Sys) : Sys := (s.w_m (noteM s.m)).w_act (noteA s.m s.act s.g)
theorem SysOk.note {s : Sys} (h : SysOk s) (h1 : 1 ≤ s.g 0) : SysOk s.note := by
  have hm := h.om
  refine ⟨h.og, ?_, fun i hi => ?_, fun _ => h1, h.oi, h.ot, h.otp, h.or, h.on⟩
  · show noteM s.m ≤ 24
    unfold noteM
    split
    · omega
    · omega
  · have hi' : i < noteM s.m := hi
    show SG (noteA s.m s.act s.g i) ∧ 1 ≤ noteA s.m s.act s.g i 0
    unfold noteM at hi'
    unfold noteA
    by_cases c : s.m = 24
    · rw [if_pos c] at hi' ⊢
      by_cases c2 : i < 23
      · rw [if_pos c2]; exact h.oa (i + 1) (by omega)
      · rw [if_neg c2]; exact ⟨h.og, h1⟩
    · rw [if_neg c] at hi' ⊢
      by_cases c2 : i = s.m
      · rw [if_pos c2]; exact ⟨h.og, h1⟩
      · rw [if_neg c2]; exact h.oa i (by omega)
theorem CI.keep {σ : Mem} {s : Sys} (h : CI σ s) (hs : SysOk s) : ∃ τ, f_X0_keep 8 σ = some τ ∧ CI τ s.note ∧ Fr (fun a => a < 183) σ τ := by
  obtain ⟨τ, t1, t2, t3⟩ := xkeep h.c2 hs.om h.c1 hs.og.1.1
  exact ⟨τ, t1, ⟨h.c1.fr fun a h1 h2 => t3 a (by omega), t2, h.c3.fr fun a h1 h2 => t3 a (by omega), h.c4.fr (t3 2 (by omega)) (t3 7 (by omega)), h.c5.fr (t3 0 (by omega)) (t3 3 (by omega)), h.c6.fr fun a h1 h2 => t3 a (by omega), h.c7.fr (t3 157 (by omega)) (t3 158 (by omega))⟩, t3.le fun a ha => by omega⟩
theorem MI.note {σ : Mem} {s : Sys} (h : MI σ s) (hs : SysOk s) : ∃ τ, f_X8_note σ = some τ ∧ MI τ s.note ∧ Fr (fun a => 183 ≤ a) σ τ := by
  obtain ⟨τ, t1, t2, t3, t4⟩ := mnote h.m2 hs.om (fun i hi => (hs.oa i hi).1.1.1) h.m1 hs.og.1.1
  refine ⟨τ, t1, ⟨h.m1.fr (t3 187 (by omega)), by rw [t4 4 (by omega)]; exact h.m1b, t2, h.m3.fr (t3 194 (by omega)) (t3 195 (by omega)), ⟨by rw [t4 8 (by omega)]; exact h.m4.1, by rw [t3 189 (by omega)]; exact h.m4.2⟩, ⟨by rw [t4 9 (by omega)]; exact h.m5.1, by rw [t4 3 (by omega)]; exact h.m5.2⟩, h.m6.fr (t3 184 (by omega)) (t3 185 (by omega)) (t3 186 (by omega)), ⟨by rw [t4 23 (by omega)]; exact h.m7.1, by rw [t3 196 (by omega)]; exact h.m7.2⟩⟩, t3.le fun a ha => by omega⟩
/-- the street alone changes -/
theorem CI.street {σ τ : Mem} {s : Sys} {g : Nat → Nat} (h : CI σ s) (hR : RS τ 8 g) (t3 : Fr (fun a => 8 ≤ a ∧ a ≤ 11) σ τ) : CI τ (s.w_g g) ∧ Fr (fun a => a < 183) σ τ := ⟨⟨hR, h.c2.fr fun a h1 h2 => t3 a (by omega), h.c3.fr fun a h1 h2 => t3 a (by omega), h.c4.fr (t3 2 (by omega)) (t3 7 (by omega)), h.c5.fr (t3 0 (by omega)) (t3 3 (by omega)), h.c6.fr fun a h1 h2 => t3 a (by omega), h.c7.fr (t3 157 (by omega)) (t3 158 (by omega))⟩, t3.le fun a ha => by omega⟩
theorem MI.street {σ τ : Mem} {s : Sys} {g : Nat → Nat} (h : MI σ s) (hR : RA τ 187 g) (h0 : s.g 0 = 0 ↔ g 0 = 0) (t3 : Fr (fun a => a = 187) σ τ) : MI τ (s.w_g g) ∧ Fr (fun a => 183 ≤ a) σ τ := by
  have e := t3 183 (by omega)
  refine ⟨⟨hR, ?_, h.m2.fr e (t3 191 (by omega)), h.m3.fr (t3 194 (by omega)) (t3 195 (by omega)), h.m4.fr e (t3 189 (by omega)), by unfold R5; rw [e]; exact h.m5, h.m6.fr (t3 184 (by omega)) (t3 185 (by omega)) (t3 186 (by omega)), h.m7.fr e (t3 196 (by omega))⟩, t3.le fun a ha => by omega⟩
  rw [e, h.m1b]
  show _ = if g 0 = 0 then nI 0 else nI 1
  by_cases c : s.g 0 = 0
  · rw [if_pos c, if_pos (h0.mp c)]
  · rw [if_neg c, if_neg (fun q => c (h0.mpr q))]
theorem SysOk.street {s : Sys} {g : Nat → Nat} (h : SysOk s) (hg : SG g) (h0 : 1 ≤ g 0) : SysOk (s.w_g g) := ⟨hg, h.om, h.oa, fun _ => h0, fun i hi => ⟨(h.oi i hi).1, fun _ => h0⟩, h.ot, h.otp, h.or, h.on⟩
theorem CI.pass {σ : Mem} {s : Sys} (h : CI σ s) (hs : SysOk s) : ∃ τ, f_X5_pass 8 σ = some τ ∧ CI τ (s.w_g (hourG s.g)) ∧ Fr (fun a => a < 183) σ τ := by
  obtain ⟨τ, t1, t2, t3⟩ := xpass h.c1 hs.og.1
  exact ⟨τ, t1, h.street t2 (t3.le fun a ha => by omega)⟩
theorem MI.hour {σ : Mem} {s : Sys} (h : MI σ s) (hs : SysOk s) (h1 : 1 ≤ s.g 0) : ∃ τ, f_X8_oneHour σ = some τ ∧ MI τ (s.w_g (hourG s.g)) ∧ Fr (fun a => 183 ≤ a) σ τ := by
  obtain ⟨τ, t1, t2, t3⟩ := mhour h.m1 hs.og.1 h1
  exact ⟨τ, t1, h.street t2 (by rw [hour_low (by omega) (by omega)]) t3⟩
/-- hours, each noted -/
def hrS (s : Sys) : Nat → Sys
  | 0 => s
  | j + 1 => (hrS s j).note.w_g (hourG (hrS s j).g)
theorem hrS_g (s : Sys) : ∀ j, (hrS s j).g = itG j s.g := by
  intro j
  induction j with
  | zero => rfl
  | succ j ih =>
    show hourG (hrS s j).g = hourG (itG j s.g)
    rw [ih]
theorem hrS_ok {s : Sys} {v : Nat} (hs : SysOk s) (h1 : 1 ≤ s.g 0) (h3 : s.g 3 + v ≤ 999) : ∀ j, j ≤ v → SysOk (hrS s j) := by
  intro j
  induction j with
  | zero => intro _; exact hs
  | succ j ih =>
    intro hj
    have i := ih (by omega)
    have e0 : (hrS s j).g 0 = s.g 0 := by rw [hrS_g]; exact it_low (by omega) (by omega) j
    refine (i.note (by omega)).street ⟨hour_SB i.og.1, ?_⟩ (by rw [hour_low (by omega) (by omega)]; omega)
    rw [hour_3, hrS_g, it_3]
    omega
theorem xhours_43 {s : Sys} {v : Nat} (hs : SysOk s) (h1 : 1 ≤ s.g 0) (h3 : s.g 3 + v ≤ 999) : ∀ n j σ, CI σ (hrS s j) → j ≤ v → v - j < n → ∃ τ, f_X7_hours_43 (nI v) n (nI j) σ = some (nI (standG (itG v s.g)), τ) ∧ CI τ (hrS s v) ∧ Fr (fun a => a < 183) σ τ := by
  intro n
  induction n with
  | zero => intro j σ _ h1 h2; omega
  | succ n ih =>
    intro j σ hc hj1 hj2
    have hv : v ≤ 999 := by omega
    have i := hrS_ok hs h1 h3 j hj1
    by_cases c : j = v
    · subst c
      refine ⟨σ, ?_, hc, Fr.rf⟩
      have e := xstanding hc.c1 i.og.1
      rw [hrS_g] at e
      simp (disch := omega) only [f_X7_hours_43, n_le, Nat.le_refl, ↓reduceIte, e, bd2_some]
    · have c2 : ¬ v ≤ j := by omega
      have e0 : (hrS s j).g 0 = s.g 0 := by rw [hrS_g]; exact it_low (by omega) (by omega) j
      obtain ⟨τ1, a1, a2, a3⟩ := hc.keep i
      obtain ⟨τ2, b1, b2, b3⟩ := a2.pass (i.note (by omega))
      obtain ⟨τ, t1, t2, t3⟩ := ih (j + 1) τ2 b2 (by omega) (by omega)
      refine ⟨τ, ?_, t2, (a3.tr b3).tr t3⟩
      rw [← t1]
      simp (disch := omega) only [f_X7_hours_43, n_le, c2, ↓reduceIte, a1, b1, bd_some, l_1, n_add, lt_eq]
theorem mhours_44 {s : Sys} {v : Nat} (hs : SysOk s) (h1 : 1 ≤ s.g 0) (h3 : s.g 3 + v ≤ 999) : ∀ n j σ, MI σ (hrS s j) → j ≤ v → v - j < n → ∃ τ, f_X8_hours_44 (nI v) n (nI j) σ = some (nI (standG (itG v s.g)), τ) ∧ MI τ (hrS s v) ∧ Fr (fun a => 183 ≤ a) σ τ := by
  intro n
  induction n with
  | zero => intro j σ _ h1 h2; omega
  | succ n ih =>
    intro j σ hc hj1 hj2
    have hv : v ≤ 999 := by omega
    have i := hrS_ok hs h1 h3 j hj1
    by_cases c : j = v
    · subst c
      refine ⟨σ, ?_, hc, Fr.rf⟩
      have e := mstanding hc.m1 i.og.1
      rw [hrS_g] at e
      simp (disch := omega) only [f_X8_hours_44, n_le, Nat.le_refl, ↓reduceIte, e, bd2_some]
    · have c2 : ¬ v ≤ j := by omega
      have e0 : (hrS s j).g 0 = s.g 0 := by rw [hrS_g]; exact it_low (by omega) (by omega) j
      obtain ⟨τ1, a1, a2, a3⟩ := hc.note i
      obtain ⟨τ2, b1, b2, b3⟩ := a2.hour (i.note (by omega)) (by show 1 ≤ (hrS s j).g 0; omega)
      obtain ⟨τ, t1, t2, t3⟩ := ih (j + 1) τ2 b2 (by omega) (by omega)
      refine ⟨τ, ?_, t2, (a3.tr b3).tr t3⟩
      rw [← t1]
      simp (disch := omega) only [f_X8_hours_44, n_le, c2, ↓reduceIte, a1, b1, bd_some, l_1, n_add, lt_eq]
theorem l_999 : (999 : Int32) = nI 999 := by decide +kernel
theorem both_hours (p : Int32) : BOTH (f_X7_hours p) (f_X8_hours p) := by
  intro s hs
  have h8 := hs.og.1.1
  have h999 := hs.og.2
  by_cases c0 : s.g 0 = 0
  · refine ⟨-1000002, s, hs, XS.rf fun σ hc => ?_, MS.rf fun σ hm => ?_⟩
    · simp (disch := omega) only [f_X7_hours, xnoStreet hc hs, c0, bd2_some, l_0, n_eq, ↓reduceIte, Nat.reduceEqDiff]
    · have e := hm.m1b
      rw [if_pos c0] at e
      simp (disch := omega) only [f_X8_hours, e, l_0, ↓reduceIte]
  · have d := Classical.propDecidable (rng p 1 24)
    have e1 : ∀ σ, MI σ s → σ 183 4 = nI 1 := fun σ hm => by rw [hm.m1b, if_neg c0]
    have hx : ∀ σ, f_X7_within p (nI 1) (nI 24) σ = some (if rng p 1 24 then nI 1 else nI 0, σ) := fun σ => xin_rng (by decide) (by decide)
    have hy : ∀ σ, f_X8_in p.toInt64 1 24 σ = some (if rng p 1 24 then nI 1 else nI 0, σ) := fun σ => min_rng (a := 1) (b := 24) rfl rfl (by decide)
    by_cases c : rng p 1 24
    · have c' := c
      obtain ⟨v, rfl, hv1, hv2⟩ := c'
      by_cases c1 : s.g 3 + v ≤ 999
      · refine ⟨nI (standG (itG v s.g)), hrS s v, hrS_ok hs (by omega) c1 v (Nat.le_refl _), fun σ hc => ?_, fun σ hm => ?_⟩
        · obtain ⟨τ, t1, t2⟩ := xhours_43 hs (by omega) c1 FU 0 σ hc (Nat.zero_le _) (by rw [FU_eq]; omega)
          refine ⟨τ, ?_, t2⟩
          have l := (n_le (a := s.g 3 + v) (b := 999) (by omega) (by decide)).mpr c1
          simp (disch := omega) only [f_X7_hours, xnoStreet hc hs, c0, bd2_some, l_0, l_1, l_24, l_999, hx, c, n_eq, ↓reduceIte, Nat.reduceEqDiff, hc.c1.1.2.2.2.1, n_add, l, lt_eq, t1]
        · obtain ⟨τ, t1, t2⟩ := mhours_44 hs (by omega) c1 FU 0 σ hm (Nat.zero_le _) (by rw [FU_eq]; omega)
          refine ⟨τ, ?_, t2⟩
          have l := (n_le (a := s.g 3 + v) (b := 999) (by omega) (by decide)).mpr c1
          simp (disch := omega) only [f_X8_hours, e1 σ hm, bd2_some, l_0, l_3, l_999, hy, c, n_eq, n_ix, ing_ok, ↓reduceIte, Nat.reduceEqDiff, hm.m1.1.2.2.2.1, n_add, l, lt_eq, t1]
      · have l : ¬ nI (s.g 3 + v) ≤ nI 999 := fun q => c1 ((n_le (b := 999) (by omega) (by decide)).mp q)
        refine ⟨-1000003, s, hs, XS.rf fun σ hc => ?_, MS.rf fun σ hm => ?_⟩
        · simp (disch := omega) only [f_X7_hours, xnoStreet hc hs, c0, bd2_some, l_0, l_1, l_24, l_999, hx, c, n_eq, ↓reduceIte, Nat.reduceEqDiff, hc.c1.1.2.2.2.1, n_add, l]
        · simp (disch := omega) only [f_X8_hours, e1 σ hm, bd2_some, l_0, l_3, l_999, hy, c, n_eq, n_ix, ing_ok, ↓reduceIte, Nat.reduceEqDiff, hm.m1.1.2.2.2.1, n_add, l]
    · refine ⟨-1000001, s, hs, XS.rf fun σ hc => ?_, MS.rf fun σ hm => ?_⟩
      · simp (disch := omega) only [f_X7_hours, xnoStreet hc hs, c0, bd2_some, l_0, l_1, l_24, hx, c, n_eq, ↓reduceIte, Nat.reduceEqDiff]
      · simp (disch := omega) only [f_X8_hours, e1 σ hm, bd2_some, l_0, hy, c, n_eq, ↓reduceIte, Nat.reduceEqDiff]
