/-! PURE, 27: a hum taken up, heard -/
def HU (σ : Mem) (n : Nat) (hum : Nat → Int32) : Prop := σ 111 3 = nI n ∧ ∀ k, k < n → σ 120 k = hum k
theorem HU.fr {σ τ : Mem} {n : Nat} {hum : Nat → Int32} (h : HU σ n hum) (hF : Fr (fun a => 112 ≤ a ∧ a ≤ 115) σ τ) : HU τ n hum := by
  unfold HU
  rw [hF 111 (by omega), hF 120 (by omega)]
  exact h
theorem fr45 {σ τ : Mem} (h : Fr (fun a => 112 ≤ a ∧ a ≤ 115) σ τ) : Fr (fun a => 111 ≤ a ∧ a ≤ 156) σ τ := h.le fun a ha => by omega
theorem xlisten {σ : Mem} {s : Sys} {i a n : Nat} (hc : CI σ s) (hi : i < 8) (hg : s.gone i = false) (han : a + n ≤ 40) (hn : n ≤ 12) : ∃ τ, f_X2_listen (159 + 2 * i + 1) (nI a) (nI n) σ = some τ ∧ HU τ n (fun k => s.item i (a + k)) ∧ Fr (fun a => 111 ≤ a ∧ a ≤ 156) σ τ := by
  have q := ((hc.c6 i hi).2 hg).2.2
  refine ⟨cp2 (st2 σ 111 3 (nI n)) (159 + 2 * i + 1) 120 a 0 n, ?_, ⟨?_, fun k hk => ?_⟩, fun b hb => ?_⟩
  · unfold f_X2_listen cpg
    rw [lt_eq, l_0, n_ix (by omega), n_ix (by omega), n_ix (by omega), if_pos ⟨n_nn (by omega), n_nn (by omega), n_nn (by omega), han, by omega⟩]
  · rw [cp2_other _ (by omega), st2_at]
  · unfold cp2 va_cpy
    rw [if_pos rfl, if_pos ⟨by omega, by omega⟩, st2_a (by omega), Nat.sub_zero, show 159 + 2 * i + 1 = 160 + 2 * i by omega]
    exact q (a + k) (by omega)
  · rw [cp2_other _ (by omega), st2_row (by omega)]
theorem xthenF {σ : Mem} {s : Sys} (h : CI σ s) (hs : SysOk s) : ∃ τ, f_X5_take 112 8 σ = some τ ∧ RS τ 112 s.g ∧ Fr (fun a => 112 ≤ a ∧ a ≤ 115) σ τ := by
  obtain ⟨τ1, a1, a2, a3⟩ := xtake (b := 112) h.c1 hs.og.1.1 (Or.inr (by omega))
  exact ⟨τ1, a1, a2, a3.le fun a ha => by omega⟩
/-- whether it is so -/
def hearB (g : Nat → Nat) (i : Nat) (hum : Nat → Int32) : Nat → Nat → Nat
  | 0, _ => 1
  | r + 1, k => if nI (itG (k + 1) g (21 + i)) = hum k then hearB g i hum r (k + 1) else 0
theorem hearB_01 (g : Nat → Nat) (i : Nat) (hum : Nat → Int32) : ∀ r k, hearB g i hum r k = 0 ∨ hearB g i hum r k = 1 := by
  intro r
  induction r with
  | zero => intro k; exact Or.inr rfl
  | succ r ih =>
    intro k
    rw [hearB]
    split
    · exact ih _
    · exact Or.inl rfl
theorem xheard_2 {g : Nat → Nat} {i n : Nat} {hum : Nat → Int32} (hb : SB g) (hi : i < g 0) (hn : n ≤ 12) : ∀ m k σ, RS σ 112 (itG k g) → HU σ n hum → k ≤ n → n - k < m → ∃ τ, f_X2_isHeard_2 (nI i) m (nI k) σ = some (nI (hearB g i hum (n - k) k), τ) ∧ Fr (fun a => 112 ≤ a ∧ a ≤ 115) σ τ := by
  intro m
  induction m with
  | zero => intro k σ _ _ _ h; omega
  | succ m ih =>
    intro k σ hR hU h1 h2
    have h8 := hb.1
    by_cases c : n ≤ k
    · refine ⟨σ, ?_, Fr.rf⟩
      rw [show n - k = 0 by omega]
      simp (disch := omega) only [f_X2_isHeard_2, hU.1, n_le, c, ↓reduceIte, l_1]
      rfl
    · obtain ⟨τ, t1, t2, t3⟩ := xpass hR (it_SB hb k)
      have t4 : Fr (fun a => 112 ≤ a ∧ a ≤ 115) σ τ := t3.le fun a ha => by omega
      have hU' := hU.fr t4
      have e := (t2.2 i (by rw [hour_low (by omega) (by omega), it_low (by omega) (by omega)]; exact hi)).2.2
      have e2 := hU'.2 k (by omega)
      have e' : τ (112 + 3) i = nI (itG (k + 1) g (21 + i)) := e
      rw [show n - k = n - (k + 1) + 1 by omega, hearB]
      by_cases d : nI (itG (k + 1) g (21 + i)) = hum k
      · obtain ⟨υ, u1, u2⟩ := ih (k + 1) τ t2 hU' (by omega) (by omega)
        refine ⟨υ, ?_, t4.tr u2⟩
        rw [if_pos d, ← u1]
        simp (disch := omega) only [f_X2_isHeard_2, hU.1, n_le, c, ↓reduceIte, l_1, t1, bd_some, n_ix, ing_ok, e', e2, d, lt_eq, n_add]
      · refine ⟨τ, ?_, t4⟩
        rw [if_neg d]
        simp (disch := omega) only [f_X2_isHeard_2, hU.1, n_le, c, ↓reduceIte, l_0, t1, bd_some, n_ix, ing_ok, e', e2, d]
theorem xheard {σ : Mem} {g : Nat → Nat} {i n : Nat} {hum : Nat → Int32} (hR : RS σ 112 g) (hb : SB g) (hi : i < g 0) (hn : n ≤ 12) (hU : HU σ n hum) : ∃ τ, f_X2_isHeard (nI i) σ = some (nI (hearB g i hum n 0), τ) ∧ Fr (fun a => 112 ≤ a ∧ a ≤ 115) σ τ := by
  unfold f_X2_isHeard
  rw [lt_eq]
  exact xheard_2 hb hi hn FU 0 σ hR hU (Nat.zero_le _) (by rw [FU_eq]; omega)
/-- the reference -/
theorem misSo_6 {g g0 : Nat → Nat} {i n at' : Nat} {hum : Nat → Int32} (hb : SB g) (h1g : 1 ≤ g 0) (hi : i < g 0) (h08 : g0 0 ≤ 8) (hn : n ≤ 12) (hat : at' + n ≤ 320) : ∀ m k x σ, (x = 0 ∨ x = 1) → RA σ 187 (itG k g) → RA σ 192 g0 → (∀ k, k < n → σ 186 (at' + k) = hum k) → k ≤ n → n - k < m → ∃ τ, f_X8_isSo_6 (nI i) (nI at') (nI n) m (nI x) (nI k) σ = some (nI (if x = 0 then 0 else hearB g i hum (n - k) k), τ) ∧ RA τ 187 g0 ∧ RA τ 192 g0 ∧ Fr (fun a => a = 187) σ τ := by
  intro m
  induction m with
  | zero => intro k x σ _ _ _ _ _ h; omega
  | succ m ih =>
    intro k x σ hx hR hA hI h1 h2
    have h8 := hb.1
    by_cases c : n ≤ k
    · obtain ⟨τ, t1, t2, t3⟩ := mback hA h08
      refine ⟨τ, ?_, t2, hA.fr (t3 192 (by omega)), t3⟩
      rw [show n - k = 0 by omega, hearB]
      rcases hx with rfl | rfl
      · simp (disch := omega) only [f_X8_isSo_6, n_le, c, ↓reduceIte, t1, bd_some, l_0, l_1]
        exact gd_ok (by simp)
      · rw [if_neg (by omega)]
        simp (disch := omega) only [f_X8_isSo_6, n_le, c, ↓reduceIte, t1, bd_some, l_0, l_1]
        exact gd_ok (by simp)
    · obtain ⟨τ, t1, t2, t3⟩ := mhour hR (it_SB hb k) (by rw [it_low (by omega) (by omega)]; exact h1g)
      have hA' := hA.fr (t3 192 (by omega))
      have hI' : ∀ k, k < n → τ 186 (at' + k) = hum k := fun k hk => by rw [t3 186 (by omega)]; exact hI k hk
      have e := (t2.2 i (by rw [hour_low (by omega) (by omega), it_low (by omega) (by omega)]; exact hi)).2.2
      have e' : τ 187 (21 + i) = nI (itG (k + 1) g (21 + i)) := e
      have e2 := hI' k (by omega)
      rcases hx with rfl | rfl
      · obtain ⟨υ, u1, u2, u3, u4⟩ := ih (k + 1) 0 τ (Or.inl rfl) t2 hA' hI' (by omega) (by omega)
        refine ⟨υ, ?_, u2, u3, t3.tr u4⟩
        rw [if_pos rfl] at u1 ⊢
        rw [← u1]
        simp (disch := omega) only [f_X8_isSo_6, n_le, c, ↓reduceIte, t1, bd_some, l_0, l_1, lt_eq, n_add]
      · rw [if_neg (by omega), show n - k = n - (k + 1) + 1 by omega, hearB]
        by_cases d : hum k = nI (itG (k + 1) g (21 + i))
        · obtain ⟨υ, u1, u2, u3, u4⟩ := ih (k + 1) 1 τ (Or.inr rfl) t2 hA' hI' (by omega) (by omega)
          refine ⟨υ, ?_, u2, u3, t3.tr u4⟩
          rw [if_neg (by omega)] at u1
          rw [if_pos d.symm, ← u1]
          simp (disch := omega) only [f_X8_isSo_6, n_le, n_eq, Nat.reduceEqDiff, c, ↓reduceIte, t1, bd_some, l_0, l_1, l_21, lt_eq, n_add, n_ix, ing_ok, e', e2, d]
        · obtain ⟨υ, u1, u2, u3, u4⟩ := ih (k + 1) 0 τ (Or.inl rfl) t2 hA' hI' (by omega) (by omega)
          refine ⟨υ, ?_, u2, u3, t3.tr u4⟩
          rw [if_pos rfl] at u1
          rw [if_neg (fun w => d w.symm), ← u1]
          simp (disch := omega) only [f_X8_isSo_6, n_le, n_eq, Nat.reduceEqDiff, c, ↓reduceIte, t1, bd_some, l_0, l_1, l_21, lt_eq, n_add, n_ix, ing_ok, e', e2, d]
theorem misSo {σ : Mem} {g g0 : Nat → Nat} {i n at' : Nat} {hum : Nat → Int32} (hR : RA σ 187 g) (hA : RA σ 192 g0) (hb : SB g) (h1g : 1 ≤ g 0) (hi : i < g 0) (h08 : g0 0 ≤ 8) (hn : n ≤ 12) (hat : at' + n ≤ 320) (hI : ∀ k, k < n → σ 186 (at' + k) = hum k) : ∃ τ, f_X8_isSo (nI i) (nI at') (nI n) σ = some (nI (hearB g i hum n 0), τ) ∧ RA τ 187 g0 ∧ RA τ 192 g0 ∧ Fr (fun a => a = 187) σ τ := by
  unfold f_X8_isSo
  rw [lt_eq, lt_eq]
  exact misSo_6 hb h1g hi h08 hn hat FU 0 1 σ (Or.inr rfl) hR hA hI (Nat.zero_le _) (by rw [FU_eq]; omega)
/-- what a row lacks -/
theorem mlacks_y {σ : Mem} {s : Sys} {i n : Nat} {p : Int32} (hm : MI σ s) (hs : SysOk s) (hi : i < 8) (hg : s.gone i = false) (hn : n ≤ 12) (hp : span p (nI n) (s.size i)) : f_X8_lacks (nI i) p (nI n) σ = some (nI 0, σ) := by
  have hz := (hs.or i hi).2
  have e : σ 185 i = nI (s.size i) := by
    rw [(hm.m6 i hi).1, hg]
    rfl
  have cj2 := (span_in hz (by omega)).mp hp
  have hy : f_X8_in p.toInt64 0 ((nI (s.size i) - nI n).toInt64) σ = some (nI 1, σ) := by
    rw [min_, w_int, w_int, pk_sub_toInt (by omega) (by omega), show (0 : Int64).toInt = 0 from rfl, if_pos cj2]
  simp (disch := omega) only [f_X8_lacks, n_ix, ing_ok, e, l_0, n_le, Nat.zero_le, ↓reduceIte, hy, bd2_some, n_eq, Nat.reduceEqDiff]
theorem mlacks_n {σ : Mem} {s : Sys} {i n : Nat} {p : Int32} (hm : MI σ s) (hs : SysOk s) (hi : i < 8) (hg : s.gone i = false) (hn : n ≤ 12) (hp : ¬ span p (nI n) (s.size i)) : ∃ τ, f_X8_lacks (nI i) p (nI n) σ = some (-1000010 - nI 2, τ) ∧ MI τ (s.w_sta (nI 2)) ∧ Fr (fun a => 183 ≤ a) σ τ := by
  have hz := (hs.or i hi).2
  have e : σ 185 i = nI (s.size i) := by
    rw [(hm.m6 i hi).1, hg]
    rfl
  have hy : f_X8_in p.toInt64 0 ((nI (s.size i) - nI n).toInt64) σ = some (nI 0, σ) := by
    rw [min_, w_int, w_int, pk_sub_toInt (by omega) (by omega), show (0 : Int64).toInt = 0 from rfl, if_neg (fun g => hp ((span_in hz (by omega)).mpr g))]
  obtain ⟨τ, t1, t2⟩ := mfind (p := nI 2) hm
  refine ⟨τ, ?_, t2⟩
  simp (disch := omega) only [f_X8_lacks, n_ix, ing_ok, e, l_0, l_2, n_le, Nat.zero_le, ↓reduceIte, hy, bd2_some, t1]
theorem mlacks_g {σ : Mem} {s : Sys} {i : Nat} {p q : Int32} (hm : MI σ s) (hi : i < 8) (hg : s.gone i = true) : ∃ τ, f_X8_lacks (nI i) p q σ = some (-1000010 - nI 1, τ) ∧ MI τ (s.w_sta (nI 1)) ∧ Fr (fun a => 183 ≤ a) σ τ := by
  have e1 := (hm.m6 i hi).1
  rw [hg, if_pos rfl] at e1
  obtain ⟨τ, t1, t2⟩ := mfind (p := nI 1) hm
  refine ⟨τ, ?_, t2⟩
  have ng : ¬ nI 0 ≤ -nI 1 := by decide
  simp (disch := omega) only [f_X8_lacks, n_ix, ing_ok, e1, l_0, l_1, ng, ↓reduceIte, t1, bd2_some]
/-- a kind, a rub tried -/
def kd (g : Nat → Nat) (j v : Nat) : Nat → Nat := fun k => if k = 5 + j then v else g k
theorem kd_at {g : Nat → Nat} {j v : Nat} : kd g j v (5 + j) = v := if_pos rfl
theorem kd_ne {g : Nat → Nat} {j v k : Nat} (h : k ≠ 5 + j) : kd g j v k = g k := if_neg h
def rb (g : Nat → Nat) (j v : Nat) : Nat → Nat := fun k => if k = 13 + j then v else g k
theorem rb_at {g : Nat → Nat} {j v : Nat} : rb g j v (13 + j) = v := if_pos rfl
theorem rb_ne {g : Nat → Nat} {j v k : Nat} (h : k ≠ 13 + j) : rb g j v k = g k := if_neg h
theorem SB.kd {g : Nat → Nat} {j v : Nat} (hb : SB g) (hj : j < 8) (h1 : 1 ≤ v) (h5 : v ≤ 5) : SB (kd g j v) := by
  obtain ⟨h0, h1', h2, h3, h4⟩ := hb
  refine ⟨by rw [kd_ne (by omega)]; exact h0, by rw [kd_ne (by omega)]; exact h1', by rw [kd_ne (by omega)]; exact h2, by rw [kd_ne (by omega)]; exact h3, fun h hh => ?_⟩
  rw [kd_ne (by omega)] at hh
  obtain ⟨q1, q2, q3⟩ := h4 h hh
  rw [kd_ne (k := 13 + h) (by omega), kd_ne (k := 21 + h) (by omega)]
  refine ⟨?_, q2, q3⟩
  by_cases e : h = j
  · subst e
    rw [kd_at]; exact ⟨h1, h5⟩
  · rw [kd_ne (by omega)]; exact q1
theorem SB.rb {g : Nat → Nat} {j v : Nat} (hb : SB g) (hj : j < 8) (h1 : 1 ≤ v) (h5 : v ≤ 9) : SB (rb g j v) := by
  obtain ⟨h0, h1', h2, h3, h4⟩ := hb
  refine ⟨by rw [rb_ne (by omega)]; exact h0, by rw [rb_ne (by omega)]; exact h1', by rw [rb_ne (by omega)]; exact h2, by rw [rb_ne (by omega)]; exact h3, fun h hh => ?_⟩
  rw [rb_ne (by omega)] at hh
  obtain ⟨q1, q2, q3⟩ := h4 h hh
  rw [rb_ne (k := 5 + h) (by omega), rb_ne (k := 21 + h) (by omega)]
  refine ⟨q1, ?_, q3⟩
  by_cases e : h = j
  · subst e
    rw [rb_at]; exact ⟨h1, h5⟩
  · rw [rb_ne (by omega)]; exact q2
theorem RS.kd {σ : Mem} {b j v : Nat} {g : Nat → Nat} (h : RS σ b g) (h8 : g 0 ≤ 8) (hj : j < 8) : RS (st2 σ (b + 1) j (nI v)) b (kd g j v) := by
  obtain ⟨⟨h0, h1, h2, h3, h4⟩, h5⟩ := h
  refine ⟨⟨?_, ?_, ?_, ?_, ?_⟩, fun k hk => ?_⟩
  · rw [st2_a (by omega), kd_ne (by omega)]; exact h0
  · rw [st2_a (by omega), kd_ne (by omega)]; exact h1
  · rw [st2_a (by omega), kd_ne (by omega)]; exact h2
  · rw [st2_a (by omega), kd_ne (by omega)]; exact h3
  · rw [st2_a (by omega), kd_ne (by omega)]; exact h4
  · rw [kd_ne (by omega)] at hk
    obtain ⟨q1, q2, q3⟩ := h5 k hk
    refine ⟨?_, by rw [st2_a (by omega), kd_ne (by omega)]; exact q2, by rw [st2_a (by omega), kd_ne (by omega)]; exact q3⟩
    by_cases e : k = j
    · subst e
      rw [st2_at, kd_at]
    · rw [st2_k e, kd_ne (by omega)]; exact q1
theorem RS.rb {σ : Mem} {b j v : Nat} {g : Nat → Nat} (h : RS σ b g) (h8 : g 0 ≤ 8) (hj : j < 8) : RS (st2 σ (b + 2) j (nI v)) b (rb g j v) := by
  obtain ⟨⟨h0, h1, h2, h3, h4⟩, h5⟩ := h
  refine ⟨⟨?_, ?_, ?_, ?_, ?_⟩, fun k hk => ?_⟩
  · rw [st2_a (by omega), rb_ne (by omega)]; exact h0
  · rw [st2_a (by omega), rb_ne (by omega)]; exact h1
  · rw [st2_a (by omega), rb_ne (by omega)]; exact h2
  · rw [st2_a (by omega), rb_ne (by omega)]; exact h3
  · rw [st2_a (by omega), rb_ne (by omega)]; exact h4
  · rw [rb_ne (by omega)] at hk
    obtain ⟨q1, q2, q3⟩ := h5 k hk
    refine ⟨by rw [st2_a (by omega), rb_ne (by omega)]; exact q1, ?_, by rw [st2_a (by omega), rb_ne (by omega)]; exact q3⟩
    by_cases e : k = j
    · subst e
      rw [st2_at, rb_at]
    · rw [st2_k e, rb_ne (by omega)]; exact q2
theorem RA.kd {σ : Mem} {a j v : Nat} {g : Nat → Nat} (h : RA σ a g) (h8 : g 0 ≤ 8) (hj : j < 8) : RA (st2 σ a (5 + j) (nI v)) a (kd g j v) := by
  obtain ⟨⟨h0, h1, h2, h3, h4⟩, h5⟩ := h
  refine ⟨⟨?_, ?_, ?_, ?_, ?_⟩, fun k hk => ?_⟩
  · rw [st2_k (by omega), kd_ne (by omega)]; exact h0
  · rw [st2_k (by omega), kd_ne (by omega)]; exact h1
  · rw [st2_k (by omega), kd_ne (by omega)]; exact h2
  · rw [st2_k (by omega), kd_ne (by omega)]; exact h3
  · rw [st2_k (by omega), kd_ne (by omega)]; exact h4
  · rw [kd_ne (by omega)] at hk
    obtain ⟨q1, q2, q3⟩ := h5 k hk
    refine ⟨?_, by rw [st2_k (by omega), kd_ne (by omega)]; exact q2, by rw [st2_k (by omega), kd_ne (by omega)]; exact q3⟩
    by_cases e : k = j
    · subst e
      rw [st2_at, kd_at]
    · rw [st2_k (by omega), kd_ne (by omega)]; exact q1
theorem RA.rb {σ : Mem} {a j v : Nat} {g : Nat → Nat} (h : RA σ a g) (h8 : g 0 ≤ 8) (hj : j < 8) : RA (st2 σ a (13 + j) (nI v)) a (rb g j v) := by
  obtain ⟨⟨h0, h1, h2, h3, h4⟩, h5⟩ := h
  refine ⟨⟨?_, ?_, ?_, ?_, ?_⟩, fun k hk => ?_⟩
  · rw [st2_k (by omega), rb_ne (by omega)]; exact h0
  · rw [st2_k (by omega), rb_ne (by omega)]; exact h1
  · rw [st2_k (by omega), rb_ne (by omega)]; exact h2
  · rw [st2_k (by omega), rb_ne (by omega)]; exact h3
  · rw [st2_k (by omega), rb_ne (by omega)]; exact h4
  · rw [rb_ne (by omega)] at hk
    obtain ⟨q1, q2, q3⟩ := h5 k hk
    refine ⟨by rw [st2_k (by omega), rb_ne (by omega)]; exact q1, ?_, by rw [st2_k (by omega), rb_ne (by omega)]; exact q3⟩
    by_cases e : k = j
    · subst e
      rw [st2_at, rb_at]
    · rw [st2_k (by omega), rb_ne (by omega)]; exact q2
