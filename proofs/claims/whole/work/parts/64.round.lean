/-! PURE, 39: a boy's round on both sides -/
theorem xweigh {σ : Mem} {n x b : Nat} {f : Nat → Nat} {q : Option (Nat × Nat × Nat)} (hR : RS σ b f) (hb : SB f) (hn : n ≤ 7) (hq : DQ σ n q) (hm : ∀ k, k < n → σ 123 k = nI (x / 3 ^ (n - 1 - k) % 3)) : ∃ τ, f_X3_weigh b σ = some τ ∧ DQ τ n (updQ q x f) ∧ Fr (fun a => a = 121 ∨ a = 124) σ τ := by
  have st := standG_lt hb
  have pc := popc_le (standG f)
  have ls := lsF_le hb (f 0) (Nat.le_refl _)
  have w : f_X3_weigh_37 b (nI (popc (standG f))) (nI (lsF f (f 0))) σ = some (cp2 (st2 (st2 σ 121 3 (nI (popc (standG f)))) 121 4 (nI (lsF f (f 0)))) 123 124 0 0 7) := by
    rw [f_X3_weigh_37, lt_eq, lt_eq]
    unfold cpg
    rw [if_pos (by decide)]
    rfl
  have wq : DQ (cp2 (st2 (st2 σ 121 3 (nI (popc (standG f)))) 121 4 (nI (lsF f (f 0)))) 123 124 0 0 7) n (some (x, popc (standG f), lsF f (f 0))) := by
    refine ⟨?_, ?_, pc, ls, fun k hk => ?_⟩
    · rw [cp2_other _ (by omega), st2_k (by omega), st2_at]
    · rw [cp2_other _ (by omega), st2_at]
    · unfold cp2 va_cpy
      rw [if_pos rfl, if_pos ⟨by omega, by omega⟩, st2_a (by omega), st2_a (by omega), Nat.sub_zero, Nat.zero_add]
      exact hm k hk
  have wF : Fr (fun a => a = 121 ∨ a = 124) σ (cp2 (st2 (st2 σ 121 3 (nI (popc (standG f)))) 121 4 (nI (lsF f (f 0)))) 123 124 0 0 7) := fun a ha => by
    rw [cp2_other _ (by omega), st2_row (by omega), st2_row (by omega)]
  have head : f_X3_weigh b σ = if (σ 121 3) < nI (popc (standG f)) then (f_X3_weigh_37 b (nI (popc (standG f))) (nI (lsF f (f 0))) σ) else if nI (popc (standG f)) = (σ 121 3) then (if nI (lsF f (f 0)) ≤ (σ 121 4) then (some σ) else f_X3_weigh_37 b (nI (popc (standG f))) (nI (lsF f (f 0))) σ) else some σ := by
    rw [f_X3_weigh, xstanding hR hb, bd2_some, xones st, bd2_some, lt_eq, xlsF hR hb, bd2_some, lt_eq]
  rw [head]
  rcases q with _ | ⟨y, v, l⟩
  · obtain ⟨q1, q2⟩ := hq
    rw [q1, if_pos (m1_lt (by omega)), w]
    exact ⟨_, rfl, wq, wF⟩
  · obtain ⟨q1, q2, q3, q4, q5⟩ := hq
    rw [q1, q2]
    unfold updQ
    dsimp only
    by_cases c1 : v < popc (standG f)
    · rw [if_pos (Or.inl c1), if_pos ((n_lt (by omega) (by omega)).mpr c1), w]
      exact ⟨_, rfl, wq, wF⟩
    · rw [if_neg (by rw [n_lt (by omega) (by omega)]; exact c1)]
      by_cases c2 : popc (standG f) = v
      · rw [if_pos (by rw [c2])]
        by_cases c3 : l < lsF f (f 0)
        · rw [if_pos (Or.inr ⟨c2, c3⟩), if_neg (by rw [n_le (by omega) (by omega)]; omega), w]
          exact ⟨_, rfl, wq, wF⟩
        · rw [if_neg (show ¬ (v < popc (standG f) ∨ popc (standG f) = v ∧ l < lsF f (f 0)) by omega), if_pos ((n_le (by omega) (by omega)).mpr (by omega))]
          exact ⟨σ, rfl, ⟨q1, q2, q3, q4, q5⟩, Fr.rf⟩
      · rw [if_neg (show ¬ (v < popc (standG f) ∨ popc (standG f) = v ∧ l < lsF f (f 0)) by omega), if_neg (by rw [n_eq (by omega) (by omega)]; exact c2)]
        exact ⟨σ, rfl, ⟨q1, q2, q3, q4, q5⟩, Fr.rf⟩
theorem walk_u {rn : Nat} {p1 p2 p3 : Int32} {s0 : Mem} : f_X3_walk (rn + 1) p1 p2 p3 s0 = if p2 ≤ p1 then (f_X3_walk_11 p1 p2 p3 (f_X3_walk rn) s0) else if p1 < (7 : Int32) then (ing p1 8 <| ing (p1 + (1 : Int32)) 8 <| lt ((0 : Int32)) fun x1 => f_X3_walk_43 p1 p2 p3 (f_X3_walk rn) FU x1 s0) else f_X3_walk_11 p1 p2 p3 (f_X3_walk rn) s0 := rfl
/-- the house that a move comes to -/
theorem goal_y {p d : Nat} (h : 1 ≤ p + d) : nI p + nI d - nI 1 = nI (p + d - 1) := by
  rw [n_add, n_sub h]
theorem goal_n {p d n : Nat} (hn : n ≤ 8) (h : ¬ (1 ≤ p + d ∧ p + d - 1 < n)) (hp : p < 1000) (hd : d < 1000) : ¬ hous (nI p + nI d - nI 1) n := by
  rw [hous_int hn, n_add, pk_sub_toInt (by omega) (by omega)]
  omega
def WF (t : Nat) (σ τ : Mem) : Prop := Fr (fun a => a = 121 ∨ a = 123 ∨ a = 124 ∨ 129 + 4 * t ≤ a ∧ a ≤ 156) σ τ ∧ ∀ k, k < t → τ 123 k = σ 123 k
theorem xwalk_43 {n t r fuel : Nat} {f : Nat → Nat} {p x : Nat} {p2 : Int32} (hb : SB f) (hp : p < f 0) (hn : n ≤ 7) (ht : t < n) (ih : ∀ f p x q σ, RS σ (125 + 4 * (t + 1)) f → SB f → p < f 0 → DQ σ n q → (∀ k, k < t + 1 → σ 123 k = nI (x / 3 ^ (t + 1 - 1 - k) % 3)) → ∃ τ, f_X3_walk fuel (nI (t + 1)) p2 (nI p) σ = some τ ∧ DQ τ n (DW r f p x q) ∧ WF (t + 1) σ τ) : ∀ mm d q0 σ, RS σ (125 + 4 * t) f → DQ σ n (DWs (DW r) f p x d q0) → (∀ k, k < t → σ 123 k = nI (x / 3 ^ (t - 1 - k) % 3)) → d ≤ 3 → 3 - d < mm → ∃ τ, f_X3_walk_43 (nI t) p2 (nI p) (f_X3_walk fuel) mm (nI d) σ = some τ ∧ DQ τ n (DWs (DW r) f p x 3 q0) ∧ WF t σ τ := by
  intro mm
  induction mm with
  | zero => intro d q0 σ _ _ _ _ h; omega
  | succ mm ihm =>
    intro d q0 σ hR hQ hM h1 h2
    have h8 := hb.1
    have bl := hb.2.1
    by_cases c : 2 < d
    · have e : d = 3 := by omega
      subst e
      refine ⟨σ, ?_, hQ, Fr.rf, fun k _ => rfl⟩
      rw [f_X3_walk_43, l_2, if_pos (by decide)]
    · have cn : ¬ nI 2 < nI d := by rw [n_lt (by omega) (by omega)]; exact c
      have dd := Classical.propDecidable (hous (nI p + nI d - nI 1) (f 0))
      have l11 : (1 : Int32) = nI 1 := rfl
      have hw : f_X7_within (nI p + nI d - 1) 0 (nI (f 0) - 1) σ = some (if hous (nI p + nI d - nI 1) (f 0) then nI 1 else nI 0, σ) := by
        rw [xwithin, pred_int h8, show (0 : Int32).toInt = 0 from rfl, l11]
        by_cases ch : hous (nI p + nI d - nI 1) (f 0)
        · rw [if_pos ch, if_pos ((hous_int h8).mp ch)]
        · rw [if_neg ch, if_neg (fun w => ch ((hous_int h8).mpr w))]
      have e1 : (nI t + (1 : Int32)).toNatClampNeg = t + 1 := by rw [l_1, n_add, n_ix (by omega)]
      have head : f_X3_walk_43 (nI t) p2 (nI p) (f_X3_walk fuel) (mm + 1) (nI d) σ = if (if hous (nI p + nI d - nI 1) (f 0) then nI 1 else nI 0) = 0 then (f_X3_walk_43 (nI t) p2 (nI p) (f_X3_walk fuel) mm (nI (d + 1)) σ) else bd (f_X5_take (125 + 4 * (t + 1)) (125 + 4 * t) σ) fun s5 => ing (nI p + nI d - nI 1) 8 <| if (s5 (125 + 4 * (t + 1) + 3) (nI p + nI d - nI 1).toNatClampNeg) ≤ 0 then (f_X3_walk_103 (nI t) p2 (nI p) (f_X3_walk fuel) (f_X3_walk_43 (nI t) p2 (nI p) (f_X3_walk fuel) mm) (nI d) (nI p + nI d - nI 1) s5) else bd (f_X5_raise (125 + 4 * (t + 1)) (nI p + nI d - nI 1) (s5 (125 + 4 * (t + 1)) 4) s5) fun s7 => f_X3_walk_103 (nI t) p2 (nI p) (f_X3_walk fuel) (f_X3_walk_43 (nI t) p2 (nI p) (f_X3_walk fuel) mm) (nI d) (nI p + nI d - nI 1) s7 := by
        rw [f_X3_walk_43, e1, l_2, if_neg cn, n_ix (by omega), hR.1.1, lt_eq, hw, bd2_some, lt_eq, l_1, n_add d 1]
      rcases Classical.em (vaD f p d) with hv | hv
      · have hg := goal_y hv.1
        have hh : hous (nI p + nI d - nI 1) (f 0) := ⟨_, hg, hv.2⟩
        obtain ⟨v1, v2⟩ := hv
        obtain ⟨τ1, a1, a2, a3⟩ := xtake (b := 125 + 4 * (t + 1)) hR h8 (Or.inr (by omega))
        have s1 := (a2.2 (p + d - 1) v2).2.2
        have b9 := (hb.2.2.2.2 (p + d - 1) v2).2.2
        -- the raise
        have mid : ∃ τ2, (if (nI (f (21 + (p + d - 1)))) ≤ 0 then (f_X3_walk_103 (nI t) p2 (nI p) (f_X3_walk fuel) (f_X3_walk_43 (nI t) p2 (nI p) (f_X3_walk fuel) mm) (nI d) (nI (p + d - 1)) τ1) else bd (f_X5_raise (125 + 4 * (t + 1)) (nI (p + d - 1)) (nI (f 1)) τ1) fun s7 => f_X3_walk_103 (nI t) p2 (nI p) (f_X3_walk fuel) (f_X3_walk_43 (nI t) p2 (nI p) (f_X3_walk fuel) mm) (nI d) (nI (p + d - 1)) s7) = f_X3_walk_103 (nI t) p2 (nI p) (f_X3_walk fuel) (f_X3_walk_43 (nI t) p2 (nI p) (f_X3_walk fuel) mm) (nI d) (nI (p + d - 1)) τ2 ∧ RS τ2 (125 + 4 * (t + 1)) (rsG f (p + d - 1)) ∧ Fr (fun a => 129 + 4 * t ≤ a ∧ a ≤ 132 + 4 * t) τ1 τ2 := by
          by_cases c3 : f (21 + (p + d - 1)) = 0
          · refine ⟨τ1, ?_, by rw [rsG, if_neg (by omega)]; exact a2, Fr.rf⟩
            rw [c3, if_pos (by decide)]
          · obtain ⟨r1, r2⟩ := xraise (j := p + d - 1) (v := f 1) a2 hb v2 (by omega)
            refine ⟨_, ?_, by rw [rsG, if_pos ⟨v2, by omega⟩]; exact r2, Fr.st (S := fun a => 129 + 4 * t ≤ a ∧ a ≤ 132 + 4 * t) (by omega)⟩
            rw [if_neg (by rw [l_0, n_le (by omega) (by omega)]; omega), r1, bd_some]
        obtain ⟨τ2, m1, m2, m3⟩ := mid
        obtain ⟨τ3, c1, c2, c3⟩ := xpass m2 (rsG_SB hb)
        have hF3 : Fr (fun a => 129 + 4 * t ≤ a ∧ a ≤ 132 + 4 * t) σ τ3 := ((a3.le fun a ha => by omega).tr m3).tr (c3.le fun a ha => by omega)
        have c4 : RS (st2 τ3 123 t (nI d)) (125 + 4 * (t + 1)) (nfD f p d) := c2.fr fun a h3 h4 => st2_row (by omega)
        obtain ⟨τ4, d1, d2, d3, d4⟩ := ih (nfD f p d) (p + d - 1) (3 * x + d) (DWs (DW r) f p x d q0) (st2 τ3 123 t (nI d)) c4 (nfD_SB hb) (by rw [nfD_0]; exact v2) (hQ.fr (by rw [st2_row (by omega), hF3 121 (by omega)]) (by rw [st2_row (by omega), hF3 124 (by omega)])) (fun k hk => by
          by_cases ek : k = t
          · rw [ek, st2_at, dig_new (by omega)]
          · rw [st2_k ek, hF3 123 (by omega), dig_old (by omega) (by omega)]
            exact hM k (by omega))
        have e4 : ∀ a, a < 125 + 4 * (t + 1) → a ≠ 121 → a ≠ 123 → a ≠ 124 → τ4 a = σ a := fun a h3 h4 h5 h6 => by
          rw [d3 a (by omega), st2_row (by omega), hF3 a (by omega)]
        have e5 : ∀ k, k < t → τ4 123 k = σ 123 k := fun k hk => by
          rw [d4 k (by omega), st2_k (by omega), hF3 123 (by omega)]
        obtain ⟨τ, u1, u2, u3, u4⟩ := ihm (d + 1) q0 τ4 (hR.fr fun a h3 h4 => e4 a (by omega) (by omega) (by omega) (by omega)) (by rw [DWs_y ⟨v1, v2⟩]; exact d2) (fun k hk => by rw [e5 k hk]; exact hM k hk) (by omega) (by omega)
        refine ⟨τ, ?_, u2, ?_, fun k hk => by rw [u4 k hk, e5 k hk]⟩
        · rw [head, if_pos hh, if_neg (by decide), a1, bd_some, hg, ing_ok (by omega) (by omega), n_ix (by omega), s1, a2.1.2.1, m1, f_X3_walk_103, e1, c1, bd_some, ing_ok (by omega) (by omega), lt_eq, n_ix (by omega), l_1, n_add, d1, bd_some, lt_eq, n_add]
          exact u1
        · refine Fr.tr (fun a ha => ?_) u3
          rw [d3 a (by omega), st2_row (by omega), hF3 a (by omega)]
      · have hh := goal_n h8 hv (by omega) (by omega)
        obtain ⟨τ, u1, u2⟩ := ihm (d + 1) q0 σ hR (by rw [DWs_n hv]; exact hQ) hM (by omega) (by omega)
        refine ⟨τ, ?_, u2⟩
        rw [head, if_neg hh, if_pos l_0.symm]
        exact u1
theorem xwalk {n : Nat} (hn : n ≤ 7) : ∀ r t fuel f p x q σ, t + r = n → r < fuel → RS σ (125 + 4 * t) f → SB f → p < f 0 → DQ σ n q → (∀ k, k < t → σ 123 k = nI (x / 3 ^ (t - 1 - k) % 3)) → ∃ τ, f_X3_walk fuel (nI t) (nI n) (nI p) σ = some τ ∧ DQ τ n (DW r f p x q) ∧ WF t σ τ := by
  intro r
  induction r with
  | zero =>
    intro t fuel f p x q σ h1 h2 hR hb hp hQ hM
    obtain ⟨fu, rfl⟩ : ∃ fu, fuel = fu + 1 := ⟨fuel - 1, by omega⟩
    have e : t = n := by omega
    subst e
    obtain ⟨τ, t1, t2, t3⟩ := xweigh hR hb hn hQ hM
    refine ⟨τ, ?_, t2, t3.le fun a ha => by omega, fun k _ => by rw [t3 123 (by omega)]⟩
    rw [walk_u, if_pos ((n_le (by omega) (by omega)).mpr (Nat.le_refl _)), f_X3_walk_11, ing_ok (by omega) (by omega), n_ix (by omega), t1, bd_some]
  | succ r ih =>
    intro t fuel f p x q σ h1 h2 hR hb hp hQ hM
    obtain ⟨fu, rfl⟩ : ∃ fu, fuel = fu + 1 := ⟨fuel - 1, by omega⟩
    obtain ⟨τ, u1, u2, u3⟩ := xwalk_43 (r := r) (fuel := fu) (p2 := nI n) (x := x) hb hp hn (by omega) (fun f' p' x' q' σ' a1 a2 a3 a4 a5 => ih (t + 1) fu f' p' x' q' σ' (by omega) (by omega) a1 a2 a3 a4 a5) FU 0 q σ hR hQ hM (by omega) (by rw [FU_eq]; omega)
    refine ⟨τ, ?_, u2, u3⟩
    have l7 : nI t < (7 : Int32) := by rw [l_7, n_lt (by omega) (by omega)]; omega
    rw [walk_u, if_neg (by rw [n_le (by omega) (by omega)]; omega), if_pos l7, ing_ok (by omega) (by omega), l_1, n_add, ing_ok (by omega) (by omega), lt_eq]
    exact u1
theorem xsearch {σ : Mem} {s : Sys} {n p : Nat} (hc : CI σ s) (hs : SysOk s) (hn : n ≤ 7) (hp : p < s.g 0) : ∃ τ, f_X3_search 8 (nI p) (nI n) σ = some τ ∧ DQ τ n (DW n s.g p 0 none) ∧ Fr (fun a => 111 ≤ a ∧ a ≤ 156) σ τ := by
  have hR : RS (st2 (st2 σ 121 3 (-1)) 121 4 (-1)) 8 s.g := hc.c1.fr fun a h1 h2 => by rw [st2_row (by omega), st2_row (by omega)]
  obtain ⟨τ1, a1, a2, a3⟩ := xtake (b := 125 + 4 * 0) hR hs.og.1.1 (Or.inr (by omega))
  obtain ⟨τ2, b1, b2, b3, b4⟩ := xwalk hn n 0 9 s.g p 0 none τ1 (by omega) (by omega) a2 hs.og.1 hp ⟨by rw [a3 121 (by omega), st2_k (by omega), st2_at], by rw [a3 121 (by omega), st2_at]⟩ (fun k hk => absurd hk (Nat.not_lt_zero k))
  refine ⟨τ2, ?_, b2, ?_⟩
  · rw [f_X3_search, lt_eq, lt_eq, l_0, ing_ok (by omega) (by omega), n_ix (by omega), a1, bd_some, b1, bd_some]
  · refine Fr.tr (Fr.tr (fun a ha => ?_) (a3.le fun a ha => by omega)) (b3.le fun a ha => by omega)
    rw [st2_row (by omega), st2_row (by omega)]
/-- the reference: a round gone -/
theorem p3_div {r : Nat} : 3 ^ (r + 1) / 3 = 3 ^ r := by
  rw [Nat.pow_succ, Nat.mul_div_cancel _ (by omega)]
theorem p3_le {r : Nat} (h : r ≤ 7) : 3 ^ r ≤ 2187 := Nat.pow_le_pow_right (j := 7) (by decide) h
theorem p3_pos (r : Nat) : 0 < 3 ^ r := Nat.pow_pos (by decide)
theorem mgoes_13 {g : Nat → Nat} {n : Nat} {p1 p2 p4 : Int32} (hn : n ≤ 7) : ∀ r k mm f p y σ, k + r = n → r < mm → RA σ 187 f → RA σ 192 g → SB f → p < f 0 → y < 3 ^ r → ∃ τ f' v, f_X8_goesRound_13 p1 p2 (nI n) p4 mm (nI p) (nI y) (nI (3 ^ r / 3)) (nI k) σ = some (nI v, τ) ∧ RA τ 187 f' ∧ RA τ 192 g ∧ SB f' ∧ (v = 0 ∧ endP r f p y = none ∨ v = 1 ∧ endP r f p y = some f') ∧ Fr (fun a => a = 187 ∨ a = 192 ∨ a = 193) σ τ := by
  intro r
  induction r with
  | zero =>
    intro k mm f p y σ h1 h2 hR hA hb hp hy
    obtain ⟨mm, rfl⟩ : ∃ m', mm = m' + 1 := ⟨mm - 1, by omega⟩
    refine ⟨σ, f, 1, ?_, hR, hA, hb, Or.inr ⟨rfl, rfl⟩, Fr.rf⟩
    rw [f_X8_goesRound_13, if_pos ((n_le (by omega) (by omega)).mpr (by omega)), l_1]
  | succ r ih =>
    intro k mm f p y σ h1 h2 hR hA hb hp hy
    obtain ⟨mm, rfl⟩ : ∃ m', mm = m' + 1 := ⟨mm - 1, by omega⟩
    have h8 := hb.1
    have bl := hb.2.1
    have p3 := p3_le (r := r) (by omega)
    have p3' := p3_pos r
    have ps : 3 ^ (r + 1) = 3 ^ r * 3 := Nat.pow_succ 3 r
    have hd : y / 3 ^ r < 3 := by
      rw [Nat.div_lt_iff_lt_mul p3']
      omega
    have hr := Nat.mod_lt y p3'
    have nz : ¬ nI (3 ^ r) = 0 := by rw [l_0, n_eq (by omega) (by omega)]; omega
    have dd := Classical.propDecidable (hous (nI p + nI (y / 3 ^ r) - nI 1) (f 0))
    have eg : nI p + (nI (y / 3 ^ r) - nI 1) = nI p + nI (y / 3 ^ r) - nI 1 := by
      rw [Int32.sub_eq_add_neg, Int32.sub_eq_add_neg, Int32.add_assoc]
    have l11 : (1 : Int32) = nI 1 := rfl
    have head : f_X8_goesRound_13 p1 p2 (nI n) p4 (mm + 1) (nI p) (nI y) (nI (3 ^ (r + 1) / 3)) (nI k) σ = if (if hous (nI p + nI (y / 3 ^ r) - nI 1) (f 0) then nI 1 else nI 0) = 0 then (some ((0 : Int32), σ)) else bd2 (f_X8_stands (nI p + nI (y / 3 ^ r) - nI 1) σ) fun x6 s7 => if x6 = 0 then (f_X8_goesRound_76 p1 p2 (nI n) p4 (f_X8_goesRound_13 p1 p2 (nI n) p4 mm) (nI p + nI (y / 3 ^ r) - nI 1) (nI (y % 3 ^ r)) (nI (3 ^ r / 3)) (nI k) s7) else bd (f_X8_lashBy (nI p + nI (y / 3 ^ r) - nI 1) (s7 187 1) s7) fun s9 => f_X8_goesRound_76 p1 p2 (nI n) p4 (f_X8_goesRound_13 p1 p2 (nI n) p4 mm) (nI p + nI (y / 3 ^ r) - nI 1) (nI (y % 3 ^ r)) (nI (3 ^ r / 3)) (nI k) s9 := by
      rw [p3_div, f_X8_goesRound_13, if_neg (by rw [n_le (by omega) (by omega)]; omega), gd_ok nz, lt_eq, gd_ok nz, n_rem (by omega) (by omega) (by omega), n_div (by omega) (by omega) (by omega), l_3, n_div (by omega) (by omega) (by omega), lt_eq, lt_eq, l11, eg, misHouse hR.1.1 hb, bd2_some]
      simp (disch := omega) only [ing_ok, n_ix]
    rw [head]
    rcases Classical.em (vaD f p (y / 3 ^ r)) with hv | hv
    · have hg := goal_y hv.1
      have hh : hous (nI p + nI (y / 3 ^ r) - nI 1) (f 0) := ⟨_, hg, hv.2⟩
      obtain ⟨v1, v2⟩ := hv
      have mid : ∃ τ2, (bd2 (f_X8_stands (nI (p + y / 3 ^ r - 1)) σ) fun x6 s7 => if x6 = 0 then (f_X8_goesRound_76 p1 p2 (nI n) p4 (f_X8_goesRound_13 p1 p2 (nI n) p4 mm) (nI (p + y / 3 ^ r - 1)) (nI (y % 3 ^ r)) (nI (3 ^ r / 3)) (nI k) s7) else bd (f_X8_lashBy (nI (p + y / 3 ^ r - 1)) (s7 187 1) s7) fun s9 => f_X8_goesRound_76 p1 p2 (nI n) p4 (f_X8_goesRound_13 p1 p2 (nI n) p4 mm) (nI (p + y / 3 ^ r - 1)) (nI (y % 3 ^ r)) (nI (3 ^ r / 3)) (nI k) s9) = f_X8_goesRound_76 p1 p2 (nI n) p4 (f_X8_goesRound_13 p1 p2 (nI n) p4 mm) (nI (p + y / 3 ^ r - 1)) (nI (y % 3 ^ r)) (nI (3 ^ r / 3)) (nI k) τ2 ∧ RA τ2 187 (rsG f (p + y / 3 ^ r - 1)) ∧ RA τ2 192 g ∧ Fr (fun a => a = 187 ∨ a = 192 ∨ a = 193) σ τ2 := by
        rw [mstands hR hb v2, bd2_some]
        by_cases c3 : 0 < f (21 + (p + y / 3 ^ r - 1))
        · obtain ⟨r1, r2⟩ := mlashBy (v := f 1) hR hb v2 (by omega)
          refine ⟨_, ?_, by rw [rsG, if_pos ⟨v2, c3⟩]; exact r2, hA.fr (st2_row (by omega)), Fr.st (S := fun a => a = 187 ∨ a = 192 ∨ a = 193) (by omega)⟩
          rw [if_pos c3, if_neg (by decide), hR.1.2.1, r1, bd_some]
        · refine ⟨σ, ?_, by rw [rsG, if_neg (by omega)]; exact hR, hA, Fr.rf⟩
          rw [if_neg c3, if_pos l_0.symm]
      obtain ⟨τ2, m1, m2, m3, m4⟩ := mid
      obtain ⟨τ3, c1, c2, c3, c4⟩ := mgo1 m2 m3 (rsG_SB hb) (by rw [rsG_low (by omega)]; omega)
      obtain ⟨τ, f', v, u1, u2, u3, u4, u5, u6⟩ := ih (k + 1) mm (nfD f p (y / 3 ^ r)) (p + y / 3 ^ r - 1) (y % 3 ^ r) τ3 (by omega) (by omega) c2 c3 (nfD_SB hb) (by rw [nfD_0]; exact v2) hr
      refine ⟨τ, f', v, ?_, u2, u3, u4, ?_, (m4.tr c4).tr u6⟩
      · rw [if_pos hh, if_neg (by decide), hg, m1, f_X8_goesRound_76, c1, bd_some, lt_eq, l_1, n_add]
        exact u1
      · rw [endP_y ⟨v1, v2⟩]
        exact u5
    · have hh := goal_n h8 hv (by omega) (by omega)
      refine ⟨σ, f, 0, ?_, hR, hA, hb, Or.inl ⟨rfl, endP_n hv⟩, Fr.rf⟩
      rw [if_neg hh, if_pos l_0.symm, l_0]
/-- what the reference keeps of the best -/
def BQ (n : Nat) (q : Option (Nat × Nat × Nat)) (m5 m6 m7 : Int32) : Prop := match q with
  | none => m5 = nI 0 ∧ m6 = -1 ∧ m7 = nI 0
  | some (y, v, l) => m5 = nI y ∧ m6 = nI v ∧ m7 = nI l ∧ y < 3 ^ n ∧ v ≤ 8 ∧ l ≤ 99
theorem mround_69 {g : Nat → Nat} {n p : Nat} {p3 : Int32} (hb : SB g) (hp : p < g 0) (hn : n ≤ 7) : ∀ mm j m5 m6 m7 σ, RA σ 187 g → RA σ 192 g → BQ n (RB n g p 0 none j) m5 m6 m7 → j ≤ 3 ^ n → 3 ^ n - j < mm → ∃ τ m5' m6' m7', f_X8_round_69 (nI p) (nI n) p3 mm (nI (3 ^ n)) m5 m6 m7 (nI j) σ = (if 0 ≤ p3 then (f_X8_round_179 (nI p) (nI n) p3 FU m5' (nI (3 ^ n / 3)) (nI 0) τ) else if p3 = (-1 : Int32) then (some (m6', τ)) else some (m7', τ)) ∧ BQ n (RB n g p 0 none (3 ^ n)) m5' m6' m7' ∧ RA τ 187 g ∧ Fr (fun a => a = 187 ∨ a = 192 ∨ a = 193) σ τ := by
  intro mm
  induction mm with
  | zero => intro j m5 m6 m7 σ _ _ _ _ h; omega
  | succ mm ih =>
    intro j m5 m6 m7 σ hR hA hQ h1 h2
    have h8 := hb.1
    have pw := p3_le hn
    by_cases c : 3 ^ n ≤ j
    · have e : j = 3 ^ n := by omega
      subst e
      refine ⟨σ, m5, m6, m7, ?_, hQ, hR, Fr.rf⟩
      rw [f_X8_round_69, if_pos ((n_le (by omega) (by omega)).mpr c), l_3, n_div (by omega) (by omega) (by omega), lt_eq, lt_eq, l_0]
    · obtain ⟨τ1, f', v, a1, a2, a3, a4, a5, a6⟩ := mgoes_13 (g := g) (p1 := nI p) (p2 := nI j) (p4 := nI (3 ^ n / 3)) hn n 0 FU g p j σ (by omega) (by rw [FU_eq]; omega) hR hA hb hp (by omega)
      obtain ⟨τ2, b1, b2, b3, b4⟩ := mbac a3 h8
      have st := standG_lt a4
      have pc := popc_le (standG f')
      have ls := lsF_le a4 (f' 0) (Nat.le_refl _)
      have w : f_X8_goesRound (nI p) (nI j) (nI n) (nI (3 ^ n / 3)) σ = some (nI v, τ1) := by
        unfold f_X8_goesRound
        rw [lt_eq, lt_eq, lt_eq, lt_eq]
        exact a1
      have head : f_X8_round_69 (nI p) (nI n) p3 (mm + 1) (nI (3 ^ n)) m5 m6 m7 (nI j) σ = if nI v = 0 then (f_X8_round_69 (nI p) (nI n) p3 mm (nI (3 ^ n)) m5 m6 m7 (nI (j + 1)) τ2) else if m6 < nI (popc (standG f')) then (f_X8_round_69 (nI p) (nI n) p3 mm (nI (3 ^ n)) (nI j) (nI (popc (standG f'))) (nI (lsF f' (f' 0))) (nI (j + 1)) τ2) else if nI (popc (standG f')) = m6 then (if nI (lsF f' (f' 0)) ≤ m7 then (f_X8_round_69 (nI p) (nI n) p3 mm (nI (3 ^ n)) m5 m6 m7 (nI (j + 1)) τ2) else f_X8_round_69 (nI p) (nI n) p3 mm (nI (3 ^ n)) (nI j) (nI (popc (standG f'))) (nI (lsF f' (f' 0))) (nI (j + 1)) τ2) else f_X8_round_69 (nI p) (nI n) p3 mm (nI (3 ^ n)) m5 m6 m7 (nI (j + 1)) τ2 := by
        rw [f_X8_round_69, if_neg (by rw [n_le (by omega) (by omega)]; exact c), l_3, n_div (by omega) (by omega) (by omega), w, bd2_some, lt_eq, mstanding a2 a4, bd2_some, mones st, bd2_some, lt_eq, mlsF a2 a4, bd2_some, lt_eq, b1, bd_some, l_1, n_add]
        simp only [lt_eq]
      have hF := a6.tr b4
      have ih' := fun m5 m6 m7 => ih (j + 1) m5 m6 m7 τ2 b2 b3
      rw [RB] at ih'
      rw [Nat.zero_mul, Nat.zero_add] at ih'
      have fin : ∀ m5 m6 m7, BQ n (updO (RB n g p 0 none j) j (endP n g p j)) m5 m6 m7 → ∃ τ m5' m6' m7', f_X8_round_69 (nI p) (nI n) p3 mm (nI (3 ^ n)) m5 m6 m7 (nI (j + 1)) τ2 = (if 0 ≤ p3 then (f_X8_round_179 (nI p) (nI n) p3 FU m5' (nI (3 ^ n / 3)) (nI 0) τ) else if p3 = (-1 : Int32) then (some (m6', τ)) else some (m7', τ)) ∧ BQ n (RB n g p 0 none (3 ^ n)) m5' m6' m7' ∧ RA τ 187 g ∧ Fr (fun a => a = 187 ∨ a = 192 ∨ a = 193) σ τ := fun m5 m6 m7 hq => by
        obtain ⟨τ, x5, x6, x7, u1, u2, u3, u4⟩ := ih' m5 m6 m7 hq (by omega) (by omega)
        exact ⟨τ, x5, x6, x7, u1, u2, u3, hF.tr u4⟩
      rw [head]
      rcases a5 with ⟨rfl, hE⟩ | ⟨rfl, hE⟩
      · rw [if_pos l_0.symm]
        apply fin
        rw [hE]
        exact hQ
      · rw [if_neg (by decide)]
        rw [hE] at fin
        have fin2 := fin (nI j) (nI (popc (standG f'))) (nI (lsF f' (f' 0)))
        generalize RB n g p 0 none j = q at hQ fin fin2
        rcases q with _ | ⟨y, vv, l⟩
        · obtain ⟨q1, q2, q3⟩ := hQ
          rw [q2, if_pos (m1_lt (by omega))]
          exact fin2 ⟨rfl, rfl, rfl, by omega, pc, ls⟩
        · obtain ⟨q1, q2, q3, q4, q5, q6⟩ := hQ
          have upd : updO (some (y, vv, l)) j (some f') = if vv < popc (standG f') ∨ popc (standG f') = vv ∧ l < lsF f' (f' 0) then some (j, popc (standG f'), lsF f' (f' 0)) else some (y, vv, l) := rfl
          rw [upd] at fin fin2
          rw [q2, q3]
          by_cases c1 : vv < popc (standG f')
          · rw [if_pos (show vv < popc (standG f') ∨ popc (standG f') = vv ∧ l < lsF f' (f' 0) from Or.inl c1)] at fin2
            rw [if_pos ((n_lt (by omega) (by omega)).mpr c1)]
            exact fin2 ⟨rfl, rfl, rfl, by omega, pc, ls⟩
          · rw [if_neg (by rw [n_lt (by omega) (by omega)]; exact c1)]
            by_cases c2 : popc (standG f') = vv
            · rw [if_pos (by rw [c2])]
              by_cases c3 : l < lsF f' (f' 0)
              · rw [if_pos (show vv < popc (standG f') ∨ popc (standG f') = vv ∧ l < lsF f' (f' 0) from Or.inr ⟨c2, c3⟩)] at fin2
                rw [if_neg (by rw [n_le (by omega) (by omega)]; omega)]
                exact fin2 ⟨rfl, rfl, rfl, by omega, pc, ls⟩
              · rw [if_neg (show ¬ (vv < popc (standG f') ∨ popc (standG f') = vv ∧ l < lsF f' (f' 0)) by omega)] at fin
                rw [if_pos ((n_le (by omega) (by omega)).mpr (by omega))]
                exact fin m5 (nI vv) (nI l) ⟨q1, rfl, rfl, q4, q5, q6⟩
            · rw [if_neg (show ¬ (vv < popc (standG f') ∨ popc (standG f') = vv ∧ l < lsF f' (f' 0)) by omega)] at fin
              rw [if_neg (by rw [n_eq (by omega) (by omega)]; exact c2)]
              exact fin m5 (nI vv) (nI l) ⟨q1, rfl, rfl, q4, q5, q6⟩
theorem mround_35 {n : Nat} {p1 p3 : Int32} {σ τ : Mem} (hn : n ≤ 7) (ha : f_X8_putAside σ = some τ) : ∀ mm j, j ≤ n → n - j < mm → f_X8_round_35 p1 (nI n) p3 mm (nI (3 ^ j)) (nI j) σ = f_X8_round_69 p1 (nI n) p3 FU (nI (3 ^ n)) (nI 0) (-1) (nI 0) (nI 0) τ := by
  intro mm
  induction mm with
  | zero => intro j _ h; omega
  | succ mm ih =>
    intro j h1 h2
    by_cases c : n ≤ j
    · have e : j = n := by omega
      subst e
      rw [f_X8_round_35, if_pos ((n_le (by omega) (by omega)).mpr c), ha, bd_some, lt_eq, lt_eq, lt_eq, lt_eq, l_0]
    · rw [← ih (j + 1) (by omega) (by omega), f_X8_round_35, if_neg (by rw [n_le (by omega) (by omega)]; exact c), l_3, n_mul, lt_eq, lt_eq, l_1, n_add, Nat.pow_succ]
theorem mround_179 {n k y : Nat} {p1 : Int32} {σ : Mem} (hn : n ≤ 7) (hk : k < n) (hy : y < 3 ^ n) : ∀ mm i, i ≤ k → k - i < mm → f_X8_round_179 p1 (nI n) (nI k) mm (nI (y % 3 ^ (n - i))) (nI (3 ^ (n - i) / 3)) (nI i) σ = some (nI (y / 3 ^ (n - 1 - k) % 3), σ) := by
  intro mm
  induction mm with
  | zero => intro i _ h; omega
  | succ mm ih =>
    intro i h1 h2
    have ei : n - i = n - 1 - i + 1 := by omega
    have p3 := p3_le (r := n - 1 - i) (by omega)
    have p3' := p3_pos (n - 1 - i)
    have p4 := p3_le (r := n - i) (by omega)
    have hm := Nat.mod_lt y (p3_pos (n - i))
    have nz : ¬ nI (3 ^ (n - 1 - i)) = 0 := by rw [l_0, n_eq (by omega) (by omega)]; omega
    have e3 : 3 ^ (n - i) / 3 = 3 ^ (n - 1 - i) := by rw [ei, p3_div]
    by_cases c : k ≤ i
    · have e : i = k := by omega
      subst e
      have dl := dig_last (y := y) (m := n - 1 - i)
      rw [← ei] at dl
      rw [f_X8_round_179, if_pos ((n_le (by omega) (by omega)).mpr c), f_X8_round_210, if_neg (by rw [n_le (by omega) (by omega)]; omega), e3, gd_ok nz, n_div (by omega) (by omega) (by omega), dl]
    · have e4 : y % 3 ^ (n - i) % 3 ^ (n - 1 - i) = y % 3 ^ (n - (i + 1)) := by
        rw [show n - (i + 1) = n - 1 - i by omega]
        exact Nat.mod_mod_of_dvd y (Nat.pow_dvd_pow 3 (by omega))
      have w := ih (i + 1) (by omega) (by omega)
      rw [f_X8_round_179, if_neg (by rw [n_le (by omega) (by omega)]; exact c), if_neg (by rw [n_le (by omega) (by omega)]; omega), e3, gd_ok nz, n_rem (by omega) (by omega) (by omega), l_3, n_div (by omega) (by omega) (by omega), lt_eq, lt_eq, lt_eq, l_1, n_add, e4]
      rw [show n - (i + 1) = n - 1 - i by omega] at w ⊢
      exact w
theorem mround_out {n k y : Nat} {p1 : Int32} {σ : Mem} (hn : n ≤ 7) (hk : n ≤ k) (hk2 : k < 2147483648) (hy : y < 3 ^ n) : ∀ mm i, i ≤ n → n - i < mm → f_X8_round_179 p1 (nI n) (nI k) mm (nI (y % 3 ^ (n - i))) (nI (3 ^ (n - i) / 3)) (nI i) σ = some (-1000000, σ) := by
  intro mm
  induction mm with
  | zero => intro i _ h; omega
  | succ mm ih =>
    intro i h1 h2
    have out : ∀ m5 m8, f_X8_round_210 p1 (nI n) (nI k) m5 m8 σ = some (-1000000, σ) := fun m5 m8 => by
      rw [f_X8_round_210, if_pos ((n_le (by omega) (by omega)).mpr hk)]
    by_cases c0 : k ≤ i
    · rw [f_X8_round_179, if_pos ((n_le (by omega) (by omega)).mpr c0), out]
    · by_cases c : n ≤ i
      · rw [f_X8_round_179, if_neg (by rw [n_le (by omega) (by omega)]; exact c0), if_pos ((n_le (by omega) (by omega)).mpr c), out]
      · have ei : n - i = n - 1 - i + 1 := by omega
        have p3 := p3_le (r := n - 1 - i) (by omega)
        have p3' := p3_pos (n - 1 - i)
        have p4 := p3_le (r := n - i) (by omega)
        have hm := Nat.mod_lt y (p3_pos (n - i))
        have nz : ¬ nI (3 ^ (n - 1 - i)) = 0 := by rw [l_0, n_eq (by omega) (by omega)]; omega
        have e3 : 3 ^ (n - i) / 3 = 3 ^ (n - 1 - i) := by rw [ei, p3_div]
        have e4 : y % 3 ^ (n - i) % 3 ^ (n - 1 - i) = y % 3 ^ (n - (i + 1)) := by
          rw [show n - (i + 1) = n - 1 - i by omega]
          exact Nat.mod_mod_of_dvd y (Nat.pow_dvd_pow 3 (by omega))
        have w := ih (i + 1) (by omega) (by omega)
        rw [f_X8_round_179, if_neg (by rw [n_le (by omega) (by omega)]; exact c0), if_neg (by rw [n_le (by omega) (by omega)]; exact c), e3, gd_ok nz, n_rem (by omega) (by omega) (by omega), l_3, n_div (by omega) (by omega) (by omega), lt_eq, lt_eq, lt_eq, l_1, n_add, e4]
        rw [show n - (i + 1) = n - 1 - i by omega] at w ⊢
        exact w
