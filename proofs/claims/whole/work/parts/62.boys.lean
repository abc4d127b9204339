/-! PURE, 37: two boys, on both sides -/
theorem xlead_23 {σ : Mem} {g : Nat → Nat} {p1 : Int32} (hR : RS σ 112 g) (hb : SB g) : ∀ m j, j ≤ g 0 → g 0 - j < m → f_X2_evensLead_23 p1 m (nI (parS g 0 j) - nI (parS g 1 j)) (nI j) σ = some (leadI g, σ) := by
  intro m
  induction m with
  | zero => intro j _ h; omega
  | succ m ih =>
    intro j h1 h2
    have h8 := hb.1
    by_cases c : g 0 ≤ j
    · have e : j = g 0 := by omega
      subst e
      rw [f_X2_evensLead_23, hR.1.1, if_pos ((n_le (by omega) (by omega)).mpr c)]
      rfl
    · have cn : ¬ nI (g 0) ≤ nI j := by rw [n_le (by omega) (by omega)]; exact c
      have s1 := (hR.2 j (by omega)).2.2
      have b9 := (hb.2.2.2.2 j (by omega)).2.2
      have p0 := parS_le (q := 0) hb j h1
      have p1' := parS_le (q := 1) hb j h1
      have ih' := ih (j + 1) (by omega) (by omega)
      rw [parS, parS] at ih'
      rw [f_X2_evensLead_23, hR.1.1, if_neg cn, l_2, n_rem (by omega) (by omega) (by omega), l_0, l_1, ing_ok (by omega) (by omega), ing_ok (by omega) (by omega), n_ix (by omega), s1, lt_eq, lt_eq, lt_eq, lt_eq, n_add, addN3 (by omega) (by omega) (by omega), subN3 (by omega) (by omega) (by omega)]
      by_cases c2 : j % 2 = 0
      · rw [if_pos c2, if_neg (by omega), Nat.add_zero] at ih'
        rw [c2, if_pos rfl]
        exact ih'
      · rw [if_neg c2, if_pos (by omega), Nat.add_zero] at ih'
        rw [if_neg (by rw [n_eq (by omega) (by omega)]; exact c2)]
        exact ih'
theorem xlead {σ : Mem} {f : Nat → Nat} {m : Nat} (hR : RS σ 116 f) (hb : SB f) (hm : m ≤ 20) : ∃ τ, f_X2_evensLead (nI m) σ = some (leadI (itG m f), τ) ∧ Fr (fun a => 112 ≤ a ∧ a ≤ 115) σ τ := by
  obtain ⟨τ1, a1, a2, a3⟩ := xtake (b := 112) hR hb.1 (Or.inl (by omega))
  obtain ⟨τ2, b1, b2, b3⟩ := xpassAll a2 hb (v := m) (by omega)
  refine ⟨τ2, ?_, (a3.le fun a ha => by omega).tr (b3.le fun a ha => by omega)⟩
  have w := xlead_23 (p1 := nI m) b2 (it_SB hb m) FU 0 (Nat.zero_le _) (by rw [FU_eq]; have := (it_SB hb m).1; omega)
  have e0 : nI (parS (itG m f) 0 0) - nI (parS (itG m f) 1 0) = 0 := by
    rw [parS, parS]
    decide
  rw [e0] at w
  unfold f_X2_evensLead
  rw [a1, bd_some, b1, bd_some, lt_eq, lt_eq, ← w, l_0]
theorem sp_back {f : Nat → Nat} {h v : Nat} : sp (sp f h v) h (f (21 + h)) = f := by
  funext k
  unfold sp
  by_cases e : k = 21 + h
  · rw [if_pos e, e]
  · rw [if_neg e, if_neg e]
theorem xplay_41 {n m r t fuel : Nat} {f : Nat → Nat} (hb : SB f) (hm : m ≤ 20) (ht : t < 4) (ih : ∀ f σ, RS σ 116 f → SB f → ∃ τ, f_X2_play fuel (nI (t + 1)) (nI n) (nI m) σ = some (PG m r f (t + 1), τ) ∧ RS τ 116 f ∧ Fr (fun a => 112 ≤ a ∧ a ≤ 119) σ τ) : ∀ mm d σ, RS σ 116 f → 2 * d + t % 2 ≤ f 0 + 1 → f 0 + 1 - d < mm → ∃ τ, f_X2_play_41 (nI t) (nI n) (nI m) (f_X2_play fuel) mm (foldK t (fun d => PG m r (apG f t d) (t + 1)) d) (nI (2 * d + t % 2)) σ = some (foldK t (fun d => PG m r (apG f t d) (t + 1)) 4, τ) ∧ RS τ 116 f ∧ Fr (fun a => 112 ≤ a ∧ a ≤ 119) σ τ := by
  intro mm
  induction mm with
  | zero => intro d σ _ _ h; omega
  | succ mm ihm =>
    intro d σ hR h1 h2
    have h8 := hb.1
    have t2 : t % 2 < 2 := Nat.mod_lt _ (by decide)
    by_cases c : f 0 ≤ 2 * d + t % 2
    · refine ⟨σ, ?_, hR, Fr.rf⟩
      have e4 : d + (4 - d) = 4 := by omega
      have st := foldK_stop (t := t) (F := fun d => PG m r (apG f t d) (t + 1)) (d := d) (4 - d) fun e he1 he2 => by
        show PG m r (apG f t e) (t + 1) = PG m r (apG f t 0) (t + 1)
        have q1 : apG f t e = f := by
          unfold apG
          rw [if_neg (by omega), rsG, if_neg (by omega)]
        have q2 : apG f t 0 = f := if_pos rfl
        rw [q1, q2]
      rw [e4] at st
      rw [st, f_X2_play_41, hR.1.1, if_pos ((n_le (by omega) (by omega)).mpr c)]
    · have cn : ¬ nI (f 0) ≤ nI (2 * d + t % 2) := by rw [n_le (by omega) (by omega)]; exact c
      have s1 := (hR.2 (2 * d + t % 2) (by omega)).2.2
      have b9 := (hb.2.2.2.2 (2 * d + t % 2) (by omega)).2.2
      have bl := hb.2.1
      have ap : apG f t (d + 1) = rsG f (2 * d + t % 2) := by
        unfold apG
        rw [if_neg (by omega)]
        rfl
      have ih' := ihm (d + 1)
      rw [foldK] at ih'
      have en : nI (2 * d + t % 2) + nI 2 = nI (2 * (d + 1) + t % 2) := by rw [n_add]; congr 1; omega
      by_cases c2 : f (21 + (2 * d + t % 2)) = 0
      · have rs0 : rsG f (2 * d + t % 2) = f := by rw [rsG, if_neg (by omega)]
        have q2 : apG f t 0 = f := if_pos rfl
        have k0 : opT t (foldK t (fun d => PG m r (apG f t d) (t + 1)) d) (PG m r (apG f t (d + 1)) (t + 1)) = foldK t (fun d => PG m r (apG f t d) (t + 1)) d := by
          rw [ap, rs0]
          have := foldK_keep (t := t) (F := fun d => PG m r (apG f t d) (t + 1)) d
          simp only [q2] at this
          exact this
        obtain ⟨τ, u1, u2, u3⟩ := ih' σ hR (by omega) (by omega)
        refine ⟨τ, ?_, u2, u3⟩
        rw [k0] at u1
        rw [f_X2_play_41, hR.1.1, if_neg cn, ing_ok (by omega) (by omega), n_ix (by omega), s1, lt_eq, c2, if_pos (by decide), lt_eq, l_2, en]
        exact u1
      · have rs1 : rsG f (2 * d + t % 2) = raiG f (2 * d + t % 2) (f 1) := by rw [rsG, if_pos ⟨by omega, by omega⟩]
        obtain ⟨r1, r2⟩ := xraise (j := 2 * d + t % 2) (v := f 1) hR hb (by omega) (by omega)
        obtain ⟨τ1, a1, a2, a3⟩ := ih _ _ r2 (rai_SB hb)
        have a4 := a2.sp (j := 2 * d + t % 2) (v := f (21 + (2 * d + t % 2))) (by unfold raiG; rw [sp_ne (by omega)]; exact h8)
        unfold raiG at a4
        rw [sp_back] at a4
        have hF1 : Fr (fun a => 112 ≤ a ∧ a ≤ 119) σ (st2 σ (116 + 3) (2 * d + t % 2) (nI (min 99 (f (21 + (2 * d + t % 2)) + f 1)))) := Fr.st (S := fun a => 112 ≤ a ∧ a ≤ 119) (by omega)
        have hF2 : Fr (fun a => 112 ≤ a ∧ a ≤ 119) τ1 (st2 τ1 (116 + 3) (2 * d + t % 2) (nI (f (21 + (2 * d + t % 2))))) := Fr.st (S := fun a => 112 ≤ a ∧ a ≤ 119) (by omega)
        obtain ⟨τ, u1, u2, u3⟩ := ih' _ a4 (by omega) (by omega)
        refine ⟨τ, ?_, u2, ((hF1.tr a3).tr hF2).tr u3⟩
        have cz : ¬ nI (f (21 + (2 * d + t % 2))) ≤ 0 := by rw [l_0, n_le (by omega) (by omega)]; omega
        rw [← u1, f_X2_play_41, hR.1.1, if_neg cn, ing_ok (by omega) (by omega), n_ix (by omega), s1, lt_eq, if_neg cz, hR.1.2.1, r1, bd_some, l_1, n_add, a1, bd2_some, lt_eq, l_2, n_rem (by omega) (by omega) (by omega), l_0]
        simp (disch := omega) only [lt_eq, ing_ok]
        rw [en]
        show _ = f_X2_play_41 (nI t) (nI n) (nI m) (f_X2_play fuel) mm (opT t (foldK t (fun d => PG m r (apG f t d) (t + 1)) d) (PG m r (apG f t (d + 1)) (t + 1))) (nI (2 * (d + 1) + t % 2)) _
        rw [ap, rs1]
        unfold opT
        by_cases c3 : t % 2 = 0
        · rw [if_pos (by rw [c3]), if_pos c3]
        · rw [if_neg (by rw [n_eq (by omega) (by omega)]; exact c3), if_neg c3]
theorem play_u {rn : Nat} {p1 p2 p3 : Int32} {s0 : Mem} : f_X2_play (rn + 1) p1 p2 p3 s0 = if p2 ≤ p1 then (f_X2_play_10 p1 p2 p3 (f_X2_play rn) s0) else if p1 < (4 : Int32) then (bd2 (f_X2_play rn (p1 + (1 : Int32)) p2 p3 s0) fun x1 s2 => lt (x1) fun x3 => lt (p1 - p1 / (2 : Int32) * (2 : Int32)) fun x4 => f_X2_play_41 p1 p2 p3 (f_X2_play rn) FU x3 x4 s2) else f_X2_play_10 p1 p2 p3 (f_X2_play rn) s0 := rfl
theorem xplay {n m : Nat} (hn : n ≤ 4) (hm : m ≤ 20) : ∀ r t fuel f σ, t + r = n → r < fuel → RS σ 116 f → SB f → ∃ τ, f_X2_play fuel (nI t) (nI n) (nI m) σ = some (PG m r f t, τ) ∧ RS τ 116 f ∧ Fr (fun a => 112 ≤ a ∧ a ≤ 119) σ τ := by
  intro r
  induction r with
  | zero =>
    intro t fuel f σ h1 h2 hR hb
    obtain ⟨fu, rfl⟩ : ∃ fu, fuel = fu + 1 := ⟨fuel - 1, by omega⟩
    obtain ⟨τ, t1, t2⟩ := xlead hR hb hm
    refine ⟨τ, ?_, hR.fr fun a h3 h4 => t2 a (by omega), t2.le fun a ha => by omega⟩
    rw [play_u, if_pos ((n_le (by omega) (by omega)).mpr (by omega)), f_X2_play_10, t1, bd2_some]
    rfl
  | succ r ih =>
    intro t fuel f σ h1 h2 hR hb
    obtain ⟨fu, rfl⟩ : ∃ fu, fuel = fu + 1 := ⟨fuel - 1, by omega⟩
    have h8 := hb.1
    have t2 : t % 2 < 2 := Nat.mod_lt _ (by decide)
    obtain ⟨τ1, a1, a2, a3⟩ := ih (t + 1) fu f σ (by omega) (by omega) hR hb
    obtain ⟨τ, u1, u2, u3⟩ := xplay_41 (n := n) (r := r) (fuel := fu) (t := t) hb hm (by omega) (fun f' σ' hR' hb' => ih (t + 1) fu f' σ' (by omega) (by omega) hR' hb') FU 0 τ1 a2 (by omega) (by rw [FU_eq]; omega)
    refine ⟨τ, ?_, u2, a3.tr u3⟩
    have q2 : apG f t 0 = f := if_pos rfl
    rw [foldK, q2, Nat.mul_zero, Nat.zero_add] at u1
    have l4 : nI t < (4 : Int32) := by rw [l_4, n_lt (by omega) (by omega)]; omega
    rw [play_u, if_neg (by rw [n_le (by omega) (by omega)]; omega), if_pos l4, l_1, n_add, a1, bd2_some, lt_eq, l_2, n_rem (by omega) (by omega) (by omega), lt_eq]
    exact u1
/-- the reference -/
theorem mspin2_5 {σ : Mem} {g : Nat → Nat} {q : Nat} (hR : RA σ 187 g) (hb : SB g) (hq : q ≤ 1) : ∀ m h, h % 2 = q → h ≤ g 0 + 1 → g 0 + 1 - h < m → f_X8_spinOf_5 (nI q) (nI 2) m (nI (parS g q h)) (nI h) σ = some (nI (parS g q (g 0)), σ) := by
  intro m
  induction m with
  | zero => intro h _ h1 h2; omega
  | succ m ih =>
    intro h hp h1 h2
    have h8 := hb.1
    by_cases c : g 0 ≤ h
    · have e : parS g q h = parS g q (g 0) := by
        rcases (by omega : h = g 0 ∨ h = g 0 + 1) with e | e
        · rw [e]
        · rw [e, parS, if_neg (by omega), Nat.add_zero]
      rw [e, f_X8_spinOf_5, l_0, ing_ok (by omega) (by omega), n_ix (by omega), hR.1.1, if_pos ((n_le (by omega) (by omega)).mpr c)]
    · have s1 := (hR.2 h (by omega)).2.2
      have e : parS g q (h + 1 + 1) = parS g q h + g (21 + h) := by
        rw [parS, parS, if_pos hp, if_neg (by omega), Nat.add_zero]
      have w := ih (h + 1 + 1) (by omega) (by omega) (by omega)
      rw [e] at w
      rw [f_X8_spinOf_5, l_0, ing_ok (by omega) (by omega), n_ix (by omega), hR.1.1, if_neg (by rw [n_le (by omega) (by omega)]; exact c), l_21, n_add, ing_ok (by omega) (by omega), n_ix (by omega), s1, n_add, lt_eq, n_add, lt_eq]
      exact w
theorem mspin2 {σ : Mem} {g : Nat → Nat} {q : Nat} (hR : RA σ 187 g) (hb : SB g) (hq : q ≤ 1) (h1 : 1 ≤ g 0) : f_X8_spinOf (nI q) (nI 2) σ = some (nI (parS g q (g 0)), σ) := by
  have h8 := hb.1
  have e : parS g q q = 0 := by
    rcases (by omega : q = 0 ∨ q = 1) with rfl | rfl
    · rfl
    · rw [parS, if_neg (by omega)]
      rfl
  have w := mspin2_5 hR hb hq FU q (by omega) (by omega) (by rw [FU_eq]; omega)
  rw [e] at w
  unfold f_X8_spinOf
  rw [lt_eq, lt_eq]
  exact w
theorem mlashT {g : Nat → Nat} {p1 p2 : Int32} : ∀ k x f mm σ, x < 100000 → k ≤ 4 → RA σ 187 f → RA σ 192 g → SB f → k < mm → ∃ τ, f_X8_lashTurns_7 p1 p2 mm (nI x) (nI k - nI 1) σ = some τ ∧ RA τ 187 (LT k x f) ∧ RA τ 192 g ∧ Fr (fun a => a = 187) σ τ := by
  intro k
  induction k with
  | zero =>
    intro x f mm σ hx hk hR hA hb hm
    obtain ⟨mm, rfl⟩ : ∃ m', mm = m' + 1 := ⟨mm - 1, by omega⟩
    refine ⟨σ, ?_, hR, hA, Fr.rf⟩
    rw [f_X8_lashTurns_7, if_pos (by decide)]
  | succ k ih =>
    intro x f mm σ hx hk hR hA hb hm
    obtain ⟨mm, rfl⟩ : ∃ m', mm = m' + 1 := ⟨mm - 1, by omega⟩
    have h8 := hb.1
    have bl := hb.2.1
    have k2 : k % 2 < 2 := Nat.mod_lt _ (by decide)
    have d5 : x % 5 < 5 := Nat.mod_lt _ (by decide)
    have em : nI k + (-1) = nI k - nI 1 := by rw [Int32.sub_eq_add_neg]; rfl
    have head : f_X8_lashTurns_7 p1 p2 (mm + 1) (nI x) (nI (k + 1) - nI 1) σ = bd2 (f_X8_isHouse (nI (x % 5 * 2) - nI 2 + nI (k % 2)) σ) fun x3 s4 => if x3 = 0 then (f_X8_lashTurns_7 p1 p2 mm (nI (x / 5)) (nI k - nI 1) s4) else bd2 (f_X8_stands (nI (x % 5 * 2) - nI 2 + nI (k % 2)) s4) fun x5 s6 => if x5 = 0 then (f_X8_lashTurns_7 p1 p2 mm (nI (x / 5)) (nI k - nI 1) s6) else bd (f_X8_lashBy (nI (x % 5 * 2) - nI 2 + nI (k % 2)) (s6 187 1) s6) fun s8 => f_X8_lashTurns_7 p1 p2 mm (nI (x / 5)) (nI k - nI 1) s8 := by
      rw [n_sub (by omega), show k + 1 - 1 = k by omega, f_X8_lashTurns_7, em, if_neg (show ¬ nI k < 0 from n_nn (by omega)), l_5, n_rem (by omega) (by omega) (by omega), l_2, n_mul, n_rem (by omega) (by omega) (by omega), n_div (by omega) (by omega) (by omega), lt_eq, lt_eq, l_1]
      simp (disch := omega) only [lt_eq, ing_ok, n_ix]
    rw [head, LT]
    have d := Classical.propDecidable (hous (nI (x % 5 * 2) - nI 2 + nI (k % 2)) (f 0))
    by_cases c0 : x % 5 = 0
    · have nh : ¬ hous (nI (x % 5 * 2) - nI 2 + nI (k % 2)) (f 0) := by
        rw [hous_int h8, c0]
        rcases (by omega : k % 2 = 0 ∨ k % 2 = 1) with e | e
        · rw [e, show (nI (0 * 2) - nI 2 + nI 0).toInt = -2 by decide]; omega
        · rw [e, show (nI (0 * 2) - nI 2 + nI 1).toInt = -1 by decide]; omega
      have ap : apG f k (x % 5) = f := by rw [c0]; rfl
      rw [misHouse hR.1.1 hb, if_neg nh, bd2_some, if_pos l_0.symm, ap]
      exact ih (x / 5) f mm σ (by omega) (by omega) hR hA hb (by omega)
    · have eh : nI (x % 5 * 2) - nI 2 + nI (k % 2) = nI (2 * (x % 5 - 1) + k % 2) := by
        rw [n_sub (by omega), n_add]; congr 1; omega
      have ap : apG f k (x % 5) = rsG f (2 * (x % 5 - 1) + k % 2) := if_neg c0
      rw [eh] at d ⊢
      rw [ap]
      by_cases c1 : 2 * (x % 5 - 1) + k % 2 < f 0
      · rw [misHouse hR.1.1 hb, if_pos ⟨_, rfl, c1⟩, bd2_some, if_neg (by decide), mstands hR hb c1, bd2_some]
        by_cases c2 : 0 < f (21 + (2 * (x % 5 - 1) + k % 2))
        · obtain ⟨r1, r2⟩ := mlashBy (v := f 1) hR hb c1 (by omega)
          rw [if_pos c2, if_neg (by decide), hR.1.2.1, r1, bd_some, rsG, if_pos ⟨c1, c2⟩]
          obtain ⟨τ, t1, t2, t3, t4⟩ := ih (x / 5) _ mm _ (by omega) (by omega) r2 (hA.fr (st2_row (by omega))) (rai_SB hb) (by omega)
          exact ⟨τ, t1, t2, t3, (Fr.st (S := fun a => a = 187) rfl).tr t4⟩
        · rw [if_neg c2, if_pos l_0.symm, rsG, if_neg (by omega)]
          exact ih (x / 5) f mm σ (by omega) (by omega) hR hA hb (by omega)
      · rw [misHouse hR.1.1 hb, if_neg (by rintro ⟨j, hj, hj2⟩; have := (n_eq (by omega) (by omega)).mp hj; omega), bd2_some, if_pos l_0.symm, rsG, if_neg (by omega)]
        exact ih (x / 5) f mm σ (by omega) (by omega) hR hA hb (by omega)
theorem p5_le {n : Nat} (h : n ≤ 4) : 5 ^ n ≤ 625 := Nat.pow_le_pow_right (j := 4) (by decide) h
theorem mboys_65 {g : Nat → Nat} {n m : Nat} (hb : SB g) (h1 : 1 ≤ g 0) (hn : n ≤ 4) (hm : m ≤ 20) : ∀ mm j σ, RA σ 187 g → RA σ 192 g → (∀ x, x < j → σ 193 x = VK m n g 0 x) → j ≤ 5 ^ n → 5 ^ n - j < mm → ∃ τ, f_X8_boys_65 (nI n) (nI m) mm (nI (5 ^ n)) (nI j) σ = f_X8_boys_118 (nI n) (nI m) FU (nI (5 ^ n)) (nI n - nI 1) τ ∧ RA τ 187 g ∧ (∀ x, x < 5 ^ n → τ 193 x = VK m n g 0 x) ∧ Fr (fun a => a = 187 ∨ a = 192 ∨ a = 193) σ τ := by
  intro mm
  induction mm with
  | zero => intro j σ _ _ _ _ h; omega
  | succ mm ih =>
    intro j σ hR hA hT h2 h3
    have h8 := hb.1
    have p5 := p5_le hn
    by_cases c : 5 ^ n ≤ j
    · have e : j = 5 ^ n := by omega
      subst e
      refine ⟨σ, ?_, hR, hT, Fr.rf⟩
      rw [f_X8_boys_65, if_pos ((n_le (by omega) (by omega)).mpr c), lt_eq, l_1]
    · obtain ⟨τ1, a1, a2, a3, a4⟩ := mlashT (g := g) (p1 := nI j) (p2 := nI n) n j g FU σ (by omega) hn hR hA hb (by rw [FU_eq]; omega)
      have hL := LT_SB n j g hb
      have hL0 : LT n j g 0 = g 0 := LT_low (by omega) n j g
      obtain ⟨τ2, b1, b2, b4⟩ := mgoOn a2 hL (by omega) (v := m) (by omega)
      have b3 := a3.fr (b4 192 (by omega))
      have hI := it_SB hL m
      have hI0 : itG m (LT n j g) 0 = g 0 := by rw [it_low (by omega) (by omega), hL0]
      have e0 := mspin2 b2 hI (show 0 ≤ 1 by omega) (by omega)
      have e1 := mspin2 b2 hI (show 1 ≤ 1 by omega) (by omega)
      have b5 : RA (st2 τ2 193 j (leadI (itG m (LT n j g)))) 192 g := b3.fr (st2_row (by omega))
      obtain ⟨τ3, c1, c2, c4⟩ := mback b5 h8
      have c3 := b5.fr (c4 192 (by omega))
      have hF := a4.tr b4
      have hF3 := c4 193 (by omega)
      obtain ⟨τ, t1, t2, t3, t4⟩ := ih (j + 1) τ3 c2 c3 (fun x hx => by
        rw [hF3]
        by_cases e : x = j
        · rw [e, st2_at]; rfl
        · rw [st2_k e, hF 193 (by omega)]
          exact hT x (by omega)) (by omega) (by omega)
      refine ⟨τ, ?_, t2, t3, ?_⟩
      · have w : f_X8_lashTurns (nI j) (nI n) σ = some τ1 := by
          unfold f_X8_lashTurns
          rw [lt_eq, lt_eq, l_1]
          exact a1
        rw [← t1, f_X8_boys_65, if_neg (by rw [n_le (by omega) (by omega)]; exact c), w, bd_some, b1, bd_some, l_0, l_2, e0, bd2_some, l_1, e1, bd2_some, ing_ok (by omega) (by omega), n_ix (by omega), lt_eq]
        show (bd (f_X8_takeBack (st2 τ2 193 j (leadI (itG m (LT n j g))))) fun s11 => lt (nI j + nI 1) fun x12 => f_X8_boys_65 (nI n) (nI m) mm (nI (5 ^ n)) x12 s11) = _
        rw [c1, bd_some, lt_eq, n_add]
      · exact (((hF.le fun a ha => by omega).tr (Fr.st (S := fun a => a = 187 ∨ a = 192 ∨ a = 193) (by omega))).tr (c4.le fun a ha => by omega)).tr t4
theorem mboys_150 {g : Nat → Nat} {n m k y : Nat} {p1 p2 : Int32} {K1 : Int32 → Int32 → Mem → Option (Int32 × Mem)} {K2 : Int32 → Int32 → Int32 → Mem → Option (Int32 × Mem)} {σ : Mem} (hk : k ≤ 3) (hy : y < 5 ^ k) (hT : ∀ x, y ≤ x → x < 5 ^ (k + 1) → σ 193 x = VK m n g (n - (k + 1)) x) : ∀ mm d, d ≤ 4 → 4 - d < mm → f_X8_boys_150 p1 p2 K1 K2 mm (nI (5 ^ k)) (nI k) (nI y) (foldK k (fun d => VK m n g (n - (k + 1)) (5 * y + d)) d) (nI (d + 1)) σ = K2 (nI (5 ^ k)) (nI k) (nI (y + 1)) (st2 σ 193 y (foldK k (fun d => VK m n g (n - (k + 1)) (5 * y + d)) 4)) := by
  intro mm
  induction mm with
  | zero => intro d _ h; omega
  | succ mm ih =>
    intro d h1 h2
    have p5 := p5_le (n := k) (by omega)
    have p51 := p5_le (n := k + 1) (by omega)
    have ps : 5 ^ (k + 1) = 5 ^ k * 5 := Nat.pow_succ 5 k
    by_cases c : d = 4
    · subst c
      rw [f_X8_boys_150, l_5, if_pos (by decide), ing_ok (by omega) (by omega), n_ix (by omega), lt_eq, lt_eq, l_1, n_add]
    · have v := hT (5 * y + (d + 1)) (by omega) (by omega)
      rw [← ih (d + 1) (by omega) (by omega), foldK, f_X8_boys_150, l_5, if_neg (by rw [n_le (by omega) (by omega)]; omega), n_mul, n_add, ing_ok (by omega) (by omega), n_ix (by omega), v, lt_eq, l_2, n_rem (by omega) (by omega) (by omega)]
      unfold opT f_X8_boys_182 f_X8_boys_194
      rw [lt_eq, lt_eq, lt_eq, lt_eq, l_0, l_1, n_add]
      generalize foldK k (fun d => VK m n g (n - (k + 1)) (5 * y + d)) d = B
      generalize VK m n g (n - (k + 1)) (5 * y + (d + 1)) = V
      by_cases c2 : k % 2 = 0
      · rw [c2, if_pos rfl, if_pos rfl]
        unfold imax
        by_cases c3 : B < V
        · have c4 : ¬ V ≤ B := by
            rw [Int32.lt_iff_toInt_lt] at c3
            rw [Int32.le_iff_toInt_le]
            omega
          rw [if_pos c3, if_neg c4, if_pos rfl]
        · have c4 : V ≤ B := by
            rw [Int32.lt_iff_toInt_lt] at c3
            rw [Int32.le_iff_toInt_le]
            omega
          rw [if_neg c3, if_pos c4, if_neg (by decide)]
          rfl
      · rw [if_neg (by rw [n_eq (by omega) (by omega)]; exact c2), if_neg c2]
        unfold imin
        by_cases c3 : V < B
        · have c4 : V ≤ B := by
            rw [Int32.lt_iff_toInt_lt] at c3
            rw [Int32.le_iff_toInt_le]
            omega
          rw [if_pos c3, if_pos c4, if_pos rfl]
        · rw [if_neg c3]
          by_cases c4 : V ≤ B
          · have e : V = B := by
              rw [Int32.lt_iff_toInt_lt] at c3
              rw [Int32.le_iff_toInt_le] at c4
              exact Int32.toInt_inj.mp (by omega)
            rw [if_pos c4, if_pos rfl, e]
          · rw [if_neg c4, if_neg (by decide)]
theorem mboys_130 {g : Nat → Nat} {n m k : Nat} {p1 p2 : Int32} {K1 : Int32 → Int32 → Mem → Option (Int32 × Mem)} (hk : k ≤ 3) (hkn : k + 1 ≤ n) : ∀ mm y σ, (∀ x, x < y → σ 193 x = VK m n g (n - k) x) → (∀ x, y ≤ x → x < 5 ^ (k + 1) → σ 193 x = VK m n g (n - (k + 1)) x) → y ≤ 5 ^ k → 5 ^ k - y < mm → ∃ τ, f_X8_boys_130 p1 p2 K1 mm (nI (5 ^ k)) (nI k) (nI y) σ = K1 (nI (5 ^ k)) (nI k - nI 1) τ ∧ (∀ x, x < 5 ^ k → τ 193 x = VK m n g (n - k) x) ∧ Fr (fun a => a = 193) σ τ := by
  intro mm
  induction mm with
  | zero => intro y σ _ _ _ h; omega
  | succ mm ih =>
    intro y σ hL hT h1 h2
    have p5 := p5_le (n := k) (by omega)
    have p51 := p5_le (n := k + 1) (by omega)
    have ps : 5 ^ (k + 1) = 5 ^ k * 5 := Nat.pow_succ 5 k
    have em : nI k + (-1) = nI k - nI 1 := by rw [Int32.sub_eq_add_neg]; rfl
    by_cases c : 5 ^ k ≤ y
    · have e : y = 5 ^ k := by omega
      refine ⟨σ, ?_, fun x hx => hL x (by omega), Fr.rf⟩
      rw [f_X8_boys_130, if_pos ((n_le (by omega) (by omega)).mpr c), em, lt_eq]
    · have v := hT (5 * y) (by omega) (by omega)
      have w := mboys_150 (p1 := p1) (p2 := p2) (K1 := K1) (K2 := f_X8_boys_130 p1 p2 K1 mm) (σ := σ) hk (by omega) hT FU 0 (by omega) (by rw [FU_eq]; omega)
      have eV : foldK k (fun d => VK m n g (n - (k + 1)) (5 * y + d)) 4 = VK m n g (n - k) y := by
        rw [show n - k = n - (k + 1) + 1 by omega, VK, show n - (n - (k + 1) + 1) = k by omega]
      rw [eV] at w
      obtain ⟨τ, t1, t2, t3⟩ := ih (y + 1) (st2 σ 193 y (VK m n g (n - k) y)) (fun x hx => by
        by_cases e : x = y
        · rw [e, st2_at]
        · rw [st2_k e]; exact hL x (by omega)) (fun x hx1 hx2 => by rw [st2_k (by omega)]; exact hT x (by omega) hx2) (by omega) (by omega)
      refine ⟨τ, ?_, t2, (Fr.st (S := fun a => a = 193) rfl).tr t3⟩
      rw [← t1, ← w, f_X8_boys_130, if_neg (by rw [n_le (by omega) (by omega)]; exact c), l_5, n_mul, ing_ok (by omega) (by omega), n_ix (by omega), v, lt_eq, lt_eq]
      rfl
theorem mboys_118 {g : Nat → Nat} {n m : Nat} {p1 p2 : Int32} (hn : n ≤ 4) : ∀ k mm σ, k ≤ n → k < mm → (∀ x, x < 5 ^ k → σ 193 x = VK m n g (n - k) x) → ∃ τ, f_X8_boys_118 p1 p2 mm (nI (5 ^ k)) (nI k - nI 1) σ = some (VK m n g n 0, τ) ∧ Fr (fun a => a = 193) σ τ := by
  intro k
  induction k with
  | zero =>
    intro mm σ _ hm hT
    obtain ⟨mm, rfl⟩ : ∃ m', mm = m' + 1 := ⟨mm - 1, by omega⟩
    refine ⟨σ, ?_, Fr.rf⟩
    rw [f_X8_boys_118, if_pos (by decide), l_0, ing_ok (by omega) (by omega), n_ix (by omega), hT 0 (by omega)]
    rfl
  | succ k ih =>
    intro mm σ hk hm hT
    obtain ⟨mm, rfl⟩ : ∃ m', mm = m' + 1 := ⟨mm - 1, by omega⟩
    have p51 := p5_le (n := k + 1) (by omega)
    have ps : 5 ^ (k + 1) = 5 ^ k * 5 := Nat.pow_succ 5 k
    obtain ⟨τ1, a1, a2, a3⟩ := mboys_130 (p1 := p1) (p2 := p2) (K1 := f_X8_boys_118 p1 p2 mm) (by omega) hk FU 0 σ (fun x hx => absurd hx (Nat.not_lt_zero x)) (fun x _ hx => hT x hx) (Nat.zero_le _) (by rw [FU_eq]; omega)
    obtain ⟨τ, t1, t2⟩ := ih mm τ1 (by omega) (by omega) a2
    refine ⟨τ, ?_, a3.tr t2⟩
    rw [n_sub (by omega), show k + 1 - 1 = k by omega, f_X8_boys_118, if_neg (show ¬ nI k < 0 from n_nn (by omega)), l_5, n_div (by omega) (by omega) (by omega), ps, Nat.mul_div_cancel _ (by omega), lt_eq, lt_eq, l_0, a1]
    exact t1
theorem mboys_46 {n : Nat} {p2 : Int32} {σ : Mem} (hn : n ≤ 4) : ∀ mm j, j ≤ n → n - j < mm → f_X8_boys_46 (nI n) p2 mm (nI (5 ^ j)) (nI j) σ = f_X8_boys_65 (nI n) p2 FU (nI (5 ^ n)) (nI 0) σ := by
  intro mm
  induction mm with
  | zero => intro j _ h; omega
  | succ mm ih =>
    intro j h1 h2
    by_cases c : n ≤ j
    · have e : j = n := by omega
      subst e
      rw [f_X8_boys_46, if_pos ((n_le (by omega) (by omega)).mpr c), lt_eq, l_0]
    · rw [← ih (j + 1) (by omega) (by omega), f_X8_boys_46, if_neg (by rw [n_le (by omega) (by omega)]; exact c), l_5, n_mul, lt_eq, lt_eq, l_1, n_add, Nat.pow_succ]
theorem both_boys (p q : Int32) : BOTH (f_X7_boys p q) (f_X8_boys p q) := by
  intro s hs
  have h8 := hs.og.1.1
  have hb := hs.og.1
  have d := Classical.propDecidable (rng p 0 4)
  have d2 := Classical.propDecidable (rng q 1 20)
  have hx : ∀ σ, f_X7_within p (nI 0) (nI 4) σ = some (if rng p 0 4 then nI 1 else nI 0, σ) := fun σ => xin_rng (by decide) (by decide)
  have hy : ∀ σ, f_X8_in p.toInt64 0 4 σ = some (if rng p 0 4 then nI 1 else nI 0, σ) := fun σ => min_rng (a := 0) (b := 4) rfl rfl (by decide)
  have hx2 : ∀ σ, f_X7_within q (nI 1) (nI 20) σ = some (if rng q 1 20 then nI 1 else nI 0, σ) := fun σ => xin_rng (by decide) (by decide)
  have hy2 : ∀ σ, f_X8_in q.toInt64 1 20 σ = some (if rng q 1 20 then nI 1 else nI 0, σ) := fun σ => min_rng (a := 1) (b := 20) rfl rfl (by decide)
  by_cases c0 : s.g 0 = 0
  · refine ⟨-1000002, s, hs, XS.rf fun σ hc => ?_, MS.rf fun σ hm => ?_⟩
    · simp (disch := omega) only [f_X7_boys, xnoStreet hc hs, c0, bd2_some, l_0, n_eq, ↓reduceIte, Nat.reduceEqDiff]
    · have e := hm.m1b
      rw [if_pos c0] at e
      simp (disch := omega) only [f_X8_boys, e, l_0, ↓reduceIte]
  · have e1 : ∀ σ, MI σ s → σ 183 4 = nI 1 := fun σ hm => by rw [hm.m1b, if_neg c0]
    by_cases c : rng p 0 4
    · by_cases cq : rng q 1 20
      · have c' := c
        obtain ⟨n, rfl, -, hn⟩ := c'
        have cq' := cq
        obtain ⟨m, rfl, -, hm20⟩ := cq'
        refine ⟨PG m n s.g 0, s, hs, XT.xs fun σ hc => ?_, MT.ms fun σ hm => ?_⟩
        · obtain ⟨τ1, a1, a2, a3⟩ := xtake (b := 116) hc.c1 h8 (Or.inr (by omega))
          obtain ⟨τ2, b1, b2, b3⟩ := xplay hn hm20 n 0 9 s.g τ1 (by omega) (by omega) a2 hb
          refine ⟨τ2, ?_, (a3.le fun a ha => by omega).tr (b3.le fun a ha => by omega)⟩
          simp (disch := omega) only [f_X7_boys, xnoStreet hc hs, c0, hx, hx2, c, cq, bd2_some, bd_some, l_0, l_1, l_4, l_20, n_eq, ↓reduceIte, Nat.reduceEqDiff, a1, b1]
        · obtain ⟨τ1, a1, a2, a3, a4⟩ := masi hm hs
          have p5 := p5_le hn
          obtain ⟨τ2, b1, b2, b3, b4⟩ := mboys_65 hb (by omega) hn hm20 FU 0 τ1 a2 a3 (fun x hx => absurd hx (Nat.not_lt_zero x)) (Nat.zero_le _) (by rw [FU_eq]; omega)
          obtain ⟨τ3, k1, k2⟩ := mboys_118 (g := s.g) (m := m) (p1 := nI n) (p2 := nI m) hn n FU τ2 (Nat.le_refl _) (by rw [FU_eq]; omega) (fun x hx => by rw [Nat.sub_self]; exact b3 x hx)
          have ev := VK_PG (m := m) (n := n) (g := s.g) n 0 (Nat.le_refl _)
          rw [Nat.sub_self] at ev
          refine ⟨τ3, ?_, b2.fr (k2 187 (by omega)), (a4.tr b4).tr (k2.le fun a ha => by omega)⟩
          have w := mboys_46 (p2 := nI m) (σ := τ1) hn FU 0 (Nat.zero_le _) (by rw [FU_eq]; omega)
          rw [f_X8_boys, e1 σ hm, if_neg (by decide), hy, if_pos c, bd2_some, if_neg (by decide), hy2, if_pos cq, bd2_some, if_neg (by decide), a1, bd_some, lt_eq, lt_eq]
          rw [Nat.pow_zero] at w
          rw [l_1, l_0, w, b1, k1, ev]
          rfl
      · refine ⟨-1000001, s, hs, XS.rf fun σ hc => ?_, MS.rf fun σ hm => ?_⟩
        · simp (disch := omega) only [f_X7_boys, xnoStreet hc hs, c0, hx, hx2, c, cq, bd2_some, l_0, l_1, l_4, l_20, n_eq, Nat.reduceEqDiff, ↓reduceIte]
        · simp (disch := omega) only [f_X8_boys, e1 σ hm, hy, hy2, c, cq, bd2_some, l_0, n_eq, Nat.reduceEqDiff, ↓reduceIte]
    · refine ⟨-1000001, s, hs, XS.rf fun σ hc => ?_, MS.rf fun σ hm => ?_⟩
      · simp (disch := omega) only [f_X7_boys, xnoStreet hc hs, c0, hx, c, bd2_some, l_0, l_1, l_4, n_eq, Nat.reduceEqDiff, ↓reduceIte]
      · simp (disch := omega) only [f_X8_boys, e1 σ hm, hy, c, bd2_some, l_0, n_eq, Nat.reduceEqDiff, ↓reduceIte]
