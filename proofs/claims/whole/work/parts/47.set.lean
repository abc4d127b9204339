/-! PURE, 22: what a row has; an item put -/
def span (p q : Int32) (z : Nat) : Prop := ∃ a b, p = nI a ∧ q = nI b ∧ a + b ≤ z
theorem nn_of {p : Int32} (h : ¬ p < nI 0) : ∃ a, p = nI a ∧ a < 2147483648 := by
  have h1 : ¬ p.toInt < 0 := fun q => h (by rw [Int32.lt_iff_toInt_lt, n_int (by decide)]; exact q)
  have h2 := p.toInt_lt
  refine ⟨p.toInt.toNat, ?_, by omega⟩
  apply Int32.toInt_inj.mp
  rw [n_int (by omega)]
  omega
theorem xspan_g {σ : Mem} {s : Sys} {i : Nat} {p q : Int32} (hc : CI σ s) (hi : i < 8) (h : s.gone i = true) : f_X4_spanFinding (159 + 2 * i) p q σ = some (nI 1, σ) := by
  have e := (hc.c6 i hi).1
  rw [h, if_pos rfl] at e
  simp (disch := omega) only [f_X4_spanFinding, e, l_0, l_1, n_eq, ↓reduceIte, Nat.reduceEqDiff]
theorem xspan_y {σ : Mem} {s : Sys} {i : Nat} {p q : Int32} (hc : CI σ s) (hs : SysOk s) (hi : i < 8) (h : s.gone i = false) (hp : span p q (s.size i)) : f_X4_spanFinding (159 + 2 * i) p q σ = some (nI 0, σ) := by
  have hz := (hs.or i hi).2
  obtain ⟨e, e2⟩ := hc.c6 i hi
  obtain ⟨-, e3, -⟩ := e2 h
  rw [h] at e
  obtain ⟨a, b, rfl, rfl, hab⟩ := hp
  have c1 : ¬ a < 0 := by omega
  have c2 : ¬ b < 0 := by omega
  have c3 : ¬ s.size i < a := by omega
  have c4 : b ≤ s.size i - a := by omega
  simp (disch := omega) only [f_X4_spanFinding, e, e3, l_0, Bool.false_eq_true, n_lt, n_le, n_sub, c1, c2, c3, c4, ↓reduceIte]
theorem xspan_n {σ : Mem} {s : Sys} {i : Nat} {p q : Int32} (hc : CI σ s) (hs : SysOk s) (hi : i < 8) (h : s.gone i = false) (hp : ¬ span p q (s.size i)) : f_X4_spanFinding (159 + 2 * i) p q σ = some (nI 2, σ) := by
  have hz := (hs.or i hi).2
  obtain ⟨e, e2⟩ := hc.c6 i hi
  obtain ⟨-, e3, -⟩ := e2 h
  rw [h] at e
  by_cases c1 : p < nI 0
  · simp (disch := omega) only [f_X4_spanFinding, e, l_0, l_2, Bool.false_eq_true, c1, ↓reduceIte]
  · by_cases c2 : q < nI 0
    · simp (disch := omega) only [f_X4_spanFinding, e, l_0, l_2, Bool.false_eq_true, c1, c2, ↓reduceIte]
    · obtain ⟨a, rfl, ha⟩ := nn_of c1
      obtain ⟨b, rfl, hb⟩ := nn_of c2
      by_cases c3 : s.size i < a
      · simp (disch := omega) only [f_X4_spanFinding, e, e3, l_0, l_2, Bool.false_eq_true, c1, c2, n_lt, c3, ↓reduceIte]
      · have c4 : ¬ b ≤ s.size i - a := fun g => hp ⟨a, b, rfl, rfl, by omega⟩
        simp (disch := omega) only [f_X4_spanFinding, e, e3, l_0, l_2, Bool.false_eq_true, c1, c2, n_lt, n_le, n_sub, c3, c4, ↓reduceIte]
theorem span_in {p : Int32} {z n : Nat} (hz : z ≤ 40) (hn : n < 2147483648) : span p (nI n) z ↔ 0 ≤ p.toInt ∧ p.toInt ≤ (z : Int) - n := by
  constructor
  · rintro ⟨a, b, rfl, hq, hab⟩
    have := (n_eq (a := n) (b := b) hn (by omega)).mp hq
    rw [n_int (by omega)]
    omega
  · rintro ⟨h1, h2⟩
    refine ⟨p.toInt.toNat, n, ?_, rfl, by omega⟩
    apply Int32.toInt_inj.mp
    rw [n_int (by omega)]
    omega
theorem lane_key {n K M : Nat} (hK : 0 < K) (hM : 0 < M) : ((n * K % (M * K) : Nat) : Int).bmod (M * K) / (K : Int) = (n : Int).bmod M := by
  rw [Nat.mul_mod_mul_right, ← Int.emod_bmod (n : Int) M]
  have e0 : ((n : Int) % (M : Int)) = ((n % M : Nat) : Int) := by rw [Int.natCast_emod]
  rw [e0]
  have hr : n % M < M := Nat.mod_lt _ hM
  generalize n % M = r at hr
  have e1 : ((r * K : Nat) : Int) % ((M * K : Nat) : Int) = ((r * K : Nat) : Int) := by
    rw [← Int.natCast_emod, Nat.mod_eq_of_lt (Nat.mul_lt_mul_of_pos_right hr hK)]
  have e2 : ((r : Nat) : Int) % (M : Int) = (r : Int) := by
    rw [← Int.natCast_emod, Nat.mod_eq_of_lt hr]
  have hK' : (K : Int) ≠ 0 := by omega
  rw [Int.bmod_def, Int.bmod_def, e1, e2]
  have k1 : 2 * r + 1 ≤ M → 2 * (r * K) + K ≤ M * K := fun h => by
    have h4 : (2 * r + 1) * K ≤ M * K := Nat.mul_le_mul_right K h
    rw [Nat.add_mul, Nat.mul_assoc, Nat.one_mul] at h4
    exact h4
  have k2 : M ≤ 2 * r → M * K ≤ 2 * (r * K) := fun h => by rw [← Nat.mul_assoc]; exact Nat.mul_le_mul_right K h
  have c : ((r * K : Nat) : Int) < (((M * K : Nat) : Int) + 1) / 2 ↔ (r : Int) < ((M : Int) + 1) / 2 := by
    clear e0 e1 e2
    generalize r * K = Q at k1 k2
    generalize M * K = P at k1 k2
    omega
  by_cases d : (r : Int) < ((M : Int) + 1) / 2
  · rw [if_pos d, if_pos (c.mpr d), Int.natCast_mul, Int.mul_ediv_cancel _ hK']
  · rw [if_neg d, if_neg (fun q => d (c.mp q)), Int.natCast_mul, Int.natCast_mul, ← Int.sub_mul, Int.mul_ediv_cancel _ hK']
theorem lane8 (p : Int32) : (p <<< ((24 : Int32) &&& 31)) >>> ((24 : Int32) &&& 31) = p.toInt8.toInt32 := by
  apply Int32.toInt_inj.mp
  have e1 := pk_shl p ((24 : Int32) &&& 31) 24 (by decide)
  rw [lg_i2b_toInt, pk_shr _ _ 24 (by decide), Int.shiftRight_eq_div_pow]
  have e2 : p.toInt = (p.toBitVec.toNat : Int).bmod (2 ^ 32) := BitVec.toInt_eq_toNat_bmod _
  have e3 : (p <<< ((24 : Int32) &&& 31)).toInt = ((p <<< ((24 : Int32) &&& 31)).toBitVec.toNat : Int).bmod (2 ^ 32) := BitVec.toInt_eq_toNat_bmod _
  rw [e3, e1, e2, Int.bmod_bmod_of_dvd (show 2 ^ 8 ∣ 2 ^ 32 from ⟨2 ^ 24, by decide⟩)]
  rw [show (2 : Nat) ^ 32 = 2 ^ 8 * 2 ^ 24 by decide]
  exact lane_key (K := 2 ^ 24) (M := 2 ^ 8) (by decide) (by decide)
theorem lane16 (p : Int32) : (p <<< ((16 : Int32) &&& 31)) >>> ((16 : Int32) &&& 31) = p.toInt16.toInt32 := by
  apply Int32.toInt_inj.mp
  have e1 := pk_shl p ((16 : Int32) &&& 31) 16 (by decide)
  rw [lg_i2s_toInt, pk_shr _ _ 16 (by decide), Int.shiftRight_eq_div_pow]
  have e2 : p.toInt = (p.toBitVec.toNat : Int).bmod (2 ^ 32) := BitVec.toInt_eq_toNat_bmod _
  have e3 : (p <<< ((16 : Int32) &&& 31)).toInt = ((p <<< ((16 : Int32) &&& 31)).toBitVec.toNat : Int).bmod (2 ^ 32) := BitVec.toInt_eq_toNat_bmod _
  rw [e3, e1, e2, Int.bmod_bmod_of_dvd (show 2 ^ 16 ∣ 2 ^ 32 from ⟨2 ^ 16, by decide⟩)]
  rw [show (2 : Nat) ^ 32 = 2 ^ 16 * 2 ^ 16 by decide]
  exact lane_key (K := 2 ^ 16) (M := 2 ^ 16) (by decide) (by decide)
/-- a number as a lane has it -/
def laneV (k : Nat) (v : Int32) : Int32 := if k = 0 then v.toInt8.toInt32 else if k = 1 then v.toInt16.toInt32 else v
theorem xput {σ : Mem} {b k j : Nat} {v : Int32} (h : σ b 2 = nI k) (hk : k ≤ 2) (hj : j < 40) : f_X4_put b (nI j) v σ = some (laneV k v, st2 σ (b + 1) j (laneV k v)) := by
  unfold laneV
  rcases (by omega : k = 0 ∨ k = 1 ∨ k = 2) with rfl | rfl | rfl
  all_goals simp (disch := omega) only [f_X4_put, h, l_0, l_1, n_eq, n_ix, ing_ok, lt_eq, st2_at, ↓reduceIte, Nat.reduceEqDiff]
theorem mlane {σ : Mem} {k : Nat} {v : Int32} (hk : k ≤ 2) : f_X8_asLane (nI k) v σ = some (laneV k v, σ) := by
  unfold laneV f_X8_asLane
  rw [lane8, lane16]
  rcases (by omega : k = 0 ∨ k = 1 ∨ k = 2) with rfl | rfl | rfl
  all_goals simp (disch := omega) only [l_0, l_1, n_eq, ↓reduceIte, Nat.reduceEqDiff]
def putJ (item : Nat → Nat → Int32) (i j : Nat) (x : Int32) : Nat → Nat → Int32 := putB item i (putB (item i) j x)
theorem both_set (p q v : Int32) : BOTH (f_X7_set p q v) (f_X8_set p q v) := by
  intro s hs
  have d := Classical.propDecidable (rng p 0 7)
  by_cases c : rng p 0 7
  · have c' := c
    obtain ⟨i, rfl, -, hi⟩ := c'
    have hi8 : i < 8 := by omega
    obtain ⟨hk, hz⟩ := hs.or i hi8
    cases c1 : s.gone i
    · have hy : ∀ σ, f_X8_in q.toInt64 0 ((nI (s.size i) - nI 1).toInt64) σ = some (if 0 ≤ q.toInt ∧ q.toInt ≤ (s.size i : Int) - 1 then nI 1 else nI 0, σ) := fun σ => by
        rw [min_, w_int, w_int, ← l_1, pred_int' (by omega), show (0 : Int64).toInt = 0 from rfl]
      have e185 : ∀ σ, MI σ s → σ 185 i = nI (s.size i) := fun σ hm => by
        rw [(hm.m6 i hi8).1, c1]
        rfl
      by_cases cj : span q (nI 1) (s.size i)
      · have cj2 := (span_in hz (by decide)).mp cj
        have cj' := cj
        obtain ⟨j, b, rfl, hb1, hjb⟩ := cj'
        have hb2 := (n_eq (by omega) (by omega)).mp hb1
        refine ⟨laneV (s.lane i) v, (s.w_rows s.gone s.lane s.size (putJ s.item i j (laneV (s.lane i) v))).w_sta 0, SysOk.sta (hs.rows hs.or), fun σ hc => ?_, fun σ hm => ?_⟩
        · obtain ⟨e1, e2⟩ := hc.c6 i hi8
          obtain ⟨q1, q2, q3⟩ := e2 c1
          have h6 : C6 (st2 σ (160 + 2 * i) j (laneV (s.lane i) v)) s.gone s.lane s.size (putJ s.item i j (laneV (s.lane i) v)) := by
            intro r hr
            by_cases e : r = i
            · subst e
              unfold putJ
              rw [putB_at, st2_row (a := 160 + 2 * r) (b := 159 + 2 * r) (by omega)]
              refine ⟨(hc.c6 r hr).1, fun hg => ⟨q1, q2, fun w hw => ?_⟩⟩
              by_cases ew : w = j
              · rw [ew, st2_at, putB_at]
              · rw [st2_k ew, putB_ne ew]; exact q3 w hw
            · unfold putJ
              rw [putB_ne e, st2_row (a := 160 + 2 * i) (b := 159 + 2 * r) (by omega), st2_row (a := 160 + 2 * i) (b := 160 + 2 * r) (by omega)]
              exact hc.c6 r hr
          obtain ⟨w1, w2⟩ := hc.rows h6 fun a ha => st2_row (by omega)
          obtain ⟨τ, t1, t2, t3⟩ := xfine (p := laneV (s.lane i) v) w1
          refine ⟨τ, ?_, t2, w2.tr t3⟩
          have u1 := xspan_y hc hs hi8 c1 cj
          have u2 := xput (v := v) q1 hk (show j < 40 by omega)
          rw [show 159 + 2 * i + 1 = 160 + 2 * i by omega] at u2
          simp (disch := omega) only [f_X7_set, xisRow, c, bd2_some, l_0, l_1, n_eq, ↓reduceIte, Nat.reduceEqDiff, n_ix, ing_ok, u1, lt_eq, u2, t1]
        · obtain ⟨e1, e2⟩ := hm.m6 i hi8
          obtain ⟨q1, q3⟩ := e2 c1
          have h6 : R6 (st2 σ 186 (40 * i + j) (laneV (s.lane i) v)) s.gone s.lane s.size (putJ s.item i j (laneV (s.lane i) v)) := by
            intro r hr
            unfold putJ
            rw [st2_a (by omega), st2_a (by omega)]
            refine ⟨(hm.m6 r hr).1, fun hg => ⟨((hm.m6 r hr).2 hg).1, fun w hw => ?_⟩⟩
            by_cases e : r = i
            · subst e
              rw [putB_at]
              by_cases ew : w = j
              · rw [ew, st2_at, putB_at]
              · rw [st2_k (by omega), putB_ne ew]; exact q3 w hw
            · rw [putB_ne e, st2_k (by omega)]
              exact ((hm.m6 r hr).2 hg).2 w hw
          obtain ⟨w1, w2⟩ := hm.rows h6 fun a ha _ => st2_row (by omega)
          obtain ⟨τ, t1, t2, t3⟩ := mwell (p := laneV (s.lane i) v) w1
          refine ⟨τ, ?_, t2, w2.tr t3⟩
          have u2 : ∀ σ, f_X8_asLane (nI (s.lane i)) v σ = some (laneV (s.lane i) v, σ) := fun σ => mlane hk
          simp (disch := omega) only [f_X8_set, misRow, c, bd2_some, l_0, l_1, l_40, n_eq, n_le, Nat.zero_le, ↓reduceIte, Nat.reduceEqDiff, n_ix, ing_ok, e185 σ hm, hy, cj2.1, show (nI j).toInt ≤ (s.size i : Int) - 1 from cj2.2, and_self, q1, u2, n_mul, n_add, lt_eq, st2_at, t1]
      · have cj2 : ¬ (0 ≤ q.toInt ∧ q.toInt ≤ (s.size i : Int) - 1) := fun g => cj ((span_in hz (by decide)).mpr g)
        refine ⟨-1000010 - 2, s.w_sta 2, hs.sta, fun σ hc => ?_, fun σ hm => ?_⟩
        · obtain ⟨τ, t1, t2⟩ := xfound (p := 2) hc
          refine ⟨τ, ?_, t2⟩
          rw [l_2] at t1
          have u1 := xspan_n hc hs hi8 c1 cj
          simp (disch := omega) only [f_X7_set, xisRow, c, bd2_some, l_0, l_1, l_2, n_eq, ↓reduceIte, Nat.reduceEqDiff, n_ix, ing_ok, u1, lt_eq, t1]
        · obtain ⟨τ, t1, t2⟩ := mfind (p := 2) hm
          refine ⟨τ, ?_, t2⟩
          rw [l_2] at t1
          simp (disch := omega) only [f_X8_set, misRow, c, bd2_some, l_0, l_1, l_2, n_eq, n_le, Nat.zero_le, ↓reduceIte, Nat.reduceEqDiff, n_ix, ing_ok, e185 σ hm, hy, cj2, t1]
    · refine ⟨-1000010 - 1, s.w_sta 1, hs.sta, fun σ hc => ?_, fun σ hm => ?_⟩
      · obtain ⟨τ, t1, t2⟩ := xfound (p := 1) hc
        refine ⟨τ, ?_, t2⟩
        rw [l_1] at t1
        have u1 := xspan_g (p := q) (q := nI 1) hc hi8 c1
        simp (disch := omega) only [f_X7_set, xisRow, c, bd2_some, l_0, l_1, n_eq, ↓reduceIte, Nat.reduceEqDiff, n_ix, ing_ok, u1, lt_eq, t1]
      · have e1 := (hm.m6 i (by omega)).1
        rw [c1] at e1
        obtain ⟨τ, t1, t2⟩ := mfind (p := 1) hm
        refine ⟨τ, ?_, t2⟩
        rw [l_1] at t1
        have ng : ¬ nI 0 ≤ -nI 1 := by decide
        simp (disch := omega) only [f_X8_set, misRow, c, bd2_some, l_0, l_1, n_eq, ↓reduceIte, Nat.reduceEqDiff, n_ix, ing_ok, e1, ng, t1]
  · refine ⟨-1000001, s, hs, XS.rf fun σ hc => ?_, MS.rf fun σ hm => ?_⟩
    · simp (disch := omega) only [f_X7_set, xisRow, c, bd2_some, l_0, ↓reduceIte]
    · simp (disch := omega) only [f_X8_set, misRow, c, bd2_some, l_0, ↓reduceIte]
