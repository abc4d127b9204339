/-! PURE, 31: items copied -/
def cpyR (f g : Nat → Int32) (i j n : Nat) : Nat → Int32 := fun k => if j ≤ k ∧ k < j + n then f (i + (k - j)) else g k
def putC (item : Nat → Nat → Int32) (ra i rb j n : Nat) : Nat → Nat → Int32 := putB item rb (cpyR (item ra) (item rb) i j n)
theorem mcopy_117 {ra i rb j n : Nat} (hra : ra < 8) (hrb : rb < 8) (hi : i + n ≤ 40) (hj : j + n ≤ 40) : ∀ m k σ, k ≤ n → n - k < m → ∃ τ, f_X8_copy_117 (nI ra) (nI i) (nI rb) (nI j) (nI n) m (nI k) σ = f_X8_copy_154 (nI ra) (nI i) (nI rb) (nI j) (nI n) FU (nI 0) τ ∧ (∀ w, k ≤ w → w < n → τ 188 w = σ 186 (40 * ra + i + w)) ∧ (∀ w, w < k → τ 188 w = σ 188 w) ∧ Fr (fun a => a = 188) σ τ := by
  intro m
  induction m with
  | zero => intro k σ _ h; omega
  | succ m ih =>
    intro k σ h1 h2
    by_cases c : n ≤ k
    · refine ⟨σ, ?_, fun w h3 h4 => by omega, fun w _ => rfl, Fr.rf⟩
      rw [f_X8_copy_117, if_pos ((n_le (by omega) (by omega)).mpr c), lt_eq, l_0]
    · obtain ⟨τ, t1, t2, t3, t4⟩ := ih (k + 1) (st2 σ 188 k (σ 186 (40 * ra + i + k))) (by omega) (by omega)
      refine ⟨τ, ?_, fun w h3 h4 => ?_, fun w h3 => ?_, (Fr.st (S := fun a => a = 188) rfl).tr t4⟩
      · rw [← t1, f_X8_copy_117, if_neg (by rw [n_le (by omega) (by omega)]; exact c), l_40, n_mul, n_add, n_add, ing_ok (by omega) (by omega), ing_ok (by omega) (by omega), lt_eq, lt_eq, l_1, n_add, n_ix (by omega), n_ix (by omega)]
      · by_cases e : w = k
        · subst e
          rw [t3 w (by omega), st2_at]
        · rw [t2 w (by omega) h4, st2_a (by omega)]
      · rw [t3 w (by omega), st2_k (by omega)]
theorem mcopy_154 {ra i rb j n : Nat} (hra : ra < 8) (hrb : rb < 8) (hi : i + n ≤ 40) (hj : j + n ≤ 40) : ∀ m k σ, k ≤ n → n - k < m → ∃ τ, f_X8_copy_154 (nI ra) (nI i) (nI rb) (nI j) (nI n) m (nI k) σ = (bd2 (f_X8_well (nI n) τ) fun x3 s4 => some (x3, s4)) ∧ (∀ w, k ≤ w → w < n → τ 186 (40 * rb + j + w) = σ 188 w) ∧ (∀ w, (w < 40 * rb + j + k ∨ 40 * rb + j + n ≤ w) → τ 186 w = σ 186 w) ∧ Fr (fun a => a = 186) σ τ := by
  intro m
  induction m with
  | zero => intro k σ _ h; omega
  | succ m ih =>
    intro k σ h1 h2
    by_cases c : n ≤ k
    · refine ⟨σ, ?_, fun w h3 h4 => by omega, fun w _ => rfl, Fr.rf⟩
      rw [f_X8_copy_154, if_pos ((n_le (by omega) (by omega)).mpr c)]
    · obtain ⟨τ, t1, t2, t3, t4⟩ := ih (k + 1) (st2 σ 186 (40 * rb + j + k) (σ 188 k)) (by omega) (by omega)
      refine ⟨τ, ?_, fun w h3 h4 => ?_, fun w h3 => ?_, (Fr.st (S := fun a => a = 186) rfl).tr t4⟩
      · rw [← t1, f_X8_copy_154, if_neg (by rw [n_le (by omega) (by omega)]; exact c), l_40, n_mul, n_add, n_add, ing_ok (by omega) (by omega), ing_ok (by omega) (by omega), lt_eq, lt_eq, l_1, n_add, n_ix (by omega), n_ix (by omega)]
      · by_cases e : w = k
        · subst e
          rw [t3 _ (by omega), st2_at]
        · rw [t2 w (by omega) h4, st2_a (by omega)]
      · rw [t3 w (by omega), st2_k (by omega)]
theorem w_sub {z n : Nat} (hz : z ≤ 40) (hn : n < 2147483648) : ((nI z).toInt64 - (nI n).toInt64).toInt = (z : Int) - n := by
  rw [Int64.toInt_sub, w_int, w_int, n_int (by omega), n_int hn]
  apply Int.bmod_eq_of_le
  all_goals omega
theorem both_copy (p x q y z : Int32) : BOTH (f_X7_copy p x q y z) (f_X8_copy p x q y z) := by
  intro s hs
  have d1 := Classical.propDecidable (rng p 0 7)
  have d2 := Classical.propDecidable (rng q 0 7)
  by_cases c1 : rng p 0 7
  · by_cases c2 : rng q 0 7
    · have c1' := c1
      obtain ⟨ra, rfl, -, ha⟩ := c1'
      have c2' := c2
      obtain ⟨rb, rfl, -, hb⟩ := c2'
      have ha8 : ra < 8 := by omega
      have hb8 : rb < 8 := by omega
      obtain ⟨hka, hza⟩ := hs.or ra ha8
      obtain ⟨hkb, hzb⟩ := hs.or rb hb8
      cases ga : s.gone ra
      · cases gb : s.gone rb
        · have e185 : ∀ σ, MI σ s → σ 185 ra = nI (s.size ra) ∧ σ 185 rb = nI (s.size rb) := fun σ hm => by
            rw [(hm.m6 ra ha8).1, (hm.m6 rb hb8).1, ga, gb]
            exact ⟨rfl, rfl⟩
          have nn1 : ¬ nI (s.size ra) < 0 := n_nn (by omega)
          have nn2 : (0 : Int32) ≤ nI (s.size rb) := by rw [l_0, n_le (by omega) (by omega)]; omega
          have mfront : ∀ σ, MI σ s → f_X8_copy (nI ra) x (nI rb) y z σ = if nI (s.lane ra) = nI (s.lane rb) then (if z < 0 then f_X8_copy_108 (nI ra) x (nI rb) y z σ else bd2 (f_X8_in x.toInt64 (0 : Int64) (((nI (s.size ra)).toInt64) - z.toInt64) σ) fun x7 s8 => if x7 = 0 then (f_X8_copy_108 (nI ra) x (nI rb) y z s8) else ing (nI rb) 8 <| bd2 (f_X8_in y.toInt64 (0 : Int64) (((s8 185 (nI rb).toNatClampNeg).toInt64) - z.toInt64) s8) fun x9 s10 => if x9 = 0 then (f_X8_copy_108 (nI ra) x (nI rb) y z s10) else lt ((0 : Int32)) fun x11 => f_X8_copy_117 (nI ra) x (nI rb) y z FU x11 s10) else bd2 (f_X8_find (5 : Int32) σ) fun x5 s6 => some (x5, s6) := fun σ hm => by
            obtain ⟨e1, e2⟩ := e185 σ hm
            have l1 := ((hm.m6 ra ha8).2 ga).1
            have l2 := ((hm.m6 rb hb8).2 gb).1
            rw [f_X8_copy, misRow, if_pos c1, bd2_some, if_neg (by decide), misRow, if_pos c2, bd2_some, if_neg (by decide), ing_ok (by omega) (by omega), n_ix (by omega), e1, if_neg nn1, ing_ok (by omega) (by omega), n_ix (by omega), e2, if_pos nn2, ing_ok (by omega) (by omega), ing_ok (by omega) (by omega), l1, l2, ing_ok (by omega) (by omega)]
          have xfront : ∀ σ, CI σ s → ∀ v, f_X7_copyFinding (159 + 2 * ra) (159 + 2 * rb) x y z σ = some (v, σ) → f_X7_copy (nI ra) x (nI rb) y z σ = if v = 0 then (cpg σ (159 + 2 * ra + 1) (159 + 2 * rb + 1) x y z 40 40 fun s10 => bd2 (f_X7_fine z s10) fun x11 s12 => some (x11, s12)) else bd2 (f_X7_found v σ) fun x8 s9 => some (x8, s9) := fun σ hc v hv => by
            rw [f_X7_copy, xisRow, if_pos c1, bd2_some, if_neg (by decide), xisRow, if_pos c2, bd2_some, if_neg (by decide), ing_ok (by omega) (by omega), ing_ok (by omega) (by omega), n_ix (by omega), n_ix (by omega), hv, bd2_some, lt_eq, ing_ok (by omega) (by omega), ing_ok (by omega) (by omega)]
          have xcf : ∀ σ, CI σ s → f_X7_copyFinding (159 + 2 * ra) (159 + 2 * rb) x y z σ = if nI (s.lane ra) = nI (s.lane rb) then (bd2 (f_X4_spanFinding (159 + 2 * ra) x z σ) fun x1 s2 => lt (x1) fun x3 => if x3 = 0 then (bd2 (f_X4_spanFinding (159 + 2 * rb) y z s2) fun x4 s5 => some (x4, s5)) else some (x3, s2)) else some ((5 : Int32), σ) := fun σ hc => by
            obtain ⟨e1, e2⟩ := hc.c6 ra ha8
            obtain ⟨f1, f2⟩ := hc.c6 rb hb8
            rw [ga] at e1
            rw [gb] at f1
            rw [f_X7_copyFinding, e1, f1, (e2 ga).1, (f2 gb).1]
            rfl
          by_cases lk : s.lane ra = s.lane rb
          · by_cases ca : span x z (s.size ra)
            · by_cases cb : span y z (s.size rb)
              · have ca' := ca
                have cb' := cb
                obtain ⟨i, n, rfl, rfl, hin⟩ := ca'
                obtain ⟨j, rfl, hjn⟩ := span_of cb' hzb (by omega)
                refine ⟨nI n, (s.w_rows s.gone s.lane s.size (putC s.item ra i rb j n)).w_sta 0, SysOk.sta (hs.rows hs.or), fun σ hc => ?_, fun σ hm => ?_⟩
                · have h6 : C6 (cp2 σ (159 + 2 * ra + 1) (159 + 2 * rb + 1) i j n) s.gone s.lane s.size (putC s.item ra i rb j n) := by
                    intro r hr
                    rw [cp2_other (159 + 2 * r) (by omega)]
                    refine ⟨(hc.c6 r hr).1, fun hg => ⟨((hc.c6 r hr).2 hg).1, ((hc.c6 r hr).2 hg).2.1, fun w hw => ?_⟩⟩
                    unfold putC
                    by_cases e : r = rb
                    · subst e
                      rw [putB_at]
                      unfold cp2 va_cpy cpyR
                      rw [if_pos (by omega)]
                      by_cases e2 : j ≤ w ∧ w < j + n
                      · rw [if_pos e2, if_pos e2, show 159 + 2 * ra + 1 = 160 + 2 * ra by omega]
                        exact ((hc.c6 ra ha8).2 ga).2.2 _ (by omega)
                      · rw [if_neg e2, if_neg e2, show 159 + 2 * r + 1 = 160 + 2 * r by omega]
                        exact ((hc.c6 r hr).2 hg).2.2 _ (by omega)
                    · rw [putB_ne e, cp2_other _ (by omega)]
                      exact ((hc.c6 r hr).2 hg).2.2 w hw
                  obtain ⟨w1, w2⟩ := hc.rows h6 fun a ha => cp2_other a (by omega)
                  obtain ⟨τ, t1, t2, t3⟩ := xfine (p := nI n) w1
                  refine ⟨τ, ?_, t2, w2.tr t3⟩
                  have v0 : f_X7_copyFinding (159 + 2 * ra) (159 + 2 * rb) (nI i) (nI j) (nI n) σ = some (nI 0, σ) := by
                    rw [xcf σ hc, if_pos (by rw [lk]), xspan_y hc hs ha8 ga ca, bd2_some, lt_eq, if_pos l_0.symm, xspan_y hc hs hb8 gb cb, bd2_some]
                  rw [xfront σ hc _ v0, if_pos l_0.symm, cpg, l_0, n_ix (by omega), n_ix (by omega), n_ix (by omega), if_pos ⟨n_nn (by omega), n_nn (by omega), n_nn (by omega), by omega, by omega⟩, t1, bd2_some]
                · obtain ⟨τ1, a1, a2, a3, a4⟩ := mcopy_117 (n := n) (i := i) (j := j) ha8 hb8 (by omega) (by omega) FU 0 σ (Nat.zero_le _) (by rw [FU_eq]; omega)
                  obtain ⟨τ2, b1, b2, b3, b4⟩ := mcopy_154 (n := n) (i := i) (j := j) ha8 hb8 (by omega) (by omega) FU 0 τ1 (Nat.zero_le _) (by rw [FU_eq]; omega)
                  have e186 : ∀ w, (w < 40 * rb + j ∨ 40 * rb + j + n ≤ w) → τ2 186 w = σ 186 w := fun w hw => by
                    rw [b3 w (by omega), a4 186 (by omega)]
                  have eo : ∀ a, a ≠ 186 → a ≠ 188 → τ2 a = σ a := fun a h1 h2 => by rw [b4 a h1, a4 a h2]
                  have h6 : R6 τ2 s.gone s.lane s.size (putC s.item ra i rb j n) := by
                    intro r hr
                    rw [eo 185 (by omega) (by omega), eo 184 (by omega) (by omega)]
                    refine ⟨(hm.m6 r hr).1, fun hg => ⟨((hm.m6 r hr).2 hg).1, fun w hw => ?_⟩⟩
                    unfold putC
                    by_cases e : r = rb
                    · subst e
                      rw [putB_at]
                      unfold cpyR
                      by_cases e2 : j ≤ w ∧ w < j + n
                      · rw [if_pos e2, show 40 * r + w = 40 * r + j + (w - j) by omega, b2 (w - j) (by omega) (by omega), a2 (w - j) (by omega) (by omega), Nat.add_assoc]
                        exact ((hm.m6 ra ha8).2 ga).2 _ (by omega)
                      · rw [if_neg e2, e186 _ (by omega)]
                        exact ((hm.m6 r hr).2 hg).2 w hw
                    · rw [putB_ne e, e186 _ (by omega)]
                      exact ((hm.m6 r hr).2 hg).2 w hw
                  obtain ⟨w1, w2⟩ := hm.rows h6 fun a ha hb => eo a (by omega) (by omega)
                  obtain ⟨τ, t1, t2, t3⟩ := mwell (p := nI n) w1
                  refine ⟨τ, ?_, t2, w2.tr t3⟩
                  rw [mfront σ hm, if_pos (by rw [lk]), if_neg (show ¬ nI n < 0 from n_nn (by omega)), min_, w_int, w_sub hza (by omega), show (0 : Int64).toInt = 0 from rfl, if_pos ((span_in hza (by omega)).mp ca), bd2_some, if_neg (by decide), ing_ok (by omega) (by omega), n_ix (by omega), (e185 σ hm).2, min_, w_int, w_sub hzb (by omega), show (0 : Int64).toInt = 0 from rfl, if_pos ((span_in hzb (by omega)).mp cb), bd2_some, if_neg (by decide), lt_eq, l_0, a1, b1, t1, bd2_some]
              · refine ⟨-1000010 - nI 2, s.w_sta (nI 2), hs.sta, fun σ hc => ?_, fun σ hm => ?_⟩
                · obtain ⟨τ, t1, t2⟩ := xfound (p := nI 2) hc
                  refine ⟨τ, ?_, t2⟩
                  have v0 : f_X7_copyFinding (159 + 2 * ra) (159 + 2 * rb) x y z σ = some (nI 2, σ) := by
                    rw [xcf σ hc, if_pos (by rw [lk]), xspan_y hc hs ha8 ga ca, bd2_some, lt_eq, if_pos l_0.symm, xspan_n hc hs hb8 gb cb, bd2_some]
                  rw [xfront σ hc _ v0, if_neg (by decide), t1, bd2_some]
                · obtain ⟨τ, t1, t2⟩ := mfind (p := nI 2) hm
                  refine ⟨τ, ?_, t2⟩
                  obtain ⟨i, n, rfl, rfl, hin⟩ := ca
                  rw [mfront σ hm, if_pos (by rw [lk]), if_neg (show ¬ nI n < 0 from n_nn (by omega)), min_, w_int, w_sub hza (by omega), show (0 : Int64).toInt = 0 from rfl, if_pos ((span_in hza (by omega)).mp ⟨i, n, rfl, rfl, hin⟩), bd2_some, if_neg (by decide), ing_ok (by omega) (by omega), n_ix (by omega), (e185 σ hm).2, min_, w_int, w_sub hzb (by omega), show (0 : Int64).toInt = 0 from rfl, if_neg (fun g => cb ((span_in hzb (by omega)).mpr g)), bd2_some, if_pos l_0.symm, f_X8_copy_108, l_2, t1, bd2_some]
            · refine ⟨-1000010 - nI 2, s.w_sta (nI 2), hs.sta, fun σ hc => ?_, fun σ hm => ?_⟩
              · obtain ⟨τ, t1, t2⟩ := xfound (p := nI 2) hc
                refine ⟨τ, ?_, t2⟩
                have v0 : f_X7_copyFinding (159 + 2 * ra) (159 + 2 * rb) x y z σ = some (nI 2, σ) := by
                  rw [xcf σ hc, if_pos (by rw [lk]), xspan_n hc hs ha8 ga ca, bd2_some, lt_eq, if_neg (by decide)]
                rw [xfront σ hc _ v0, if_neg (by decide), t1, bd2_some]
              · obtain ⟨τ, t1, t2⟩ := mfind (p := nI 2) hm
                refine ⟨τ, ?_, t2⟩
                rw [mfront σ hm, if_pos (by rw [lk])]
                by_cases cz : z < 0
                · rw [if_pos cz, f_X8_copy_108, l_2, t1, bd2_some]
                · obtain ⟨n, rfl, hn⟩ := nn_of (p := z) cz
                  rw [if_neg cz, min_, w_int, w_sub hza hn, show (0 : Int64).toInt = 0 from rfl, if_neg (fun g => ca ((span_in hza hn).mpr g)), bd2_some, if_pos l_0.symm, f_X8_copy_108, l_2, t1, bd2_some]
          · have lk' : ¬ nI (s.lane ra) = nI (s.lane rb) := by rw [n_eq (by omega) (by omega)]; exact lk
            refine ⟨-1000010 - nI 5, s.w_sta (nI 5), hs.sta, fun σ hc => ?_, fun σ hm => ?_⟩
            · obtain ⟨τ, t1, t2⟩ := xfound (p := nI 5) hc
              refine ⟨τ, ?_, t2⟩
              have v0 : f_X7_copyFinding (159 + 2 * ra) (159 + 2 * rb) x y z σ = some (nI 5, σ) := by
                rw [xcf σ hc, if_neg lk', l_5]
              rw [xfront σ hc _ v0, if_neg (by decide), t1, bd2_some]
            · obtain ⟨τ, t1, t2⟩ := mfind (p := nI 5) hm
              refine ⟨τ, ?_, t2⟩
              rw [mfront σ hm, if_neg lk', l_5, t1, bd2_some]
        · refine ⟨-1000010 - nI 1, s.w_sta (nI 1), hs.sta, fun σ hc => ?_, fun σ hm => ?_⟩
          · obtain ⟨τ, t1, t2⟩ := xfound (p := nI 1) hc
            refine ⟨τ, ?_, t2⟩
            obtain ⟨e1, e2⟩ := hc.c6 ra ha8
            obtain ⟨f1, f2⟩ := hc.c6 rb hb8
            rw [ga] at e1
            rw [gb] at f1
            have v0 : f_X7_copyFinding (159 + 2 * ra) (159 + 2 * rb) x y z σ = some (nI 1, σ) := by
              rw [f_X7_copyFinding, e1, f1]
              rfl
            rw [f_X7_copy, xisRow, if_pos c1, bd2_some, if_neg (by decide), xisRow, if_pos c2, bd2_some, if_neg (by decide), ing_ok (by omega) (by omega), ing_ok (by omega) (by omega), n_ix (by omega), n_ix (by omega), v0, bd2_some, lt_eq, if_neg (by decide), t1, bd2_some]
          · obtain ⟨τ, t1, t2⟩ := mfind (p := nI 1) hm
            refine ⟨τ, ?_, t2⟩
            have e1 := (hm.m6 ra ha8).1
            have e2 := (hm.m6 rb hb8).1
            rw [ga] at e1
            rw [gb, if_pos rfl] at e2
            have nn1 : ¬ (if false = true then (-1 : Int32) else nI (s.size ra)) < 0 := n_nn (a := s.size ra) (by omega)
            rw [f_X8_copy, misRow, if_pos c1, bd2_some, if_neg (by decide), misRow, if_pos c2, bd2_some, if_neg (by decide), ing_ok (by omega) (by omega), n_ix (by omega), e1, if_neg nn1, ing_ok (by omega) (by omega), n_ix (by omega), e2, if_neg (by decide), f_X8_copy_35, l_1, t1, bd2_some]
      · refine ⟨-1000010 - nI 1, s.w_sta (nI 1), hs.sta, fun σ hc => ?_, fun σ hm => ?_⟩
        · obtain ⟨τ, t1, t2⟩ := xfound (p := nI 1) hc
          refine ⟨τ, ?_, t2⟩
          obtain ⟨e1, e2⟩ := hc.c6 ra ha8
          rw [ga] at e1
          have v0 : f_X7_copyFinding (159 + 2 * ra) (159 + 2 * rb) x y z σ = some (nI 1, σ) := by
            rw [f_X7_copyFinding, e1]
            rfl
          rw [f_X7_copy, xisRow, if_pos c1, bd2_some, if_neg (by decide), xisRow, if_pos c2, bd2_some, if_neg (by decide), ing_ok (by omega) (by omega), ing_ok (by omega) (by omega), n_ix (by omega), n_ix (by omega), v0, bd2_some, lt_eq, if_neg (by decide), t1, bd2_some]
        · obtain ⟨τ, t1, t2⟩ := mfind (p := nI 1) hm
          refine ⟨τ, ?_, t2⟩
          have e1 := (hm.m6 ra ha8).1
          rw [ga, if_pos rfl] at e1
          rw [f_X8_copy, misRow, if_pos c1, bd2_some, if_neg (by decide), misRow, if_pos c2, bd2_some, if_neg (by decide), ing_ok (by omega) (by omega), n_ix (by omega), e1, if_pos (by decide), f_X8_copy_35, l_1, t1, bd2_some]
    · refine ⟨-1000001, s, hs, XS.rf fun σ hc => ?_, MS.rf fun σ hm => ?_⟩
      · rw [f_X7_copy, xisRow, if_pos c1, bd2_some, if_neg (by decide), xisRow, if_neg c2, bd2_some, if_pos l_0.symm]
      · rw [f_X8_copy, misRow, if_pos c1, bd2_some, if_neg (by decide), misRow, if_neg c2, bd2_some, if_pos l_0.symm]
  · refine ⟨-1000001, s, hs, XS.rf fun σ hc => ?_, MS.rf fun σ hm => ?_⟩
    · rw [f_X7_copy, xisRow, if_neg c1, bd2_some, if_pos l_0.symm]
    · rw [f_X8_copy, misRow, if_neg c1, bd2_some, if_pos l_0.symm]
