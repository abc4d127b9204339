def f_X7_isRow (p0 : Int32) (s0 : Mem) : Option (Int32 × Mem) := bd2 (f_X7_within p0 (0 : Int32) (7 : Int32) s0) fun x1 s2 => gd (x1 = 0 ∨ x1 = 1) <| some (x1, s2)
theorem cs_X7_isRow (p0 : Int32) (s0 : Mem) : CS 2 MX7_isRow [.int p0] s0 ((f_X7_isRow p0 s0).map wI) := by
  refine CS.of (by decide +kernel) (Nat.le_of_ble_eq_true rfl) (fun X Z hO hQ => ?_)
  show SIM X MX7_isRow wI Z 0 [(0, .int p0)] [] s0 _
  unfold f_X7_isRow
  refine S_ (R_iload_n hO dX7_isRow_0 rfl) ?_
  refine S_ (R_iconst (v := (0 : Int32)) hO dX7_isRow_1 (by decide)) ?_
  refine S_ (R_bipush (v := (7 : Int32)) hO dX7_isRow_2 (by decide)) ?_
  refine S_callSI (rest := []) hO dX7_isRow_4 (cs_X7_within p0 (0 : Int32) (7 : Int32) s0) (by omega) lk_X7_66 np_X7_within rfl (Nat.le_of_ble_eq_true rfl) (fun x1 s2 => ?_)
  exact S_zret rfl hO hQ dX7_isRow_7 rfl
def f_X7_found (p1 : Int32) (s0 : Mem) : Option (Int32 × Mem) := lt (st2 s0 0 9 p1) fun s1 => some ((-1000010 : Int32) - p1, s1)
theorem cs_X7_found (p1 : Int32) (s0 : Mem) : CS 1 MX7_found [.ref 0, .int p1] s0 ((f_X7_found p1 s0).map wI) := by
  refine CS.of (by decide +kernel) (Nat.le_of_ble_eq_true rfl) (fun X Z hO hQ => ?_)
  show SIM X MX7_found wI Z 0 [(0, .ref 0), (1, .int p1)] [] s0 _
  unfold f_X7_found
  refine S_ (R_aload_n hO dX7_found_0 rfl) ?_
  refine S_ (R_iload_n hO dX7_found_1 rfl) ?_
  refine S_put hO dX7_found_2 fl_X7_304 sh_0 rfl (fun s1 => ?_)
  refine S_ (R_ldc_w (v := (-1000010 : Int32)) hO dX7_found_5 kc_X7_307) ?_
  refine S_ (R_iload_n hO dX7_found_8 rfl) ?_
  refine S_ (R_isub hO dX7_found_9) ?_
  exact S_iret rfl hO hQ dX7_found_10 rfl
def f_X7_fine (p1 : Int32) (s0 : Mem) : Option (Int32 × Mem) := lt (st2 s0 0 9 (0 : Int32)) fun s1 => some (p1, s1)
theorem cs_X7_fine (p1 : Int32) (s0 : Mem) : CS 1 MX7_fine [.ref 0, .int p1] s0 ((f_X7_fine p1 s0).map wI) := by
  refine CS.of (by decide +kernel) (Nat.le_of_ble_eq_true rfl) (fun X Z hO hQ => ?_)
  show SIM X MX7_fine wI Z 0 [(0, .ref 0), (1, .int p1)] [] s0 _
  unfold f_X7_fine
  refine S_ (R_aload_n hO dX7_fine_0 rfl) ?_
  refine S_ (R_iconst (v := (0 : Int32)) hO dX7_fine_1 (by decide)) ?_
  refine S_put hO dX7_fine_2 fl_X7_304 sh_0 rfl (fun s1 => ?_)
  refine S_ (R_iload_n hO dX7_fine_5 rfl) ?_
  exact S_iret rfl hO hQ dX7_fine_6 rfl
def f_X7_row (p1 : Int32) (p2 : Int32) (p3 : Int32) (s0 : Mem) : Option (Int32 × Mem) := bd2 (f_X7_isRow p1 s0) fun x1 s2 => if x1 = 0 then (some ((-1000001 : Int32), s2)) else bd2 (f_X7_within p2 (0 : Int32) (2 : Int32) s2) fun x3 s4 => if x3 = 0 then (some ((-1000001 : Int32), s4)) else if p3 ≤ (40 : Int32) then (if 0 ≤ p3 then (ing p1 8 <| bd (f_X4_make (159 + 2 * p1.toNatClampNeg) p2 p3 s4) fun s8 => bd2 (f_X7_fine p3 s8) fun x9 s10 => some (x9, s10)) else bd2 (f_X7_found (4 : Int32) s4) fun x5 s6 => some (x5, s6)) else some ((-1000001 : Int32), s4)
theorem cs_X7_row (p1 : Int32) (p2 : Int32) (p3 : Int32) (s0 : Mem) : CS 3 MX7_row [.ref 0, .int p1, .int p2, .int p3] s0 ((f_X7_row p1 p2 p3 s0).map wI) := by
  refine CS.of (by decide +kernel) (Nat.le_of_ble_eq_true rfl) (fun X Z hO hQ => ?_)
  show SIM X MX7_row wI Z 0 [(0, .ref 0), (1, .int p1), (2, .int p2), (3, .int p3)] [] s0 _
  unfold f_X7_row
  refine S_ (R_iload_n hO dX7_row_0 rfl) ?_
  refine S_callSI (rest := []) hO dX7_row_1 (cs_X7_isRow p1 s0) (by omega) lk_X7_62 np_X7_isRow rfl (Nat.le_of_ble_eq_true rfl) (fun x1 s2 => ?_)
  refine S_if_eq (tgt := 22) hO dX7_row_4 (by decide) ?_ ?_
  · refine S_ (R_iload_n hO dX7_row_7 rfl) ?_
    refine S_ (R_iconst (v := (0 : Int32)) hO dX7_row_8 (by decide)) ?_
    refine S_ (R_iconst (v := (2 : Int32)) hO dX7_row_9 (by decide)) ?_
    refine S_callSI (rest := []) hO dX7_row_10 (cs_X7_within p2 (0 : Int32) (2 : Int32) s2) (by omega) lk_X7_66 np_X7_within rfl (Nat.le_of_ble_eq_true rfl) (fun x3 s4 => ?_)
    refine S_if_eq (tgt := 22) hO dX7_row_13 (by decide) ?_ ?_
    · refine S_ (R_iload_n hO dX7_row_16 rfl) ?_
      refine S_ (R_bipush (v := (40 : Int32)) hO dX7_row_17 (by decide)) ?_
      refine S_icmp_le (tgt := 25) hO dX7_row_19 (by decide) ?_ ?_
      · refine S_ (R_ldc (v := (-1000001 : Int32)) hO dX7_row_22 kc_X7_70) ?_
        exact S_iret rfl hO hQ dX7_row_24 rfl
      · refine S_ (R_iload_n hO dX7_row_25 rfl) ?_
        refine S_if_ge (tgt := 35) hO dX7_row_26 (by decide) ?_ ?_
        · refine S_ (R_aload_n hO dX7_row_29 rfl) ?_
          refine S_ (R_iconst (v := (4 : Int32)) hO dX7_row_30 (by decide)) ?_
          refine S_callVI (rest := []) hO dX7_row_31 (cs_X7_found (4 : Int32) s4) (by omega) lk_X7_71 np_X7_found (rc_0 rfl) rfl (Nat.le_of_ble_eq_true rfl) (fun x5 s6 => ?_)
          exact S_iret rfl hO hQ dX7_row_34 rfl
        · refine S_ (R_aload_n hO dX7_row_35 rfl) ?_
          refine S_getR hO dX7_row_36 fl_X7_11 sh_0 rfl ?_
          refine S_ (R_iload_n hO dX7_row_39 rfl) ?_
          refine S_aald (n := 8) (b0 := 159) (s0 := 2) hO dX7_row_40 (Or.inr rfl) sh_1 (fun hl1 => ?_)
          refine S_ (R_iload_n hO dX7_row_41 rfl) ?_
          refine S_ (R_iload_n hO dX7_row_42 rfl) ?_
          refine S_callVV (rest := []) hO dX7_row_43 (cs_X4_make (159 + 2 * p1.toNatClampNeg) (is_1 hl1) p2 p3 s4) (by omega) lk_X7_75 np_X4_make (rc_Rw (is_1 hl1) rfl) rfl (Nat.le_of_ble_eq_true rfl) (fun s8 => ?_)
          refine S_ (R_aload_n hO dX7_row_46 rfl) ?_
          refine S_ (R_iload_n hO dX7_row_47 rfl) ?_
          refine S_callVI (rest := []) hO dX7_row_48 (cs_X7_fine p3 s8) (by omega) lk_X7_79 np_X7_fine (rc_0 rfl) rfl (Nat.le_of_ble_eq_true rfl) (fun x9 s10 => ?_)
          exact S_iret rfl hO hQ dX7_row_51 rfl
    · refine S_ (R_ldc (v := (-1000001 : Int32)) hO dX7_row_22 kc_X7_70) ?_
      exact S_iret rfl hO hQ dX7_row_24 rfl
  · refine S_ (R_ldc (v := (-1000001 : Int32)) hO dX7_row_22 kc_X7_70) ?_
    exact S_iret rfl hO hQ dX7_row_24 rfl
def f_X7_set (p1 : Int32) (p2 : Int32) (p3 : Int32) (s0 : Mem) : Option (Int32 × Mem) := bd2 (f_X7_isRow p1 s0) fun x1 s2 => if x1 = 0 then (some ((-1000001 : Int32), s2)) else ing p1 8 <| bd2 (f_X4_spanFinding (159 + 2 * p1.toNatClampNeg) p2 (1 : Int32) s2) fun x3 s4 => lt (x3) fun x5 => if x5 = 0 then (ing p1 8 <| bd2 (f_X4_put (159 + 2 * p1.toNatClampNeg) p2 p3 s4) fun x8 s9 => bd2 (f_X7_fine x8 s9) fun x10 s11 => some (x10, s11)) else bd2 (f_X7_found x5 s4) fun x6 s7 => some (x6, s7)
theorem cs_X7_set (p1 : Int32) (p2 : Int32) (p3 : Int32) (s0 : Mem) : CS 3 MX7_set [.ref 0, .int p1, .int p2, .int p3] s0 ((f_X7_set p1 p2 p3 s0).map wI) := by
  refine CS.of (by decide +kernel) (Nat.le_of_ble_eq_true rfl) (fun X Z hO hQ => ?_)
  show SIM X MX7_set wI Z 0 [(0, .ref 0), (1, .int p1), (2, .int p2), (3, .int p3)] [] s0 _
  unfold f_X7_set
  refine S_ (R_iload_n hO dX7_set_0 rfl) ?_
  refine S_callSI (rest := []) hO dX7_set_1 (cs_X7_isRow p1 s0) (by omega) lk_X7_62 np_X7_isRow rfl (Nat.le_of_ble_eq_true rfl) (fun x1 s2 => ?_)
  refine S_if_ne (tgt := 10) hO dX7_set_4 (by decide) ?_ ?_
  · refine S_ (R_ldc (v := (-1000001 : Int32)) hO dX7_set_7 kc_X7_70) ?_
    exact S_iret rfl hO hQ dX7_set_9 rfl
  · refine S_ (R_aload_n hO dX7_set_10 rfl) ?_
    refine S_getR hO dX7_set_11 fl_X7_11 sh_0 rfl ?_
    refine S_ (R_iload_n hO dX7_set_14 rfl) ?_
    refine S_aald (n := 8) (b0 := 159) (s0 := 2) hO dX7_set_15 (Or.inr rfl) sh_1 (fun hl1 => ?_)
    refine S_ (R_iload_n hO dX7_set_16 rfl) ?_
    refine S_ (R_iconst (v := (1 : Int32)) hO dX7_set_17 (by decide)) ?_
    refine S_callVI (rest := []) hO dX7_set_18 (cs_X4_spanFinding (159 + 2 * p1.toNatClampNeg) (is_1 hl1) p2 (1 : Int32) s2) (by omega) lk_X7_82 np_X4_spanFinding (rc_Rw (is_1 hl1) rfl) rfl (Nat.le_of_ble_eq_true rfl) (fun x3 s4 => ?_)
    refine S_istore (L2 := fun x5 => [(4, .int x5), (0, .ref 0), (1, .int p1), (2, .int p2), (3, .int p3)]) hO dX7_set_21 (Nat.le_of_ble_eq_true rfl) (fun _ => rfl) (fun x5 => ?_)
    refine S_ (R_iload hO dX7_set_23 rfl) ?_
    refine S_if_eq (tgt := 35) hO dX7_set_25 (by decide) ?_ ?_
    · refine S_ (R_aload_n hO dX7_set_28 rfl) ?_
      refine S_ (R_iload hO dX7_set_29 rfl) ?_
      refine S_callVI (rest := []) hO dX7_set_31 (cs_X7_found x5 s4) (by omega) lk_X7_71 np_X7_found (rc_0 rfl) rfl (Nat.le_of_ble_eq_true rfl) (fun x6 s7 => ?_)
      exact S_iret rfl hO hQ dX7_set_34 rfl
    · refine S_ (R_aload_n hO dX7_set_35 rfl) ?_
      refine S_ (R_aload_n hO dX7_set_36 rfl) ?_
      refine S_getR hO dX7_set_37 fl_X7_11 sh_0 rfl ?_
      refine S_ (R_iload_n hO dX7_set_40 rfl) ?_
      refine S_aald (n := 8) (b0 := 159) (s0 := 2) hO dX7_set_41 (Or.inr rfl) sh_1 (fun hl2 => ?_)
      refine S_ (R_iload_n hO dX7_set_42 rfl) ?_
      refine S_ (R_iload_n hO dX7_set_43 rfl) ?_
      refine S_callVI (rest := [.ref 0]) hO dX7_set_44 (cs_X4_put (159 + 2 * p1.toNatClampNeg) (is_1 hl2) p2 p3 s4) (by omega) lk_X7_86 np_X4_put (rc_Rw (is_1 hl2) rfl) rfl (Nat.le_of_ble_eq_true rfl) (fun x8 s9 => ?_)
      refine S_callVI (rest := []) hO dX7_set_47 (cs_X7_fine x8 s9) (by omega) lk_X7_79 np_X7_fine (rc_0 rfl) rfl (Nat.le_of_ble_eq_true rfl) (fun x10 s11 => ?_)
      exact S_iret rfl hO hQ dX7_set_50 rfl
def f_X7_copyFinding (b : Nat) (c : Nat) (p1 : Int32) (p3 : Int32) (p4 : Int32) (s0 : Mem) : Option (Int32 × Mem) := if (s0 b 1) = 0 then (if (s0 c 1) = 0 then (if (s0 b 2) = (s0 c 2) then (bd2 (f_X4_spanFinding b p1 p4 s0) fun x1 s2 => lt (x1) fun x3 => if x3 = 0 then (bd2 (f_X4_spanFinding c p3 p4 s2) fun x4 s5 => some (x4, s5)) else some (x3, s2)) else some ((5 : Int32), s0)) else some ((1 : Int32), s0)) else some ((1 : Int32), s0)
theorem cs_X7_copyFinding (b : Nat) (hb : isRw b) (c : Nat) (hc : isRw c) (p1 : Int32) (p3 : Int32) (p4 : Int32) (s0 : Mem) : CS 2 MX7_copyFinding [.ref b, .int p1, .ref c, .int p3, .int p4] s0 ((f_X7_copyFinding b c p1 p3 p4 s0).map wI) := by
  refine CS.of (by decide +kernel) (Nat.le_of_ble_eq_true rfl) (fun X Z hO hQ => ?_)
  show SIM X MX7_copyFinding wI Z 0 [(0, .ref b), (1, .int p1), (2, .ref c), (3, .int p3), (4, .int p4)] [] s0 _
  unfold f_X7_copyFinding
  refine S_ (R_aload_n hO dX7_copyFinding_0 rfl) ?_
  refine S_getI hO dX7_copyFinding_1 fl_X7_103 hb.1 rfl ?_
  refine S_if_ne (tgt := 14) hO dX7_copyFinding_4 (by decide) ?_ ?_
  · refine S_ (R_aload_n hO dX7_copyFinding_7 rfl) ?_
    refine S_getI hO dX7_copyFinding_8 fl_X7_103 hc.1 rfl ?_
    refine S_if_eq (tgt := 16) hO dX7_copyFinding_11 (by decide) ?_ ?_
    · refine S_ (R_iconst (v := (1 : Int32)) hO dX7_copyFinding_14 (by decide)) ?_
      exact S_iret rfl hO hQ dX7_copyFinding_15 rfl
    · refine S_ (R_aload_n hO dX7_copyFinding_16 rfl) ?_
      refine S_getI hO dX7_copyFinding_17 fl_X7_308 hb.1 rfl ?_
      refine S_ (R_aload_n hO dX7_copyFinding_20 rfl) ?_
      refine S_getI hO dX7_copyFinding_21 fl_X7_308 hc.1 rfl ?_
      refine S_icmp_eq (tgt := 29) hO dX7_copyFinding_24 (by decide) ?_ ?_
      · refine S_ (R_iconst (v := (5 : Int32)) hO dX7_copyFinding_27 (by decide)) ?_
        exact S_iret rfl hO hQ dX7_copyFinding_28 rfl
      · refine S_ (R_aload_n hO dX7_copyFinding_29 rfl) ?_
        refine S_ (R_iload_n hO dX7_copyFinding_30 rfl) ?_
        refine S_ (R_iload hO dX7_copyFinding_31 rfl) ?_
        refine S_callVI (rest := []) hO dX7_copyFinding_33 (cs_X4_spanFinding b hb p1 p4 s0) (by omega) lk_X7_82 np_X4_spanFinding (rc_Rw hb rfl) rfl (Nat.le_of_ble_eq_true rfl) (fun x1 s2 => ?_)
        refine S_istore (L2 := fun x3 => [(5, .int x3), (0, .ref b), (1, .int p1), (2, .ref c), (3, .int p3), (4, .int p4)]) hO dX7_copyFinding_36 (Nat.le_of_ble_eq_true rfl) (fun _ => rfl) (fun x3 => ?_)
        refine S_ (R_iload hO dX7_copyFinding_38 rfl) ?_
        refine S_if_eq (tgt := 48) hO dX7_copyFinding_40 (by decide) ?_ ?_
        · refine S_ (R_iload hO dX7_copyFinding_43 rfl) ?_
          refine S_ (R_goto (tgt := 55) hO dX7_copyFinding_45 (by decide)) ?_
          exact S_iret rfl hO hQ dX7_copyFinding_55 rfl
        · refine S_ (R_aload_n hO dX7_copyFinding_48 rfl) ?_
          refine S_ (R_iload_n hO dX7_copyFinding_49 rfl) ?_
          refine S_ (R_iload hO dX7_copyFinding_50 rfl) ?_
          refine S_callVI (rest := []) hO dX7_copyFinding_52 (cs_X4_spanFinding c hc p3 p4 s2) (by omega) lk_X7_82 np_X4_spanFinding (rc_Rw hc rfl) rfl (Nat.le_of_ble_eq_true rfl) (fun x4 s5 => ?_)
          exact S_iret rfl hO hQ dX7_copyFinding_55 rfl
  · refine S_ (R_iconst (v := (1 : Int32)) hO dX7_copyFinding_14 (by decide)) ?_
    exact S_iret rfl hO hQ dX7_copyFinding_15 rfl
def f_X7_copy (p1 : Int32) (p2 : Int32) (p3 : Int32) (p4 : Int32) (p5 : Int32) (s0 : Mem) : Option (Int32 × Mem) := bd2 (f_X7_isRow p1 s0) fun x1 s2 => if x1 = 0 then (some ((-1000001 : Int32), s2)) else bd2 (f_X7_isRow p3 s2) fun x3 s4 => if x3 = 0 then (some ((-1000001 : Int32), s4)) else ing p1 8 <| ing p3 8 <| bd2 (f_X7_copyFinding (159 + 2 * p1.toNatClampNeg) (159 + 2 * p3.toNatClampNeg) p2 p4 p5 s4) fun x5 s6 => lt (x5) fun x7 => if x7 = 0 then (ing p1 8 <| ing p3 8 <| cpg s6 (159 + 2 * p1.toNatClampNeg + 1) (159 + 2 * p3.toNatClampNeg + 1) p2 p4 p5 40 40 fun s10 => bd2 (f_X7_fine p5 s10) fun x11 s12 => some (x11, s12)) else bd2 (f_X7_found x7 s6) fun x8 s9 => some (x8, s9)
theorem cs_X7_copy (p1 : Int32) (p2 : Int32) (p3 : Int32) (p4 : Int32) (p5 : Int32) (s0 : Mem) : CS 3 MX7_copy [.ref 0, .int p1, .int p2, .int p3, .int p4, .int p5] s0 ((f_X7_copy p1 p2 p3 p4 p5 s0).map wI) := by
  refine CS.of (by decide +kernel) (Nat.le_of_ble_eq_true rfl) (fun X Z hO hQ => ?_)
  show SIM X MX7_copy wI Z 0 [(0, .ref 0), (1, .int p1), (2, .int p2), (3, .int p3), (4, .int p4), (5, .int p5)] [] s0 _
  unfold f_X7_copy
  refine S_ (R_iload_n hO dX7_copy_0 rfl) ?_
  refine S_callSI (rest := []) hO dX7_copy_1 (cs_X7_isRow p1 s0) (by omega) lk_X7_62 np_X7_isRow rfl (Nat.le_of_ble_eq_true rfl) (fun x1 s2 => ?_)
  refine S_if_eq (tgt := 14) hO dX7_copy_4 (by decide) ?_ ?_
  · refine S_ (R_iload_n hO dX7_copy_7 rfl) ?_
    refine S_callSI (rest := []) hO dX7_copy_8 (cs_X7_isRow p3 s2) (by omega) lk_X7_62 np_X7_isRow rfl (Nat.le_of_ble_eq_true rfl) (fun x3 s4 => ?_)
    refine S_if_ne (tgt := 17) hO dX7_copy_11 (by decide) ?_ ?_
    · refine S_ (R_ldc (v := (-1000001 : Int32)) hO dX7_copy_14 kc_X7_70) ?_
      exact S_iret rfl hO hQ dX7_copy_16 rfl
    · refine S_ (R_aload_n hO dX7_copy_17 rfl) ?_
      refine S_getR hO dX7_copy_18 fl_X7_11 sh_0 rfl ?_
      refine S_ (R_iload_n hO dX7_copy_21 rfl) ?_
      refine S_aald (n := 8) (b0 := 159) (s0 := 2) hO dX7_copy_22 (Or.inr rfl) sh_1 (fun hl1 => ?_)
      refine S_ (R_iload_n hO dX7_copy_23 rfl) ?_
      refine S_ (R_aload_n hO dX7_copy_24 rfl) ?_
      refine S_getR hO dX7_copy_25 fl_X7_11 sh_0 rfl ?_
      refine S_ (R_iload_n hO dX7_copy_28 rfl) ?_
      refine S_aald (n := 8) (b0 := 159) (s0 := 2) hO dX7_copy_29 (Or.inr rfl) sh_1 (fun hl2 => ?_)
      refine S_ (R_iload hO dX7_copy_30 rfl) ?_
      refine S_ (R_iload hO dX7_copy_32 rfl) ?_
      refine S_callSI (rest := []) hO dX7_copy_34 (cs_X7_copyFinding (159 + 2 * p1.toNatClampNeg) (is_1 hl1) (159 + 2 * p3.toNatClampNeg) (is_1 hl2) p2 p4 p5 s4) (by omega) lk_X7_89 np_X7_copyFinding rfl (Nat.le_of_ble_eq_true rfl) (fun x5 s6 => ?_)
      refine S_istore (L2 := fun x7 => [(6, .int x7), (0, .ref 0), (1, .int p1), (2, .int p2), (3, .int p3), (4, .int p4), (5, .int p5)]) hO dX7_copy_37 (Nat.le_of_ble_eq_true rfl) (fun _ => rfl) (fun x7 => ?_)
      refine S_ (R_iload hO dX7_copy_39 rfl) ?_
      refine S_if_eq (tgt := 51) hO dX7_copy_41 (by decide) ?_ ?_
      · refine S_ (R_aload_n hO dX7_copy_44 rfl) ?_
        refine S_ (R_iload hO dX7_copy_45 rfl) ?_
        refine S_callVI (rest := []) hO dX7_copy_47 (cs_X7_found x7 s6) (by omega) lk_X7_71 np_X7_found (rc_0 rfl) rfl (Nat.le_of_ble_eq_true rfl) (fun x8 s9 => ?_)
        exact S_iret rfl hO hQ dX7_copy_50 rfl
      · refine S_ (R_aload_n hO dX7_copy_51 rfl) ?_
        refine S_getR hO dX7_copy_52 fl_X7_11 sh_0 rfl ?_
        refine S_ (R_iload_n hO dX7_copy_55 rfl) ?_
        refine S_aald (n := 8) (b0 := 159) (s0 := 2) hO dX7_copy_56 (Or.inr rfl) sh_1 (fun hl3 => ?_)
        refine S_getR hO dX7_copy_57 fl_X7_93 (is_1 hl3).1 rfl ?_
        refine S_ (R_iload_n hO dX7_copy_60 rfl) ?_
        refine S_ (R_aload_n hO dX7_copy_61 rfl) ?_
        refine S_getR hO dX7_copy_62 fl_X7_11 sh_0 rfl ?_
        refine S_ (R_iload_n hO dX7_copy_65 rfl) ?_
        refine S_aald (n := 8) (b0 := 159) (s0 := 2) hO dX7_copy_66 (Or.inr rfl) sh_1 (fun hl4 => ?_)
        refine S_getR hO dX7_copy_67 fl_X7_93 (is_1 hl4).1 rfl ?_
        refine S_ (R_iload hO dX7_copy_70 rfl) ?_
        refine S_ (R_iload hO dX7_copy_72 rfl) ?_
        refine S_copy hO dX7_copy_74 (by omega) kcp_X7_97 kw_copy ((is_1 hl3).2) ((is_1 hl4).2) (Nat.le_of_ble_eq_true rfl) (fun s10 => ?_)
        refine S_ (R_aload_n hO dX7_copy_77 rfl) ?_
        refine S_ (R_iload hO dX7_copy_78 rfl) ?_
        refine S_callVI (rest := []) hO dX7_copy_80 (cs_X7_fine p5 s10) (by omega) lk_X7_79 np_X7_fine (rc_0 rfl) rfl (Nat.le_of_ble_eq_true rfl) (fun x11 s12 => ?_)
        exact S_iret rfl hO hQ dX7_copy_83 rfl
  · refine S_ (R_ldc (v := (-1000001 : Int32)) hO dX7_copy_14 kc_X7_70) ?_
    exact S_iret rfl hO hQ dX7_copy_16 rfl
def f_X7_drop (p1 : Int32) (s0 : Mem) : Option (Int32 × Mem) := bd2 (f_X7_isRow p1 s0) fun x1 s2 => if x1 = 0 then (some ((-1000001 : Int32), s2)) else ing p1 8 <| if (s2 (159 + 2 * p1.toNatClampNeg) 1) = 0 then (ing p1 8 <| lt (st2 s2 (159 + 2 * p1.toNatClampNeg) 1 (1 : Int32)) fun s5 => ing p1 8 <| bd2 (f_X7_fine (s5 (159 + 2 * p1.toNatClampNeg) 3) s5) fun x6 s7 => some (x6, s7)) else bd2 (f_X7_found (1 : Int32) s2) fun x3 s4 => some (x3, s4)
theorem cs_X7_drop (p1 : Int32) (s0 : Mem) : CS 3 MX7_drop [.ref 0, .int p1] s0 ((f_X7_drop p1 s0).map wI) := by
  refine CS.of (by decide +kernel) (Nat.le_of_ble_eq_true rfl) (fun X Z hO hQ => ?_)
  show SIM X MX7_drop wI Z 0 [(0, .ref 0), (1, .int p1)] [] s0 _
  unfold f_X7_drop
  refine S_ (R_iload_n hO dX7_drop_0 rfl) ?_
  refine S_callSI (rest := []) hO dX7_drop_1 (cs_X7_isRow p1 s0) (by omega) lk_X7_62 np_X7_isRow rfl (Nat.le_of_ble_eq_true rfl) (fun x1 s2 => ?_)
  refine S_if_ne (tgt := 10) hO dX7_drop_4 (by decide) ?_ ?_
  · refine S_ (R_ldc (v := (-1000001 : Int32)) hO dX7_drop_7 kc_X7_70) ?_
    exact S_iret rfl hO hQ dX7_drop_9 rfl
  · refine S_ (R_aload_n hO dX7_drop_10 rfl) ?_
    refine S_getR hO dX7_drop_11 fl_X7_11 sh_0 rfl ?_
    refine S_ (R_iload_n hO dX7_drop_14 rfl) ?_
    refine S_aald (n := 8) (b0 := 159) (s0 := 2) hO dX7_drop_15 (Or.inr rfl) sh_1 (fun hl1 => ?_)
    refine S_getI hO dX7_drop_16 fl_X7_103 (is_1 hl1).1 rfl ?_
    refine S_if_eq (tgt := 28) hO dX7_drop_19 (by decide) ?_ ?_
    · refine S_ (R_aload_n hO dX7_drop_22 rfl) ?_
      refine S_ (R_iconst (v := (1 : Int32)) hO dX7_drop_23 (by decide)) ?_
      refine S_callVI (rest := []) hO dX7_drop_24 (cs_X7_found (1 : Int32) s2) (by omega) lk_X7_71 np_X7_found (rc_0 rfl) rfl (Nat.le_of_ble_eq_true rfl) (fun x3 s4 => ?_)
      exact S_iret rfl hO hQ dX7_drop_27 rfl
    · refine S_ (R_aload_n hO dX7_drop_28 rfl) ?_
      refine S_getR hO dX7_drop_29 fl_X7_11 sh_0 rfl ?_
      refine S_ (R_iload_n hO dX7_drop_32 rfl) ?_
      refine S_aald (n := 8) (b0 := 159) (s0 := 2) hO dX7_drop_33 (Or.inr rfl) sh_1 (fun hl2 => ?_)
      refine S_ (R_iconst (v := (1 : Int32)) hO dX7_drop_34 (by decide)) ?_
      refine S_putZ hO dX7_drop_35 fl_X7_103 (by decide) (is_1 hl2).1 rfl (fun s5 => ?_)
      refine S_ (R_aload_n hO dX7_drop_38 rfl) ?_
      refine S_ (R_aload_n hO dX7_drop_39 rfl) ?_
      refine S_getR hO dX7_drop_40 fl_X7_11 sh_0 rfl ?_
      refine S_ (R_iload_n hO dX7_drop_43 rfl) ?_
      refine S_aald (n := 8) (b0 := 159) (s0 := 2) hO dX7_drop_44 (Or.inr rfl) sh_1 (fun hl3 => ?_)
      refine S_getI hO dX7_drop_45 fl_X7_107 (is_1 hl3).1 rfl ?_
      refine S_callVI (rest := []) hO dX7_drop_48 (cs_X7_fine (s5 (159 + 2 * p1.toNatClampNeg) 3) s5) (by omega) lk_X7_79 np_X7_fine (rc_0 rfl) rfl (Nat.le_of_ble_eq_true rfl) (fun x6 s7 => ?_)
      exact S_iret rfl hO hQ dX7_drop_51 rfl
def f_X7_feed (p1 : Int32) (s0 : Mem) : Option (Int32 × Mem) := bd2 (f_X7_within p1 (0 : Int32) (255 : Int32) s0) fun x1 s2 => if x1 = 0 then (some ((-1000001 : Int32), s2)) else if (s2 2 1) < (100 : Int32) then (bd2 (f_X6_add p1 s2) fun x3 s4 => some (x3, s4)) else some ((-1000003 : Int32), s2)
theorem cs_X7_feed (p1 : Int32) (s0 : Mem) : CS 2 MX7_feed [.ref 0, .int p1] s0 ((f_X7_feed p1 s0).map wI) := by
  refine CS.of (by decide +kernel) (Nat.le_of_ble_eq_true rfl) (fun X Z hO hQ => ?_)
  show SIM X MX7_feed wI Z 0 [(0, .ref 0), (1, .int p1)] [] s0 _
  unfold f_X7_feed
  refine S_ (R_iload_n hO dX7_feed_0 rfl) ?_
  refine S_ (R_iconst (v := (0 : Int32)) hO dX7_feed_1 (by decide)) ?_
  refine S_ (R_sipush (v := (255 : Int32)) hO dX7_feed_2 (by decide)) ?_
  refine S_callSI (rest := []) hO dX7_feed_5 (cs_X7_within p1 (0 : Int32) (255 : Int32) s0) (by omega) lk_X7_66 np_X7_within rfl (Nat.le_of_ble_eq_true rfl) (fun x1 s2 => ?_)
  refine S_if_ne (tgt := 14) hO dX7_feed_8 (by decide) ?_ ?_
  · refine S_ (R_ldc (v := (-1000001 : Int32)) hO dX7_feed_11 kc_X7_70) ?_
    exact S_iret rfl hO hQ dX7_feed_13 rfl
  · refine S_ (R_aload_n hO dX7_feed_14 rfl) ?_
    refine S_getR hO dX7_feed_15 fl_X7_18 sh_0 rfl ?_
    refine S_getI hO dX7_feed_18 fl_X7_111 sh_2 rfl ?_
    refine S_ (R_bipush (v := (100 : Int32)) hO dX7_feed_21 (by decide)) ?_
    refine S_icmp_lt (tgt := 29) hO dX7_feed_23 (by decide) ?_ ?_
    · refine S_ (R_ldc (v := (-1000003 : Int32)) hO dX7_feed_26 kc_X7_114) ?_
      exact S_iret rfl hO hQ dX7_feed_28 rfl
    · refine S_ (R_aload_n hO dX7_feed_29 rfl) ?_
      refine S_getR hO dX7_feed_30 fl_X7_18 sh_0 rfl ?_
      refine S_ (R_iload_n hO dX7_feed_33 rfl) ?_
      refine S_callVI (rest := []) hO dX7_feed_34 (cs_X6_add p1 s2) (by omega) lk_X7_115 np_X6_add (rc_2 rfl) rfl (Nat.le_of_ble_eq_true rfl) (fun x3 s4 => ?_)
      exact S_iret rfl hO hQ dX7_feed_37 rfl
def f_X7_fault (s0 : Mem) : Option (Int32 × Mem) := some (s0 0 8, s0)
theorem cs_X7_fault (s0 : Mem) : CS 1 MX7_fault [.ref 0] s0 ((f_X7_fault s0).map wI) := by
  refine CS.of (by decide +kernel) (Nat.le_of_ble_eq_true rfl) (fun X Z hO hQ => ?_)
  show SIM X MX7_fault wI Z 0 [(0, .ref 0)] [] s0 _
  unfold f_X7_fault
  refine S_ (R_aload_n hO dX7_fault_0 rfl) ?_
  refine S_getI hO dX7_fault_1 fl_X7_124 sh_0 rfl ?_
  exact S_iret rfl hO hQ dX7_fault_4 rfl
def f_X7_undo (s0 : Mem) : Option (Int32 × Mem) := if (s0 13 2) = 0 then (some ((-1000002 : Int32), s0)) else bd (f_X0_takeBack 8 s0) fun s2 => some (s2 13 2, s2)
theorem cs_X7_undo (s0 : Mem) : CS 4 MX7_undo [.ref 0] s0 ((f_X7_undo s0).map wI) := by
  refine CS.of (by decide +kernel) (Nat.le_of_ble_eq_true rfl) (fun X Z hO hQ => ?_)
  show SIM X MX7_undo wI Z 0 [(0, .ref 0)] [] s0 _
  unfold f_X7_undo
  refine S_ (R_aload_n hO dX7_undo_0 rfl) ?_
  refine S_getR hO dX7_undo_1 fl_X7_36 sh_0 rfl ?_
  refine S_getI hO dX7_undo_4 fl_X7_144 sh_13 rfl ?_
  refine S_if_ne (tgt := 13) hO dX7_undo_7 (by decide) ?_ ?_
  · refine S_ (R_ldc (v := (-1000002 : Int32)) hO dX7_undo_10 kc_X7_145) ?_
    exact S_iret rfl hO hQ dX7_undo_12 rfl
  · refine S_ (R_aload_n hO dX7_undo_13 rfl) ?_
    refine S_getR hO dX7_undo_14 fl_X7_36 sh_0 rfl ?_
    refine S_ (R_aload_n hO dX7_undo_17 rfl) ?_
    refine S_getR hO dX7_undo_18 fl_X7_25 sh_0 rfl ?_
    refine S_callVV (rest := []) hO dX7_undo_21 (cs_X0_takeBack 8 isSt_8 s0) (by omega) lk_X7_146 np_X0_takeBack (rc_13 rfl) rfl (Nat.le_of_ble_eq_true rfl) (fun s2 => ?_)
    refine S_ (R_aload_n hO dX7_undo_24 rfl) ?_
    refine S_getR hO dX7_undo_25 fl_X7_36 sh_0 rfl ?_
    refine S_getI hO dX7_undo_28 fl_X7_144 sh_13 rfl ?_
    exact S_iret rfl hO hQ dX7_undo_31 rfl
def f_X7_noStreet (s0 : Mem) : Option (Int32 × Mem) := if (s0 8 3) = 0 then (some ((1 : Int32), s0)) else some ((0 : Int32), s0)
theorem cs_X7_noStreet (s0 : Mem) : CS 1 MX7_noStreet [.ref 0] s0 ((f_X7_noStreet s0).map wI) := by
  refine CS.of (by decide +kernel) (Nat.le_of_ble_eq_true rfl) (fun X Z hO hQ => ?_)
  show SIM X MX7_noStreet wI Z 0 [(0, .ref 0)] [] s0 _
  unfold f_X7_noStreet
  refine S_ (R_aload_n hO dX7_noStreet_0 rfl) ?_
  refine S_getR hO dX7_noStreet_1 fl_X7_25 sh_0 rfl ?_
  refine S_getI hO dX7_noStreet_4 fl_X7_141 isSt_8.1 rfl ?_
  refine S_if_ne (tgt := 14) hO dX7_noStreet_7 (by decide) ?_ ?_
  · refine S_ (R_iconst (v := (1 : Int32)) hO dX7_noStreet_10 (by decide)) ?_
    refine S_ (R_goto (tgt := 15) hO dX7_noStreet_11 (by decide)) ?_
    exact S_zret0 rfl hO hQ dX7_noStreet_15 rfl (by decide)
  · refine S_ (R_iconst (v := (0 : Int32)) hO dX7_noStreet_14 (by decide)) ?_
    exact S_zret0 rfl hO hQ dX7_noStreet_15 rfl (by decide)
def f_X7_hours_43 (p1 : Int32) : Nat → Int32 → Mem → Option (Int32 × Mem)
  | 0, _, _ => none
  | n + 1, m2, s0 => if p1 ≤ m2 then (bd2 (f_X5_standing 8 s0) fun x6 s7 => some (x6, s7)) else bd (f_X0_keep 8 s0) fun s2 => bd (f_X5_pass 8 s2) fun s4 => lt (m2 + (1 : Int32)) fun x5 => f_X7_hours_43 p1 n x5 s4
theorem w_X7_hours_43 {X : CX} {Z : Option Value × Mem → Prop} (hO : OKX X false 4 MX7_hours) (hQ : OKS X Z) (p1 : Int32) : ∀ (n : Nat) (m2 : Int32) (s0 : Mem), SIM X MX7_hours wI Z 43 [(0, .ref 0), (1, .int p1), (2, .int m2)] [] s0 (f_X7_hours_43 p1 n m2 s0) := by
  intro n
  induction n with
  | zero => intros; exact S_none
  | succ n ih =>
    intro m2 s0
    rw [f_X7_hours_43]
    refine S_ (R_iload_n hO dX7_hours_43 rfl) ?_
    refine S_ (R_iload_n hO dX7_hours_44 rfl) ?_
    refine S_icmp_ge (tgt := 72) hO dX7_hours_45 (by decide) ?_ ?_
    · refine S_ (R_aload_n hO dX7_hours_48 rfl) ?_
      refine S_getR hO dX7_hours_49 fl_X7_36 sh_0 rfl ?_
      refine S_ (R_aload_n hO dX7_hours_52 rfl) ?_
      refine S_getR hO dX7_hours_53 fl_X7_25 sh_0 rfl ?_
      refine S_callVV (rest := []) hO dX7_hours_56 (cs_X0_keep 8 isSt_8 s0) (by omega) lk_X7_156 np_X0_keep (rc_13 rfl) rfl (Nat.le_of_ble_eq_true rfl) (fun s2 => ?_)
      refine S_ (R_aload_n hO dX7_hours_59 rfl) ?_
      refine S_getR hO dX7_hours_60 fl_X7_25 sh_0 rfl ?_
      refine S_callVV (rest := []) hO dX7_hours_63 (cs_X5_pass 8 isSt_8 s2) (by omega) lk_X7_159 np_X5_pass (rc_St isSt_8 rfl) rfl (Nat.le_of_ble_eq_true rfl) (fun s4 => ?_)
      refine S_iinc (L2 := fun x5 => [(2, .int x5), (0, .ref 0), (1, .int p1)]) (v := (1 : Int32)) hO dX7_hours_66 rfl (by decide) (Nat.le_of_ble_eq_true rfl) (fun _ => rfl) (fun x5 => ?_)
      refine S_ (R_goto (tgt := 43) hO dX7_hours_69 (by decide)) ?_
      refine S_sub [1, 2, 0] rfl ?_
      exact ih x5 s4
    · refine S_ (R_aload_n hO dX7_hours_72 rfl) ?_
      refine S_getR hO dX7_hours_73 fl_X7_25 sh_0 rfl ?_
      refine S_callVI (rest := []) hO dX7_hours_76 (cs_X5_standing 8 isSt_8 s0) (by omega) lk_X7_162 np_X5_standing (rc_St isSt_8 rfl) rfl (Nat.le_of_ble_eq_true rfl) (fun x6 s7 => ?_)
      exact S_iret rfl hO hQ dX7_hours_79 rfl
def f_X7_hours (p1 : Int32) (s0 : Mem) : Option (Int32 × Mem) := bd2 (f_X7_noStreet s0) fun x1 s2 => if x1 = 0 then (bd2 (f_X7_within p1 (1 : Int32) (24 : Int32) s2) fun x3 s4 => if x3 = 0 then (some ((-1000001 : Int32), s4)) else if ((s4 8 6) + p1) ≤ (999 : Int32) then (lt ((0 : Int32)) fun x5 => f_X7_hours_43 p1 FU x5 s4) else some ((-1000003 : Int32), s4)) else some ((-1000002 : Int32), s2)
theorem cs_X7_hours (p1 : Int32) (s0 : Mem) : CS 4 MX7_hours [.ref 0, .int p1] s0 ((f_X7_hours p1 s0).map wI) := by
  refine CS.of (by decide +kernel) (Nat.le_of_ble_eq_true rfl) (fun X Z hO hQ => ?_)
  show SIM X MX7_hours wI Z 0 [(0, .ref 0), (1, .int p1)] [] s0 _
  unfold f_X7_hours
  refine S_ (R_aload_n hO dX7_hours_0 rfl) ?_
  refine S_callVI (rest := []) hO dX7_hours_1 (cs_X7_noStreet s0) (by omega) lk_X7_149 np_X7_noStreet (rc_0 rfl) rfl (Nat.le_of_ble_eq_true rfl) (fun x1 s2 => ?_)
  refine S_if_eq (tgt := 10) hO dX7_hours_4 (by decide) ?_ ?_
  · refine S_ (R_ldc (v := (-1000002 : Int32)) hO dX7_hours_7 kc_X7_145) ?_
    exact S_iret rfl hO hQ dX7_hours_9 rfl
  · refine S_ (R_iload_n hO dX7_hours_10 rfl) ?_
    refine S_ (R_iconst (v := (1 : Int32)) hO dX7_hours_11 (by decide)) ?_
    refine S_ (R_bipush (v := (24 : Int32)) hO dX7_hours_12 (by decide)) ?_
    refine S_callSI (rest := []) hO dX7_hours_14 (cs_X7_within p1 (1 : Int32) (24 : Int32) s2) (by omega) lk_X7_66 np_X7_within rfl (Nat.le_of_ble_eq_true rfl) (fun x3 s4 => ?_)
    refine S_if_ne (tgt := 23) hO dX7_hours_17 (by decide) ?_ ?_
    · refine S_ (R_ldc (v := (-1000001 : Int32)) hO dX7_hours_20 kc_X7_70) ?_
      exact S_iret rfl hO hQ dX7_hours_22 rfl
    · refine S_ (R_aload_n hO dX7_hours_23 rfl) ?_
      refine S_getR hO dX7_hours_24 fl_X7_25 sh_0 rfl ?_
      refine S_getI hO dX7_hours_27 fl_X7_153 isSt_8.1 rfl ?_
      refine S_ (R_iload_n hO dX7_hours_30 rfl) ?_
      refine S_ (R_iadd hO dX7_hours_31) ?_
      refine S_ (R_sipush (v := (999 : Int32)) hO dX7_hours_32 (by decide)) ?_
      refine S_icmp_le (tgt := 41) hO dX7_hours_35 (by decide) ?_ ?_
      · refine S_ (R_ldc (v := (-1000003 : Int32)) hO dX7_hours_38 kc_X7_114) ?_
        exact S_iret rfl hO hQ dX7_hours_40 rfl
      · refine S_ (R_iconst (v := (0 : Int32)) hO dX7_hours_41 (by decide)) ?_
        refine S_istore_n (L2 := fun x5 => [(2, .int x5), (0, .ref 0), (1, .int p1)]) hO dX7_hours_42 (Nat.le_of_ble_eq_true rfl) (fun _ => rfl) (fun x5 => ?_)
        refine S_sub [1, 2, 0] rfl ?_
        exact w_X7_hours_43 hO hQ p1 FU x5 s4
def f_X7_isHouse (p1 : Int32) (s0 : Mem) : Option (Int32 × Mem) := bd2 (f_X7_within p1 (0 : Int32) ((s0 8 3) - (1 : Int32)) s0) fun x1 s2 => gd (x1 = 0 ∨ x1 = 1) <| some (x1, s2)
theorem cs_X7_isHouse (p1 : Int32) (s0 : Mem) : CS 2 MX7_isHouse [.ref 0, .int p1] s0 ((f_X7_isHouse p1 s0).map wI) := by
  refine CS.of (by decide +kernel) (Nat.le_of_ble_eq_true rfl) (fun X Z hO hQ => ?_)
  show SIM X MX7_isHouse wI Z 0 [(0, .ref 0), (1, .int p1)] [] s0 _
  unfold f_X7_isHouse
  refine S_ (R_iload_n hO dX7_isHouse_0 rfl) ?_
  refine S_ (R_iconst (v := (0 : Int32)) hO dX7_isHouse_1 (by decide)) ?_
  refine S_ (R_aload_n hO dX7_isHouse_2 rfl) ?_
  refine S_getR hO dX7_isHouse_3 fl_X7_25 sh_0 rfl ?_
  refine S_getI hO dX7_isHouse_6 fl_X7_141 isSt_8.1 rfl ?_
  refine S_ (R_iconst (v := (1 : Int32)) hO dX7_isHouse_9 (by decide)) ?_
  refine S_ (R_isub hO dX7_isHouse_10) ?_
  refine S_callSI (rest := []) hO dX7_isHouse_11 (cs_X7_within p1 (0 : Int32) ((s0 8 3) - (1 : Int32)) s0) (by omega) lk_X7_66 np_X7_within rfl (Nat.le_of_ble_eq_true rfl) (fun x1 s2 => ?_)
  exact S_zret rfl hO hQ dX7_isHouse_14 rfl
def f_X7_lash (p1 : Int32) (s0 : Mem) : Option (Int32 × Mem) := bd2 (f_X7_isHouse p1 s0) fun x1 s2 => if x1 = 0 then (some ((-1000001 : Int32), s2)) else ing p1 8 <| if (s2 (8 + 3) p1.toNatClampNeg) = 0 then (some ((-1000002 : Int32), s2)) else bd (f_X0_keep 8 s2) fun s4 => bd (f_X5_raise 8 p1 (s4 8 4) s4) fun s6 => ing p1 8 <| some (s6 (8 + 3) p1.toNatClampNeg, s6)
theorem cs_X7_lash (p1 : Int32) (s0 : Mem) : CS 4 MX7_lash [.ref 0, .int p1] s0 ((f_X7_lash p1 s0).map wI) := by
  refine CS.of (by decide +kernel) (Nat.le_of_ble_eq_true rfl) (fun X Z hO hQ => ?_)
  show SIM X MX7_lash wI Z 0 [(0, .ref 0), (1, .int p1)] [] s0 _
  unfold f_X7_lash
  refine S_ (R_aload_n hO dX7_lash_0 rfl) ?_
  refine S_ (R_iload_n hO dX7_lash_1 rfl) ?_
  refine S_callVI (rest := []) hO dX7_lash_2 (cs_X7_isHouse p1 s0) (by omega) lk_X7_166 np_X7_isHouse (rc_0 rfl) rfl (Nat.le_of_ble_eq_true rfl) (fun x1 s2 => ?_)
  refine S_if_ne (tgt := 11) hO dX7_lash_5 (by decide) ?_ ?_
  · refine S_ (R_ldc (v := (-1000001 : Int32)) hO dX7_lash_8 kc_X7_70) ?_
    exact S_iret rfl hO hQ dX7_lash_10 rfl
  · refine S_ (R_aload_n hO dX7_lash_11 rfl) ?_
    refine S_getR hO dX7_lash_12 fl_X7_25 sh_0 rfl ?_
    refine S_getR hO dX7_lash_15 fl_X7_169 isSt_8.1 rfl ?_
    refine S_ (R_iload_n hO dX7_lash_18 rfl) ?_
    refine S_iald hO dX7_lash_19 isSt_8.2.2.2 ?_
    refine S_if_ne (tgt := 26) hO dX7_lash_20 (by decide) ?_ ?_
    · refine S_ (R_ldc (v := (-1000002 : Int32)) hO dX7_lash_23 kc_X7_145) ?_
      exact S_iret rfl hO hQ dX7_lash_25 rfl
    · refine S_ (R_aload_n hO dX7_lash_26 rfl) ?_
      refine S_getR hO dX7_lash_27 fl_X7_36 sh_0 rfl ?_
      refine S_ (R_aload_n hO dX7_lash_30 rfl) ?_
      refine S_getR hO dX7_lash_31 fl_X7_25 sh_0 rfl ?_
      refine S_callVV (rest := []) hO dX7_lash_34 (cs_X0_keep 8 isSt_8 s2) (by omega) lk_X7_156 np_X0_keep (rc_13 rfl) rfl (Nat.le_of_ble_eq_true rfl) (fun s4 => ?_)
      refine S_ (R_aload_n hO dX7_lash_37 rfl) ?_
      refine S_getR hO dX7_lash_38 fl_X7_25 sh_0 rfl ?_
      refine S_ (R_iload_n hO dX7_lash_41 rfl) ?_
      refine S_ (R_aload_n hO dX7_lash_42 rfl) ?_
      refine S_getR hO dX7_lash_43 fl_X7_25 sh_0 rfl ?_
      refine S_getI hO dX7_lash_46 fl_X7_172 isSt_8.1 rfl ?_
      refine S_callVV (rest := []) hO dX7_lash_49 (cs_X5_raise 8 isSt_8 p1 (s4 8 4) s4) (by omega) lk_X7_175 np_X5_raise (rc_St isSt_8 rfl) rfl (Nat.le_of_ble_eq_true rfl) (fun s6 => ?_)
      refine S_ (R_aload_n hO dX7_lash_52 rfl) ?_
      refine S_getR hO dX7_lash_53 fl_X7_25 sh_0 rfl ?_
      refine S_getR hO dX7_lash_56 fl_X7_169 isSt_8.1 rfl ?_
      refine S_ (R_iload_n hO dX7_lash_59 rfl) ?_
      refine S_iald hO dX7_lash_60 isSt_8.2.2.2 ?_
      exact S_iret rfl hO hQ dX7_lash_61 rfl
def f_X7_touch (p1 : Int32) (p2 : Int32) (s0 : Mem) : Option (Int32 × Mem) := bd2 (f_X7_within p1 (0 : Int32) ((s0 8 3) - (2 : Int32)) s0) fun x1 s2 => if x1 = 0 then (some ((-1000001 : Int32), s2)) else bd2 (f_X7_within p2 (0 : Int32) (1 : Int32) s2) fun x3 s4 => if x3 = 0 then (some ((-1000001 : Int32), s4)) else if (((s4 8 7) >>> (p1 &&& 31)) &&& (1 : Int32)) = p2 then (some ((-1000002 : Int32), s4)) else bd (f_X0_keep 8 s4) fun s6 => lt (st2 s6 8 7 ((s6 8 7) ^^^ ((1 : Int32) <<< (p1 &&& 31)))) fun s7 => some (s7 8 7, s7)
theorem cs_X7_touch (p1 : Int32) (p2 : Int32) (s0 : Mem) : CS 4 MX7_touch [.ref 0, .int p1, .int p2] s0 ((f_X7_touch p1 p2 s0).map wI) := by
  refine CS.of (by decide +kernel) (Nat.le_of_ble_eq_true rfl) (fun X Z hO hQ => ?_)
  show SIM X MX7_touch wI Z 0 [(0, .ref 0), (1, .int p1), (2, .int p2)] [] s0 _
  unfold f_X7_touch
  refine S_ (R_iload_n hO dX7_touch_0 rfl) ?_
  refine S_ (R_iconst (v := (0 : Int32)) hO dX7_touch_1 (by decide)) ?_
  refine S_ (R_aload_n hO dX7_touch_2 rfl) ?_
  refine S_getR hO dX7_touch_3 fl_X7_25 sh_0 rfl ?_
  refine S_getI hO dX7_touch_6 fl_X7_141 isSt_8.1 rfl ?_
  refine S_ (R_iconst (v := (2 : Int32)) hO dX7_touch_9 (by decide)) ?_
  refine S_ (R_isub hO dX7_touch_10) ?_
  refine S_callSI (rest := []) hO dX7_touch_11 (cs_X7_within p1 (0 : Int32) ((s0 8 3) - (2 : Int32)) s0) (by omega) lk_X7_66 np_X7_within rfl (Nat.le_of_ble_eq_true rfl) (fun x1 s2 => ?_)
  refine S_if_eq (tgt := 26) hO dX7_touch_14 (by decide) ?_ ?_
  · refine S_ (R_iload_n hO dX7_touch_17 rfl) ?_
    refine S_ (R_iconst (v := (0 : Int32)) hO dX7_touch_18 (by decide)) ?_
    refine S_ (R_iconst (v := (1 : Int32)) hO dX7_touch_19 (by decide)) ?_
    refine S_callSI (rest := []) hO dX7_touch_20 (cs_X7_within p2 (0 : Int32) (1 : Int32) s2) (by omega) lk_X7_66 np_X7_within rfl (Nat.le_of_ble_eq_true rfl) (fun x3 s4 => ?_)
    refine S_if_ne (tgt := 29) hO dX7_touch_23 (by decide) ?_ ?_
    · refine S_ (R_ldc (v := (-1000001 : Int32)) hO dX7_touch_26 kc_X7_70) ?_
      exact S_iret rfl hO hQ dX7_touch_28 rfl
    · refine S_ (R_aload_n hO dX7_touch_29 rfl) ?_
      refine S_getR hO dX7_touch_30 fl_X7_25 sh_0 rfl ?_
      refine S_getI hO dX7_touch_33 fl_X7_178 isSt_8.1 rfl ?_
      refine S_ (R_iload_n hO dX7_touch_36 rfl) ?_
      refine S_ (R_ishr hO dX7_touch_37) ?_
      refine S_ (R_iconst (v := (1 : Int32)) hO dX7_touch_38 (by decide)) ?_
      refine S_ (R_iand hO dX7_touch_39) ?_
      refine S_ (R_iload_n hO dX7_touch_40 rfl) ?_
      refine S_icmp_ne (tgt := 47) hO dX7_touch_41 (by decide) ?_ ?_
      · refine S_ (R_ldc (v := (-1000002 : Int32)) hO dX7_touch_44 kc_X7_145) ?_
        exact S_iret rfl hO hQ dX7_touch_46 rfl
      · refine S_ (R_aload_n hO dX7_touch_47 rfl) ?_
        refine S_getR hO dX7_touch_48 fl_X7_36 sh_0 rfl ?_
        refine S_ (R_aload_n hO dX7_touch_51 rfl) ?_
        refine S_getR hO dX7_touch_52 fl_X7_25 sh_0 rfl ?_
        refine S_callVV (rest := []) hO dX7_touch_55 (cs_X0_keep 8 isSt_8 s4) (by omega) lk_X7_156 np_X0_keep (rc_13 rfl) rfl (Nat.le_of_ble_eq_true rfl) (fun s6 => ?_)
        refine S_ (R_aload_n hO dX7_touch_58 rfl) ?_
        refine S_getR hO dX7_touch_59 fl_X7_25 sh_0 rfl ?_
        refine S_ (R_dup hO dX7_touch_62 rfl) ?_
        refine S_getI hO dX7_touch_63 fl_X7_178 isSt_8.1 rfl ?_
        refine S_ (R_iconst (v := (1 : Int32)) hO dX7_touch_66 (by decide)) ?_
        refine S_ (R_iload_n hO dX7_touch_67 rfl) ?_
        refine S_ (R_ishl hO dX7_touch_68) ?_
        refine S_ (R_ixor hO dX7_touch_69) ?_
        refine S_put hO dX7_touch_70 fl_X7_178 isSt_8.1 rfl (fun s7 => ?_)
        refine S_ (R_aload_n hO dX7_touch_73 rfl) ?_
        refine S_getR hO dX7_touch_74 fl_X7_25 sh_0 rfl ?_
        refine S_getI hO dX7_touch_77 fl_X7_178 isSt_8.1 rfl ?_
        exact S_iret rfl hO hQ dX7_touch_80 rfl
  · refine S_ (R_ldc (v := (-1000001 : Int32)) hO dX7_touch_26 kc_X7_70) ?_
    exact S_iret rfl hO hQ dX7_touch_28 rfl
def f_X7_putUp (p1 : Int32) (s0 : Mem) : Option (Int32 × Mem) := bd2 (f_X7_isHouse p1 s0) fun x1 s2 => if x1 = 0 then (some ((-1000001 : Int32), s2)) else ing p1 8 <| if (s2 (8 + 3) p1.toNatClampNeg) = 0 then (bd (f_X0_keep 8 s2) fun s4 => ing p1 8 <| lt (st2 s4 (8 + 3) p1.toNatClampNeg (50 : Int32)) fun s5 => bd2 (f_X5_standing 8 s5) fun x6 s7 => some (x6, s7)) else some ((-1000002 : Int32), s2)
theorem cs_X7_putUp (p1 : Int32) (s0 : Mem) : CS 4 MX7_putUp [.ref 0, .int p1] s0 ((f_X7_putUp p1 s0).map wI) := by
  refine CS.of (by decide +kernel) (Nat.le_of_ble_eq_true rfl) (fun X Z hO hQ => ?_)
  show SIM X MX7_putUp wI Z 0 [(0, .ref 0), (1, .int p1)] [] s0 _
  unfold f_X7_putUp
  refine S_ (R_aload_n hO dX7_putUp_0 rfl) ?_
  refine S_ (R_iload_n hO dX7_putUp_1 rfl) ?_
  refine S_callVI (rest := []) hO dX7_putUp_2 (cs_X7_isHouse p1 s0) (by omega) lk_X7_166 np_X7_isHouse (rc_0 rfl) rfl (Nat.le_of_ble_eq_true rfl) (fun x1 s2 => ?_)
  refine S_if_ne (tgt := 11) hO dX7_putUp_5 (by decide) ?_ ?_
  · refine S_ (R_ldc (v := (-1000001 : Int32)) hO dX7_putUp_8 kc_X7_70) ?_
    exact S_iret rfl hO hQ dX7_putUp_10 rfl
  · refine S_ (R_aload_n hO dX7_putUp_11 rfl) ?_
    refine S_getR hO dX7_putUp_12 fl_X7_25 sh_0 rfl ?_
    refine S_getR hO dX7_putUp_15 fl_X7_169 isSt_8.1 rfl ?_
    refine S_ (R_iload_n hO dX7_putUp_18 rfl) ?_
    refine S_iald hO dX7_putUp_19 isSt_8.2.2.2 ?_
    refine S_if_eq (tgt := 26) hO dX7_putUp_20 (by decide) ?_ ?_
    · refine S_ (R_ldc (v := (-1000002 : Int32)) hO dX7_putUp_23 kc_X7_145) ?_
      exact S_iret rfl hO hQ dX7_putUp_25 rfl
    · refine S_ (R_aload_n hO dX7_putUp_26 rfl) ?_
      refine S_getR hO dX7_putUp_27 fl_X7_36 sh_0 rfl ?_
      refine S_ (R_aload_n hO dX7_putUp_30 rfl) ?_
      refine S_getR hO dX7_putUp_31 fl_X7_25 sh_0 rfl ?_
      refine S_callVV (rest := []) hO dX7_putUp_34 (cs_X0_keep 8 isSt_8 s2) (by omega) lk_X7_156 np_X0_keep (rc_13 rfl) rfl (Nat.le_of_ble_eq_true rfl) (fun s4 => ?_)
      refine S_ (R_aload_n hO dX7_putUp_37 rfl) ?_
      refine S_getR hO dX7_putUp_38 fl_X7_25 sh_0 rfl ?_
      refine S_getR hO dX7_putUp_41 fl_X7_169 isSt_8.1 rfl ?_
      refine S_ (R_iload_n hO dX7_putUp_44 rfl) ?_
      refine S_ (R_bipush (v := (50 : Int32)) hO dX7_putUp_45 (by decide)) ?_
      refine S_iast hO dX7_putUp_47 isSt_8.2.2.2 (fun s5 => ?_)
      refine S_ (R_aload_n hO dX7_putUp_48 rfl) ?_
      refine S_getR hO dX7_putUp_49 fl_X7_25 sh_0 rfl ?_
      refine S_callVI (rest := []) hO dX7_putUp_52 (cs_X5_standing 8 isSt_8 s5) (by omega) lk_X7_162 np_X5_standing (rc_St isSt_8 rfl) rfl (Nat.le_of_ble_eq_true rfl) (fun x6 s7 => ?_)
      exact S_iret rfl hO hQ dX7_putUp_55 rfl
def f_X7_house (p1 : Int32) (p2 : Int32) (s0 : Mem) : Option (Int32 × Mem) := bd2 (f_X7_isHouse p1 s0) fun x1 s2 => if x1 = 0 then (some ((-1000001 : Int32), s2)) else swi p2 0 6 (fun j => match j with | 0 => (ing p1 8 <| some (s2 (8 + 3) p1.toNatClampNeg, s2)) | 1 => (ing p1 8 <| some (s2 (8 + 2) p1.toNatClampNeg, s2)) | 2 => (ing p1 8 <| if (s2 (8 + 3) p1.toNatClampNeg) = 0 then (some ((1 : Int32), s2)) else some ((0 : Int32), s2)) | 3 => (bd2 (f_X5_leans 8 p1 s2) fun x3 s4 => if x3 = 0 then (some ((0 : Int32), s4)) else some ((1 : Int32), s4)) | 4 => (bd2 (f_X5_loss 8 p1 s2) fun x5 s6 => some (x5, s6)) | 5 => (bd2 (f_X5_wallsOf 8 p1 s2) fun x7 s8 => some (x7, s8)) | _ => none) (some ((-1000001 : Int32), s2))
theorem cs_X7_house (p1 : Int32) (p2 : Int32) (s0 : Mem) : CS 3 MX7_house [.ref 0, .int p1, .int p2] s0 ((f_X7_house p1 p2 s0).map wI) := by
  refine CS.of (by decide +kernel) (Nat.le_of_ble_eq_true rfl) (fun X Z hO hQ => ?_)
  show SIM X MX7_house wI Z 0 [(0, .ref 0), (1, .int p1), (2, .int p2)] [] s0 _
  unfold f_X7_house
  refine S_ (R_aload_n hO dX7_house_0 rfl) ?_
  refine S_ (R_iload_n hO dX7_house_1 rfl) ?_
  refine S_callVI (rest := []) hO dX7_house_2 (cs_X7_isHouse p1 s0) (by omega) lk_X7_166 np_X7_isHouse (rc_0 rfl) rfl (Nat.le_of_ble_eq_true rfl) (fun x1 s2 => ?_)
  refine S_if_ne (tgt := 11) hO dX7_house_5 (by decide) ?_ ?_
  · refine S_ (R_ldc (v := (-1000001 : Int32)) hO dX7_house_8 kc_X7_70) ?_
    exact S_iret rfl hO hQ dX7_house_10 rfl
  · refine S_ (R_iload_n hO dX7_house_11 rfl) ?_
    refine S_tsw (lo := 0) (n := 6) (tgt := fun j => ([52, 62, 72, 90, 107, 116] : List Nat).getD j 0) (tgd := 125) hO dX7_house_12 (by decide) (by decide) (by decide) ?_ ?_
    · refine S_ (R_ldc (v := (-1000001 : Int32)) hO dX7_house_125 kc_X7_70) ?_
      exact S_iret rfl hO hQ dX7_house_127 rfl
    · intro j hj
      rcases (show j = 0 ∨ j = 1 ∨ j = 2 ∨ j = 3 ∨ j = 4 ∨ j = 5 by omega) with rfl | rfl | rfl | rfl | rfl | rfl
      · refine S_ (R_aload_n hO dX7_house_52 rfl) ?_
        refine S_getR hO dX7_house_53 fl_X7_25 sh_0 rfl ?_
        refine S_getR hO dX7_house_56 fl_X7_169 isSt_8.1 rfl ?_
        refine S_ (R_iload_n hO dX7_house_59 rfl) ?_
        refine S_iald hO dX7_house_60 isSt_8.2.2.2 ?_
        exact S_iret rfl hO hQ dX7_house_61 rfl
      · refine S_ (R_aload_n hO dX7_house_62 rfl) ?_
        refine S_getR hO dX7_house_63 fl_X7_25 sh_0 rfl ?_
        refine S_getR hO dX7_house_66 fl_X7_181 isSt_8.1 rfl ?_
        refine S_ (R_iload_n hO dX7_house_69 rfl) ?_
        refine S_iald hO dX7_house_70 isSt_8.2.2.1 ?_
        exact S_iret rfl hO hQ dX7_house_71 rfl
      · refine S_ (R_aload_n hO dX7_house_72 rfl) ?_
        refine S_getR hO dX7_house_73 fl_X7_25 sh_0 rfl ?_
        refine S_getR hO dX7_house_76 fl_X7_169 isSt_8.1 rfl ?_
        refine S_ (R_iload_n hO dX7_house_79 rfl) ?_
        refine S_iald hO dX7_house_80 isSt_8.2.2.2 ?_
        refine S_if_ne (tgt := 88) hO dX7_house_81 (by decide) ?_ ?_
        · refine S_ (R_iconst (v := (1 : Int32)) hO dX7_house_84 (by decide)) ?_
          refine S_ (R_goto (tgt := 89) hO dX7_house_85 (by decide)) ?_
          exact S_iret rfl hO hQ dX7_house_89 rfl
        · refine S_ (R_iconst (v := (0 : Int32)) hO dX7_house_88 (by decide)) ?_
          exact S_iret rfl hO hQ dX7_house_89 rfl
      · refine S_ (R_aload_n hO dX7_house_90 rfl) ?_
        refine S_getR hO dX7_house_91 fl_X7_25 sh_0 rfl ?_
        refine S_ (R_iload_n hO dX7_house_94 rfl) ?_
        refine S_callVI (rest := []) hO dX7_house_95 (cs_X5_leans 8 isSt_8 p1 s2) (by omega) lk_X7_184 np_X5_leans (rc_St isSt_8 rfl) rfl (Nat.le_of_ble_eq_true rfl) (fun x3 s4 => ?_)
        refine S_if_eq (tgt := 105) hO dX7_house_98 (by decide) ?_ ?_
        · refine S_ (R_iconst (v := (1 : Int32)) hO dX7_house_101 (by decide)) ?_
          refine S_ (R_goto (tgt := 106) hO dX7_house_102 (by decide)) ?_
          exact S_iret rfl hO hQ dX7_house_106 rfl
        · refine S_ (R_iconst (v := (0 : Int32)) hO dX7_house_105 (by decide)) ?_
          exact S_iret rfl hO hQ dX7_house_106 rfl
      · refine S_ (R_aload_n hO dX7_house_107 rfl) ?_
        refine S_getR hO dX7_house_108 fl_X7_25 sh_0 rfl ?_
        refine S_ (R_iload_n hO dX7_house_111 rfl) ?_
        refine S_callVI (rest := []) hO dX7_house_112 (cs_X5_loss 8 isSt_8 p1 s2) (by omega) lk_X7_187 np_X5_loss (rc_St isSt_8 rfl) rfl (Nat.le_of_ble_eq_true rfl) (fun x5 s6 => ?_)
        exact S_iret rfl hO hQ dX7_house_115 rfl
      · refine S_ (R_aload_n hO dX7_house_116 rfl) ?_
        refine S_getR hO dX7_house_117 fl_X7_25 sh_0 rfl ?_
        refine S_ (R_iload_n hO dX7_house_120 rfl) ?_
        refine S_callVI (rest := []) hO dX7_house_121 (cs_X5_wallsOf 8 isSt_8 p1 s2) (by omega) lk_X7_190 np_X5_wallsOf (rc_St isSt_8 rfl) rfl (Nat.le_of_ble_eq_true rfl) (fun x7 s8 => ?_)
        exact S_iret rfl hO hQ dX7_house_124 rfl
def f_X7_stand (p1 : Int32) (s0 : Mem) : Option (Int32 × Mem) := bd2 (f_X7_noStreet s0) fun x1 s2 => if x1 = 0 then (swi p1 0 6 (fun j => match j with | 0 => (bd2 (f_X5_standing 8 s2) fun x3 s4 => some (x3, s4)) | 1 => (bd2 (f_X5_leaning 8 s2) fun x5 s6 => some (x5, s6)) | 2 => (some (s2 8 7, s2)) | 3 => (bd2 (f_X5_allSpin 8 s2) fun x7 s8 => some (x7, s8)) | 4 => (some (s2 8 4, s2)) | 5 => (some (s2 8 5, s2)) | _ => none) (some ((-1000001 : Int32), s2))) else some ((-1000002 : Int32), s2)
theorem cs_X7_stand (p1 : Int32) (s0 : Mem) : CS 3 MX7_stand [.ref 0, .int p1] s0 ((f_X7_stand p1 s0).map wI) := by
  refine CS.of (by decide +kernel) (Nat.le_of_ble_eq_true rfl) (fun X Z hO hQ => ?_)
  show SIM X MX7_stand wI Z 0 [(0, .ref 0), (1, .int p1)] [] s0 _
  unfold f_X7_stand
  refine S_ (R_aload_n hO dX7_stand_0 rfl) ?_
  refine S_callVI (rest := []) hO dX7_stand_1 (cs_X7_noStreet s0) (by omega) lk_X7_149 np_X7_noStreet (rc_0 rfl) rfl (Nat.le_of_ble_eq_true rfl) (fun x1 s2 => ?_)
  refine S_if_eq (tgt := 10) hO dX7_stand_4 (by decide) ?_ ?_
  · refine S_ (R_ldc (v := (-1000002 : Int32)) hO dX7_stand_7 kc_X7_145) ?_
    exact S_iret rfl hO hQ dX7_stand_9 rfl
  · refine S_ (R_iload_n hO dX7_stand_10 rfl) ?_
    refine S_tsw (lo := 0) (n := 6) (tgt := fun j => ([48, 56, 64, 72, 80, 88] : List Nat).getD j 0) (tgd := 96) hO dX7_stand_11 (by decide) (by decide) (by decide) ?_ ?_
    · refine S_ (R_ldc (v := (-1000001 : Int32)) hO dX7_stand_96 kc_X7_70) ?_
      exact S_iret rfl hO hQ dX7_stand_98 rfl
    · intro j hj
      rcases (show j = 0 ∨ j = 1 ∨ j = 2 ∨ j = 3 ∨ j = 4 ∨ j = 5 by omega) with rfl | rfl | rfl | rfl | rfl | rfl
      · refine S_ (R_aload_n hO dX7_stand_48 rfl) ?_
        refine S_getR hO dX7_stand_49 fl_X7_25 sh_0 rfl ?_
        refine S_callVI (rest := []) hO dX7_stand_52 (cs_X5_standing 8 isSt_8 s2) (by omega) lk_X7_162 np_X5_standing (rc_St isSt_8 rfl) rfl (Nat.le_of_ble_eq_true rfl) (fun x3 s4 => ?_)
        exact S_iret rfl hO hQ dX7_stand_55 rfl
      · refine S_ (R_aload_n hO dX7_stand_56 rfl) ?_
        refine S_getR hO dX7_stand_57 fl_X7_25 sh_0 rfl ?_
        refine S_callVI (rest := []) hO dX7_stand_60 (cs_X5_leaning 8 isSt_8 s2) (by omega) lk_X7_193 np_X5_leaning (rc_St isSt_8 rfl) rfl (Nat.le_of_ble_eq_true rfl) (fun x5 s6 => ?_)
        exact S_iret rfl hO hQ dX7_stand_63 rfl
      · refine S_ (R_aload_n hO dX7_stand_64 rfl) ?_
        refine S_getR hO dX7_stand_65 fl_X7_25 sh_0 rfl ?_
        refine S_getI hO dX7_stand_68 fl_X7_178 isSt_8.1 rfl ?_
        exact S_iret rfl hO hQ dX7_stand_71 rfl
      · refine S_ (R_aload_n hO dX7_stand_72 rfl) ?_
        refine S_getR hO dX7_stand_73 fl_X7_25 sh_0 rfl ?_
        refine S_callVI (rest := []) hO dX7_stand_76 (cs_X5_allSpin 8 isSt_8 s2) (by omega) lk_X7_196 np_X5_allSpin (rc_St isSt_8 rfl) rfl (Nat.le_of_ble_eq_true rfl) (fun x7 s8 => ?_)
        exact S_iret rfl hO hQ dX7_stand_79 rfl
      · refine S_ (R_aload_n hO dX7_stand_80 rfl) ?_
        refine S_getR hO dX7_stand_81 fl_X7_25 sh_0 rfl ?_
        refine S_getI hO dX7_stand_84 fl_X7_172 isSt_8.1 rfl ?_
        exact S_iret rfl hO hQ dX7_stand_87 rfl
      · refine S_ (R_aload_n hO dX7_stand_88 rfl) ?_
        refine S_getR hO dX7_stand_89 fl_X7_25 sh_0 rfl ?_
        refine S_getI hO dX7_stand_92 fl_X7_199 isSt_8.1 rfl ?_
        exact S_iret rfl hO hQ dX7_stand_95 rfl
def f_X7_ahead (p1 : Int32) (p2 : Int32) (s0 : Mem) : Option (Int32 × Mem) := bd2 (f_X7_isHouse p1 s0) fun x1 s2 => if x1 = 0 then (some ((-1000001 : Int32), s2)) else bd2 (f_X7_within p2 (0 : Int32) (60 : Int32) s2) fun x3 s4 => if x3 = 0 then (some ((-1000001 : Int32), s4)) else bd (f_X2_after 8 p2 s4) fun s6 => ing p1 8 <| some (s6 (112 + 3) p1.toNatClampNeg, s6)
theorem cs_X7_ahead (p1 : Int32) (p2 : Int32) (s0 : Mem) : CS 6 MX7_ahead [.ref 0, .int p1, .int p2] s0 ((f_X7_ahead p1 p2 s0).map wI) := by
  refine CS.of (by decide +kernel) (Nat.le_of_ble_eq_true rfl) (fun X Z hO hQ => ?_)
  show SIM X MX7_ahead wI Z 0 [(0, .ref 0), (1, .int p1), (2, .int p2)] [] s0 _
  unfold f_X7_ahead
  refine S_ (R_aload_n hO dX7_ahead_0 rfl) ?_
  refine S_ (R_iload_n hO dX7_ahead_1 rfl) ?_
  refine S_callVI (rest := []) hO dX7_ahead_2 (cs_X7_isHouse p1 s0) (by omega) lk_X7_166 np_X7_isHouse (rc_0 rfl) rfl (Nat.le_of_ble_eq_true rfl) (fun x1 s2 => ?_)
  refine S_if_eq (tgt := 18) hO dX7_ahead_5 (by decide) ?_ ?_
  · refine S_ (R_iload_n hO dX7_ahead_8 rfl) ?_
    refine S_ (R_iconst (v := (0 : Int32)) hO dX7_ahead_9 (by decide)) ?_
    refine S_ (R_bipush (v := (60 : Int32)) hO dX7_ahead_10 (by decide)) ?_
    refine S_callSI (rest := []) hO dX7_ahead_12 (cs_X7_within p2 (0 : Int32) (60 : Int32) s2) (by omega) lk_X7_66 np_X7_within rfl (Nat.le_of_ble_eq_true rfl) (fun x3 s4 => ?_)
    refine S_if_ne (tgt := 21) hO dX7_ahead_15 (by decide) ?_ ?_
    · refine S_ (R_ldc (v := (-1000001 : Int32)) hO dX7_ahead_18 kc_X7_70) ?_
      exact S_iret rfl hO hQ dX7_ahead_20 rfl
    · refine S_ (R_aload_n hO dX7_ahead_21 rfl) ?_
      refine S_getR hO dX7_ahead_22 fl_X7_43 sh_0 rfl ?_
      refine S_ (R_aload_n hO dX7_ahead_25 rfl) ?_
      refine S_getR hO dX7_ahead_26 fl_X7_25 sh_0 rfl ?_
      refine S_ (R_iload_n hO dX7_ahead_29 rfl) ?_
      refine S_callVR (rest := []) hO dX7_ahead_30 (cs_X2_after 8 isSt_8 p2 s4) (by omega) lk_X7_202 np_X2_after (rc_111 rfl) rfl (Nat.le_of_ble_eq_true rfl) (fun s6 => ?_)
      refine S_getR hO dX7_ahead_33 fl_X7_169 isSt_112.1 rfl ?_
      refine S_ (R_iload_n hO dX7_ahead_36 rfl) ?_
      refine S_iald hO dX7_ahead_37 isSt_112.2.2.2 ?_
      exact S_iret rfl hO hQ dX7_ahead_38 rfl
  · refine S_ (R_ldc (v := (-1000001 : Int32)) hO dX7_ahead_18 kc_X7_70) ?_
    exact S_iret rfl hO hQ dX7_ahead_20 rfl
def f_X7_when (p1 : Int32) (p2 : Int32) (s0 : Mem) : Option (Int32 × Mem) := bd2 (f_X7_isHouse p1 s0) fun x1 s2 => if x1 = 0 then (some ((-1000001 : Int32), s2)) else bd2 (f_X7_within p2 (0 : Int32) (1 : Int32) s2) fun x3 s4 => if x3 = 0 then (some ((-1000001 : Int32), s4)) else bd2 (f_X2_hoursUntil 8 p1 p2 s4) fun x5 s6 => some (x5, s6)
theorem cs_X7_when (p1 : Int32) (p2 : Int32) (s0 : Mem) : CS 5 MX7_when [.ref 0, .int p1, .int p2] s0 ((f_X7_when p1 p2 s0).map wI) := by
  refine CS.of (by decide +kernel) (Nat.le_of_ble_eq_true rfl) (fun X Z hO hQ => ?_)
  show SIM X MX7_when wI Z 0 [(0, .ref 0), (1, .int p1), (2, .int p2)] [] s0 _
  unfold f_X7_when
  refine S_ (R_aload_n hO dX7_when_0 rfl) ?_
  refine S_ (R_iload_n hO dX7_when_1 rfl) ?_
  refine S_callVI (rest := []) hO dX7_when_2 (cs_X7_isHouse p1 s0) (by omega) lk_X7_166 np_X7_isHouse (rc_0 rfl) rfl (Nat.le_of_ble_eq_true rfl) (fun x1 s2 => ?_)
  refine S_if_eq (tgt := 17) hO dX7_when_5 (by decide) ?_ ?_
  · refine S_ (R_iload_n hO dX7_when_8 rfl) ?_
    refine S_ (R_iconst (v := (0 : Int32)) hO dX7_when_9 (by decide)) ?_
    refine S_ (R_iconst (v := (1 : Int32)) hO dX7_when_10 (by decide)) ?_
    refine S_callSI (rest := []) hO dX7_when_11 (cs_X7_within p2 (0 : Int32) (1 : Int32) s2) (by omega) lk_X7_66 np_X7_within rfl (Nat.le_of_ble_eq_true rfl) (fun x3 s4 => ?_)
    refine S_if_ne (tgt := 20) hO dX7_when_14 (by decide) ?_ ?_
    · refine S_ (R_ldc (v := (-1000001 : Int32)) hO dX7_when_17 kc_X7_70) ?_
      exact S_iret rfl hO hQ dX7_when_19 rfl
    · refine S_ (R_aload_n hO dX7_when_20 rfl) ?_
      refine S_getR hO dX7_when_21 fl_X7_43 sh_0 rfl ?_
      refine S_ (R_aload_n hO dX7_when_24 rfl) ?_
      refine S_getR hO dX7_when_25 fl_X7_25 sh_0 rfl ?_
      refine S_ (R_iload_n hO dX7_when_28 rfl) ?_
      refine S_ (R_iload_n hO dX7_when_29 rfl) ?_
      refine S_callVI (rest := []) hO dX7_when_30 (cs_X2_hoursUntil 8 isSt_8 p1 p2 s4) (by omega) lk_X7_206 np_X2_hoursUntil (rc_111 rfl) rfl (Nat.le_of_ble_eq_true rfl) (fun x5 s6 => ?_)
      exact S_iret rfl hO hQ dX7_when_33 rfl
  · refine S_ (R_ldc (v := (-1000001 : Int32)) hO dX7_when_17 kc_X7_70) ?_
    exact S_iret rfl hO hQ dX7_when_19 rfl
def f_X7_first (p1 : Int32) (s0 : Mem) : Option (Int32 × Mem) := bd2 (f_X7_noStreet s0) fun x1 s2 => if x1 = 0 then (bd2 (f_X7_within p1 (0 : Int32) (1 : Int32) s2) fun x3 s4 => if x3 = 0 then (some ((-1000001 : Int32), s4)) else bd2 (f_X2_firstToFall 8 p1 s4) fun x5 s6 => some (x5, s6)) else some ((-1000002 : Int32), s2)
theorem cs_X7_first (p1 : Int32) (s0 : Mem) : CS 5 MX7_first [.ref 0, .int p1] s0 ((f_X7_first p1 s0).map wI) := by
  refine CS.of (by decide +kernel) (Nat.le_of_ble_eq_true rfl) (fun X Z hO hQ => ?_)
  show SIM X MX7_first wI Z 0 [(0, .ref 0), (1, .int p1)] [] s0 _
  unfold f_X7_first
  refine S_ (R_aload_n hO dX7_first_0 rfl) ?_
  refine S_callVI (rest := []) hO dX7_first_1 (cs_X7_noStreet s0) (by omega) lk_X7_149 np_X7_noStreet (rc_0 rfl) rfl (Nat.le_of_ble_eq_true rfl) (fun x1 s2 => ?_)
  refine S_if_eq (tgt := 10) hO dX7_first_4 (by decide) ?_ ?_
  · refine S_ (R_ldc (v := (-1000002 : Int32)) hO dX7_first_7 kc_X7_145) ?_
    exact S_iret rfl hO hQ dX7_first_9 rfl
  · refine S_ (R_iload_n hO dX7_first_10 rfl) ?_
    refine S_ (R_iconst (v := (0 : Int32)) hO dX7_first_11 (by decide)) ?_
    refine S_ (R_iconst (v := (1 : Int32)) hO dX7_first_12 (by decide)) ?_
    refine S_callSI (rest := []) hO dX7_first_13 (cs_X7_within p1 (0 : Int32) (1 : Int32) s2) (by omega) lk_X7_66 np_X7_within rfl (Nat.le_of_ble_eq_true rfl) (fun x3 s4 => ?_)
    refine S_if_ne (tgt := 22) hO dX7_first_16 (by decide) ?_ ?_
    · refine S_ (R_ldc (v := (-1000001 : Int32)) hO dX7_first_19 kc_X7_70) ?_
      exact S_iret rfl hO hQ dX7_first_21 rfl
    · refine S_ (R_aload_n hO dX7_first_22 rfl) ?_
      refine S_getR hO dX7_first_23 fl_X7_43 sh_0 rfl ?_
      refine S_ (R_aload_n hO dX7_first_26 rfl) ?_
      refine S_getR hO dX7_first_27 fl_X7_25 sh_0 rfl ?_
      refine S_ (R_iload_n hO dX7_first_30 rfl) ?_
      refine S_callVI (rest := []) hO dX7_first_31 (cs_X2_firstToFall 8 isSt_8 p1 s4) (by omega) lk_X7_210 np_X2_firstToFall (rc_111 rfl) rfl (Nat.le_of_ble_eq_true rfl) (fun x5 s6 => ?_)
      exact S_iret rfl hO hQ dX7_first_34 rfl
def f_X7_left (p1 : Int32) (s0 : Mem) : Option (Int32 × Mem) := bd2 (f_X7_noStreet s0) fun x1 s2 => if x1 = 0 then (bd2 (f_X7_within p1 (0 : Int32) (60 : Int32) s2) fun x3 s4 => if x3 = 0 then (some ((-1000001 : Int32), s4)) else bd (f_X2_after 8 p1 s4) fun s6 => bd2 (f_X5_standing 112 s6) fun x7 s8 => some (x7, s8)) else some ((-1000002 : Int32), s2)
theorem cs_X7_left (p1 : Int32) (s0 : Mem) : CS 6 MX7_left [.ref 0, .int p1] s0 ((f_X7_left p1 s0).map wI) := by
  refine CS.of (by decide +kernel) (Nat.le_of_ble_eq_true rfl) (fun X Z hO hQ => ?_)
  show SIM X MX7_left wI Z 0 [(0, .ref 0), (1, .int p1)] [] s0 _
  unfold f_X7_left
  refine S_ (R_aload_n hO dX7_left_0 rfl) ?_
  refine S_callVI (rest := []) hO dX7_left_1 (cs_X7_noStreet s0) (by omega) lk_X7_149 np_X7_noStreet (rc_0 rfl) rfl (Nat.le_of_ble_eq_true rfl) (fun x1 s2 => ?_)
  refine S_if_eq (tgt := 10) hO dX7_left_4 (by decide) ?_ ?_
  · refine S_ (R_ldc (v := (-1000002 : Int32)) hO dX7_left_7 kc_X7_145) ?_
    exact S_iret rfl hO hQ dX7_left_9 rfl
  · refine S_ (R_iload_n hO dX7_left_10 rfl) ?_
    refine S_ (R_iconst (v := (0 : Int32)) hO dX7_left_11 (by decide)) ?_
    refine S_ (R_bipush (v := (60 : Int32)) hO dX7_left_12 (by decide)) ?_
    refine S_callSI (rest := []) hO dX7_left_14 (cs_X7_within p1 (0 : Int32) (60 : Int32) s2) (by omega) lk_X7_66 np_X7_within rfl (Nat.le_of_ble_eq_true rfl) (fun x3 s4 => ?_)
    refine S_if_ne (tgt := 23) hO dX7_left_17 (by decide) ?_ ?_
    · refine S_ (R_ldc (v := (-1000001 : Int32)) hO dX7_left_20 kc_X7_70) ?_
      exact S_iret rfl hO hQ dX7_left_22 rfl
    · refine S_ (R_aload_n hO dX7_left_23 rfl) ?_
      refine S_getR hO dX7_left_24 fl_X7_43 sh_0 rfl ?_
      refine S_ (R_aload_n hO dX7_left_27 rfl) ?_
      refine S_getR hO dX7_left_28 fl_X7_25 sh_0 rfl ?_
      refine S_ (R_iload_n hO dX7_left_31 rfl) ?_
      refine S_callVR (rest := []) hO dX7_left_32 (cs_X2_after 8 isSt_8 p1 s4) (by omega) lk_X7_202 np_X2_after (rc_111 rfl) rfl (Nat.le_of_ble_eq_true rfl) (fun s6 => ?_)
      refine S_callVI (rest := []) hO dX7_left_35 (cs_X5_standing 112 isSt_112 s6) (by omega) lk_X7_162 np_X5_standing (rc_St isSt_112 rfl) rfl (Nat.le_of_ble_eq_true rfl) (fun x7 s8 => ?_)
      exact S_iret rfl hO hQ dX7_left_38 rfl
def f_X7_round (p1 : Int32) (p2 : Int32) (p3 : Int32) (s0 : Mem) : Option (Int32 × Mem) := bd2 (f_X7_isHouse p1 s0) fun x1 s2 => if x1 = 0 then (some ((-1000001 : Int32), s2)) else bd2 (f_X7_within p2 (1 : Int32) (7 : Int32) s2) fun x3 s4 => if x3 = 0 then (some ((-1000001 : Int32), s4)) else if (-2 : Int32) ≤ p3 then (if p3 < p2 then (bd (f_X3_search 8 p1 p2 s4) fun s6 => if p3 = (-1 : Int32) then (some (s6 121 3, s6)) else if p3 = (-2 : Int32) then (some (s6 121 4, s6)) else ing p3 7 <| some (s6 124 p3.toNatClampNeg, s6)) else some ((-1000000 : Int32), s4)) else some ((-1000001 : Int32), s4)
theorem cs_X7_round (p1 : Int32) (p2 : Int32) (p3 : Int32) (s0 : Mem) : CS 20 MX7_round [.ref 0, .int p1, .int p2, .int p3] s0 ((f_X7_round p1 p2 p3 s0).map wI) := by
  refine CS.of (by decide +kernel) (Nat.le_of_ble_eq_true rfl) (fun X Z hO hQ => ?_)
  show SIM X MX7_round wI Z 0 [(0, .ref 0), (1, .int p1), (2, .int p2), (3, .int p3)] [] s0 _
  unfold f_X7_round
  refine S_ (R_aload_n hO dX7_round_0 rfl) ?_
  refine S_ (R_iload_n hO dX7_round_1 rfl) ?_
  refine S_callVI (rest := []) hO dX7_round_2 (cs_X7_isHouse p1 s0) (by omega) lk_X7_166 np_X7_isHouse (rc_0 rfl) rfl (Nat.le_of_ble_eq_true rfl) (fun x1 s2 => ?_)
  refine S_if_eq (tgt := 24) hO dX7_round_5 (by decide) ?_ ?_
  · refine S_ (R_iload_n hO dX7_round_8 rfl) ?_
    refine S_ (R_iconst (v := (1 : Int32)) hO dX7_round_9 (by decide)) ?_
    refine S_ (R_bipush (v := (7 : Int32)) hO dX7_round_10 (by decide)) ?_
    refine S_callSI (rest := []) hO dX7_round_12 (cs_X7_within p2 (1 : Int32) (7 : Int32) s2) (by omega) lk_X7_66 np_X7_within rfl (Nat.le_of_ble_eq_true rfl) (fun x3 s4 => ?_)
    refine S_if_eq (tgt := 24) hO dX7_round_15 (by decide) ?_ ?_
    · refine S_ (R_iload_n hO dX7_round_18 rfl) ?_
      refine S_ (R_bipush (v := (-2 : Int32)) hO dX7_round_19 (by decide)) ?_
      refine S_icmp_ge (tgt := 27) hO dX7_round_21 (by decide) ?_ ?_
      · refine S_ (R_ldc (v := (-1000001 : Int32)) hO dX7_round_24 kc_X7_70) ?_
        exact S_iret rfl hO hQ dX7_round_26 rfl
      · refine S_ (R_iload_n hO dX7_round_27 rfl) ?_
        refine S_ (R_iload_n hO dX7_round_28 rfl) ?_
        refine S_icmp_lt (tgt := 35) hO dX7_round_29 (by decide) ?_ ?_
        · refine S_ (R_ldc (v := (-1000000 : Int32)) hO dX7_round_32 kc_X7_214) ?_
          exact S_iret rfl hO hQ dX7_round_34 rfl
        · refine S_ (R_aload_n hO dX7_round_35 rfl) ?_
          refine S_getR hO dX7_round_36 fl_X7_50 sh_0 rfl ?_
          refine S_ (R_aload_n hO dX7_round_39 rfl) ?_
          refine S_getR hO dX7_round_40 fl_X7_25 sh_0 rfl ?_
          refine S_ (R_iload_n hO dX7_round_43 rfl) ?_
          refine S_ (R_iload_n hO dX7_round_44 rfl) ?_
          refine S_callVV (rest := []) hO dX7_round_45 (cs_X3_search 8 isSt_8 p1 p2 s4) (by omega) lk_X7_215 np_X3_search (rc_121 rfl) rfl (Nat.le_of_ble_eq_true rfl) (fun s6 => ?_)
          refine S_ (R_iload_n hO dX7_round_48 rfl) ?_
          refine S_ (R_iconst (v := (-1 : Int32)) hO dX7_round_49 (by decide)) ?_
          refine S_icmp_ne (tgt := 61) hO dX7_round_50 (by decide) ?_ ?_
          · refine S_ (R_aload_n hO dX7_round_53 rfl) ?_
            refine S_getR hO dX7_round_54 fl_X7_50 sh_0 rfl ?_
            refine S_getI hO dX7_round_57 fl_X7_219 sh_121 rfl ?_
            exact S_iret rfl hO hQ dX7_round_60 rfl
          · refine S_ (R_iload_n hO dX7_round_61 rfl) ?_
            refine S_ (R_bipush (v := (-2 : Int32)) hO dX7_round_62 (by decide)) ?_
            refine S_icmp_ne (tgt := 77) hO dX7_round_64 (by decide) ?_ ?_
            · refine S_ (R_aload_n hO dX7_round_67 rfl) ?_
              refine S_getR hO dX7_round_68 fl_X7_50 sh_0 rfl ?_
              refine S_getI hO dX7_round_71 fl_X7_222 sh_121 rfl ?_
              refine S_ (R_goto (tgt := 86) hO dX7_round_74 (by decide)) ?_
              exact S_iret rfl hO hQ dX7_round_86 rfl
            · refine S_ (R_aload_n hO dX7_round_77 rfl) ?_
              refine S_getR hO dX7_round_78 fl_X7_50 sh_0 rfl ?_
              refine S_getR hO dX7_round_81 fl_X7_225 sh_121 rfl ?_
              refine S_ (R_iload_n hO dX7_round_84 rfl) ?_
              refine S_iald hO dX7_round_85 sh_124 ?_
              exact S_iret rfl hO hQ dX7_round_86 rfl
    · refine S_ (R_ldc (v := (-1000001 : Int32)) hO dX7_round_24 kc_X7_70) ?_
      exact S_iret rfl hO hQ dX7_round_26 rfl
  · refine S_ (R_ldc (v := (-1000001 : Int32)) hO dX7_round_24 kc_X7_70) ?_
    exact S_iret rfl hO hQ dX7_round_26 rfl
def f_X7_walls (p1 : Int32) (p2 : Int32) (s0 : Mem) : Option (Int32 × Mem) := bd2 (f_X7_noStreet s0) fun x1 s2 => if x1 = 0 then (bd2 (f_X7_within p1 (1 : Int32) (60 : Int32) s2) fun x3 s4 => if x3 = 0 then (some ((-1000001 : Int32), s4)) else bd2 (f_X7_within p2 (0 : Int32) (1 : Int32) s4) fun x5 s6 => if x5 = 0 then (some ((-1000001 : Int32), s6)) else bd2 (f_X2_bestWalls 8 p1 p2 s6) fun x7 s8 => some (x7, s8)) else some ((-1000002 : Int32), s2)
theorem cs_X7_walls (p1 : Int32) (p2 : Int32) (s0 : Mem) : CS 7 MX7_walls [.ref 0, .int p1, .int p2] s0 ((f_X7_walls p1 p2 s0).map wI) := by
  refine CS.of (by decide +kernel) (Nat.le_of_ble_eq_true rfl) (fun X Z hO hQ => ?_)
  show SIM X MX7_walls wI Z 0 [(0, .ref 0), (1, .int p1), (2, .int p2)] [] s0 _
  unfold f_X7_walls
  refine S_ (R_aload_n hO dX7_walls_0 rfl) ?_
  refine S_callVI (rest := []) hO dX7_walls_1 (cs_X7_noStreet s0) (by omega) lk_X7_149 np_X7_noStreet (rc_0 rfl) rfl (Nat.le_of_ble_eq_true rfl) (fun x1 s2 => ?_)
  refine S_if_eq (tgt := 10) hO dX7_walls_4 (by decide) ?_ ?_
  · refine S_ (R_ldc (v := (-1000002 : Int32)) hO dX7_walls_7 kc_X7_145) ?_
    exact S_iret rfl hO hQ dX7_walls_9 rfl
  · refine S_ (R_iload_n hO dX7_walls_10 rfl) ?_
    refine S_ (R_iconst (v := (1 : Int32)) hO dX7_walls_11 (by decide)) ?_
    refine S_ (R_bipush (v := (60 : Int32)) hO dX7_walls_12 (by decide)) ?_
    refine S_callSI (rest := []) hO dX7_walls_14 (cs_X7_within p1 (1 : Int32) (60 : Int32) s2) (by omega) lk_X7_66 np_X7_within rfl (Nat.le_of_ble_eq_true rfl) (fun x3 s4 => ?_)
    refine S_if_eq (tgt := 29) hO dX7_walls_17 (by decide) ?_ ?_
    · refine S_ (R_iload_n hO dX7_walls_20 rfl) ?_
      refine S_ (R_iconst (v := (0 : Int32)) hO dX7_walls_21 (by decide)) ?_
      refine S_ (R_iconst (v := (1 : Int32)) hO dX7_walls_22 (by decide)) ?_
      refine S_callSI (rest := []) hO dX7_walls_23 (cs_X7_within p2 (0 : Int32) (1 : Int32) s4) (by omega) lk_X7_66 np_X7_within rfl (Nat.le_of_ble_eq_true rfl) (fun x5 s6 => ?_)
      refine S_if_ne (tgt := 32) hO dX7_walls_26 (by decide) ?_ ?_
      · refine S_ (R_ldc (v := (-1000001 : Int32)) hO dX7_walls_29 kc_X7_70) ?_
        exact S_iret rfl hO hQ dX7_walls_31 rfl
      · refine S_ (R_aload_n hO dX7_walls_32 rfl) ?_
        refine S_getR hO dX7_walls_33 fl_X7_43 sh_0 rfl ?_
        refine S_ (R_aload_n hO dX7_walls_36 rfl) ?_
        refine S_getR hO dX7_walls_37 fl_X7_25 sh_0 rfl ?_
        refine S_ (R_iload_n hO dX7_walls_40 rfl) ?_
        refine S_ (R_iload_n hO dX7_walls_41 rfl) ?_
        refine S_callVI (rest := []) hO dX7_walls_42 (cs_X2_bestWalls 8 isSt_8 p1 p2 s6) (by omega) lk_X7_228 np_X2_bestWalls (rc_111 rfl) rfl (Nat.le_of_ble_eq_true rfl) (fun x7 s8 => ?_)
        exact S_iret rfl hO hQ dX7_walls_45 rfl
    · refine S_ (R_ldc (v := (-1000001 : Int32)) hO dX7_walls_29 kc_X7_70) ?_
      exact S_iret rfl hO hQ dX7_walls_31 rfl
def f_X7_steady (p1 : Int32) (p2 : Int32) (s0 : Mem) : Option (Int32 × Mem) := bd2 (f_X7_noStreet s0) fun x1 s2 => if x1 = 0 then (bd2 (f_X7_within p1 (1 : Int32) (60 : Int32) s2) fun x3 s4 => if x3 = 0 then (some ((-1000001 : Int32), s4)) else bd2 (f_X7_within p2 (0 : Int32) (1 : Int32) s4) fun x5 s6 => if x5 = 0 then (some ((-1000001 : Int32), s6)) else bd2 (f_X2_bestSteadied 8 p1 p2 s6) fun x7 s8 => some (x7, s8)) else some ((-1000002 : Int32), s2)
theorem cs_X7_steady (p1 : Int32) (p2 : Int32) (s0 : Mem) : CS 7 MX7_steady [.ref 0, .int p1, .int p2] s0 ((f_X7_steady p1 p2 s0).map wI) := by
  refine CS.of (by decide +kernel) (Nat.le_of_ble_eq_true rfl) (fun X Z hO hQ => ?_)
  show SIM X MX7_steady wI Z 0 [(0, .ref 0), (1, .int p1), (2, .int p2)] [] s0 _
  unfold f_X7_steady
  refine S_ (R_aload_n hO dX7_steady_0 rfl) ?_
  refine S_callVI (rest := []) hO dX7_steady_1 (cs_X7_noStreet s0) (by omega) lk_X7_149 np_X7_noStreet (rc_0 rfl) rfl (Nat.le_of_ble_eq_true rfl) (fun x1 s2 => ?_)
  refine S_if_eq (tgt := 10) hO dX7_steady_4 (by decide) ?_ ?_
  · refine S_ (R_ldc (v := (-1000002 : Int32)) hO dX7_steady_7 kc_X7_145) ?_
    exact S_iret rfl hO hQ dX7_steady_9 rfl
  · refine S_ (R_iload_n hO dX7_steady_10 rfl) ?_
    refine S_ (R_iconst (v := (1 : Int32)) hO dX7_steady_11 (by decide)) ?_
    refine S_ (R_bipush (v := (60 : Int32)) hO dX7_steady_12 (by decide)) ?_
    refine S_callSI (rest := []) hO dX7_steady_14 (cs_X7_within p1 (1 : Int32) (60 : Int32) s2) (by omega) lk_X7_66 np_X7_within rfl (Nat.le_of_ble_eq_true rfl) (fun x3 s4 => ?_)
    refine S_if_eq (tgt := 29) hO dX7_steady_17 (by decide) ?_ ?_
    · refine S_ (R_iload_n hO dX7_steady_20 rfl) ?_
      refine S_ (R_iconst (v := (0 : Int32)) hO dX7_steady_21 (by decide)) ?_
      refine S_ (R_iconst (v := (1 : Int32)) hO dX7_steady_22 (by decide)) ?_
      refine S_callSI (rest := []) hO dX7_steady_23 (cs_X7_within p2 (0 : Int32) (1 : Int32) s4) (by omega) lk_X7_66 np_X7_within rfl (Nat.le_of_ble_eq_true rfl) (fun x5 s6 => ?_)
      refine S_if_ne (tgt := 32) hO dX7_steady_26 (by decide) ?_ ?_
      · refine S_ (R_ldc (v := (-1000001 : Int32)) hO dX7_steady_29 kc_X7_70) ?_
        exact S_iret rfl hO hQ dX7_steady_31 rfl
      · refine S_ (R_aload_n hO dX7_steady_32 rfl) ?_
        refine S_getR hO dX7_steady_33 fl_X7_43 sh_0 rfl ?_
        refine S_ (R_aload_n hO dX7_steady_36 rfl) ?_
        refine S_getR hO dX7_steady_37 fl_X7_25 sh_0 rfl ?_
        refine S_ (R_iload_n hO dX7_steady_40 rfl) ?_
        refine S_ (R_iload_n hO dX7_steady_41 rfl) ?_
        refine S_callVI (rest := []) hO dX7_steady_42 (cs_X2_bestSteadied 8 isSt_8 p1 p2 s6) (by omega) lk_X7_231 np_X2_bestSteadied (rc_111 rfl) rfl (Nat.le_of_ble_eq_true rfl) (fun x7 s8 => ?_)
        exact S_iret rfl hO hQ dX7_steady_45 rfl
    · refine S_ (R_ldc (v := (-1000001 : Int32)) hO dX7_steady_29 kc_X7_70) ?_
      exact S_iret rfl hO hQ dX7_steady_31 rfl
def f_X7_boys (p1 : Int32) (p2 : Int32) (s0 : Mem) : Option (Int32 × Mem) := bd2 (f_X7_noStreet s0) fun x1 s2 => if x1 = 0 then (bd2 (f_X7_within p1 (0 : Int32) (4 : Int32) s2) fun x3 s4 => if x3 = 0 then (some ((-1000001 : Int32), s4)) else bd2 (f_X7_within p2 (1 : Int32) (20 : Int32) s4) fun x5 s6 => if x5 = 0 then (some ((-1000001 : Int32), s6)) else bd (f_X5_take 116 8 s6) fun s8 => bd2 (f_X2_play 9 (0 : Int32) p1 p2 s8) fun x9 s10 => some (x9, s10)) else some ((-1000002 : Int32), s2)
theorem cs_X7_boys (p1 : Int32) (p2 : Int32) (s0 : Mem) : CS 16 MX7_boys [.ref 0, .int p1, .int p2] s0 ((f_X7_boys p1 p2 s0).map wI) := by
  refine CS.of (by decide +kernel) (Nat.le_of_ble_eq_true rfl) (fun X Z hO hQ => ?_)
  show SIM X MX7_boys wI Z 0 [(0, .ref 0), (1, .int p1), (2, .int p2)] [] s0 _
  unfold f_X7_boys
  refine S_ (R_aload_n hO dX7_boys_0 rfl) ?_
  refine S_callVI (rest := []) hO dX7_boys_1 (cs_X7_noStreet s0) (by omega) lk_X7_149 np_X7_noStreet (rc_0 rfl) rfl (Nat.le_of_ble_eq_true rfl) (fun x1 s2 => ?_)
  refine S_if_eq (tgt := 10) hO dX7_boys_4 (by decide) ?_ ?_
  · refine S_ (R_ldc (v := (-1000002 : Int32)) hO dX7_boys_7 kc_X7_145) ?_
    exact S_iret rfl hO hQ dX7_boys_9 rfl
  · refine S_ (R_iload_n hO dX7_boys_10 rfl) ?_
    refine S_ (R_iconst (v := (0 : Int32)) hO dX7_boys_11 (by decide)) ?_
    refine S_ (R_iconst (v := (4 : Int32)) hO dX7_boys_12 (by decide)) ?_
    refine S_callSI (rest := []) hO dX7_boys_13 (cs_X7_within p1 (0 : Int32) (4 : Int32) s2) (by omega) lk_X7_66 np_X7_within rfl (Nat.le_of_ble_eq_true rfl) (fun x3 s4 => ?_)
    refine S_if_eq (tgt := 29) hO dX7_boys_16 (by decide) ?_ ?_
    · refine S_ (R_iload_n hO dX7_boys_19 rfl) ?_
      refine S_ (R_iconst (v := (1 : Int32)) hO dX7_boys_20 (by decide)) ?_
      refine S_ (R_bipush (v := (20 : Int32)) hO dX7_boys_21 (by decide)) ?_
      refine S_callSI (rest := []) hO dX7_boys_23 (cs_X7_within p2 (1 : Int32) (20 : Int32) s4) (by omega) lk_X7_66 np_X7_within rfl (Nat.le_of_ble_eq_true rfl) (fun x5 s6 => ?_)
      refine S_if_ne (tgt := 32) hO dX7_boys_26 (by decide) ?_ ?_
      · refine S_ (R_ldc (v := (-1000001 : Int32)) hO dX7_boys_29 kc_X7_70) ?_
        exact S_iret rfl hO hQ dX7_boys_31 rfl
      · refine S_ (R_aload_n hO dX7_boys_32 rfl) ?_
        refine S_getR hO dX7_boys_33 fl_X7_43 sh_0 rfl ?_
        refine S_getR hO dX7_boys_36 fl_X7_234 sh_111 rfl ?_
        refine S_ (R_aload_n hO dX7_boys_39 rfl) ?_
        refine S_getR hO dX7_boys_40 fl_X7_25 sh_0 rfl ?_
        refine S_callVV (rest := []) hO dX7_boys_43 (cs_X5_take 116 isSt_116 8 isSt_8 s6) (by omega) lk_X7_134 np_X5_take (rc_St isSt_116 rfl) rfl (Nat.le_of_ble_eq_true rfl) (fun s8 => ?_)
        refine S_ (R_aload_n hO dX7_boys_46 rfl) ?_
        refine S_getR hO dX7_boys_47 fl_X7_43 sh_0 rfl ?_
        refine S_ (R_iconst (v := (0 : Int32)) hO dX7_boys_50 (by decide)) ?_
        refine S_ (R_iload_n hO dX7_boys_51 rfl) ?_
        refine S_ (R_iload_n hO dX7_boys_52 rfl) ?_
        refine S_callNI (rest := []) hO dX7_boys_53 (cs_X2_play 9 (0 : Int32) p1 p2 s8) (by omega) lk_X7_237 np_X2_play rfl (Nat.le_of_ble_eq_true rfl) (fun x9 s10 => ?_)
        exact S_iret rfl hO hQ dX7_boys_56 rfl
    · refine S_ (R_ldc (v := (-1000001 : Int32)) hO dX7_boys_29 kc_X7_70) ?_
      exact S_iret rfl hO hQ dX7_boys_31 rfl
def f_X7_string (p1 : Int32) (p2 : Int32) (s0 : Mem) : Option (Int32 × Mem) := bd2 (f_X7_isHouse p1 s0) fun x1 s2 => if x1 = 0 then (some ((-1000001 : Int32), s2)) else bd2 (f_X7_within p2 (0 : Int32) (999 : Int32) s2) fun x3 s4 => if x3 = 0 then (some ((-1000001 : Int32), s4)) else bd2 (f_X5_yards 8 p1 p2 s4) fun x5 s6 => some (x5, s6)
theorem cs_X7_string (p1 : Int32) (p2 : Int32) (s0 : Mem) : CS 3 MX7_string [.ref 0, .int p1, .int p2] s0 ((f_X7_string p1 p2 s0).map wI) := by
  refine CS.of (by decide +kernel) (Nat.le_of_ble_eq_true rfl) (fun X Z hO hQ => ?_)
  show SIM X MX7_string wI Z 0 [(0, .ref 0), (1, .int p1), (2, .int p2)] [] s0 _
  unfold f_X7_string
  refine S_ (R_aload_n hO dX7_string_0 rfl) ?_
  refine S_ (R_iload_n hO dX7_string_1 rfl) ?_
  refine S_callVI (rest := []) hO dX7_string_2 (cs_X7_isHouse p1 s0) (by omega) lk_X7_166 np_X7_isHouse (rc_0 rfl) rfl (Nat.le_of_ble_eq_true rfl) (fun x1 s2 => ?_)
  refine S_if_eq (tgt := 19) hO dX7_string_5 (by decide) ?_ ?_
  · refine S_ (R_iload_n hO dX7_string_8 rfl) ?_
    refine S_ (R_iconst (v := (0 : Int32)) hO dX7_string_9 (by decide)) ?_
    refine S_ (R_sipush (v := (999 : Int32)) hO dX7_string_10 (by decide)) ?_
    refine S_callSI (rest := []) hO dX7_string_13 (cs_X7_within p2 (0 : Int32) (999 : Int32) s2) (by omega) lk_X7_66 np_X7_within rfl (Nat.le_of_ble_eq_true rfl) (fun x3 s4 => ?_)
    refine S_if_ne (tgt := 22) hO dX7_string_16 (by decide) ?_ ?_
    · refine S_ (R_ldc (v := (-1000001 : Int32)) hO dX7_string_19 kc_X7_70) ?_
      exact S_iret rfl hO hQ dX7_string_21 rfl
    · refine S_ (R_aload_n hO dX7_string_22 rfl) ?_
      refine S_getR hO dX7_string_23 fl_X7_25 sh_0 rfl ?_
      refine S_ (R_iload_n hO dX7_string_26 rfl) ?_
      refine S_ (R_iload_n hO dX7_string_27 rfl) ?_
      refine S_callVI (rest := []) hO dX7_string_28 (cs_X5_yards 8 isSt_8 p1 p2 s4) (by omega) lk_X7_241 np_X5_yards (rc_St isSt_8 rfl) rfl (Nat.le_of_ble_eq_true rfl) (fun x5 s6 => ?_)
      exact S_iret rfl hO hQ dX7_string_31 rfl
  · refine S_ (R_ldc (v := (-1000001 : Int32)) hO dX7_string_19 kc_X7_70) ?_
    exact S_iret rfl hO hQ dX7_string_21 rfl
def f_X7_who_140 (p1 : Int32) (p2 : Int32) (p3 : Int32) (p4 : Int32) (p5 : Int32) (t0 : Int32) (s0 : Mem) : Option (Int32 × Mem) := bd2 (f_X7_fine t0 s0) fun x1 s2 => some (x1, s2)
theorem w_X7_who_140 {X : CX} {Z : Option Value × Mem → Prop} (hO : OKX X false 6 MX7_who) (hQ : OKS X Z) (p1 : Int32) (p2 : Int32) (p3 : Int32) (p4 : Int32) (p5 : Int32) (t0 : Int32) (s0 : Mem) : SIM X MX7_who wI Z 140 [] [.int t0, .ref 0] s0 (f_X7_who_140 p1 p2 p3 p4 p5 t0 s0) := by
  unfold f_X7_who_140
  refine S_callVI (rest := []) hO dX7_who_140 (cs_X7_fine t0 s0) (by omega) lk_X7_79 np_X7_fine (rc_0 rfl) rfl (Nat.le_of_ble_eq_true rfl) (fun x1 s2 => ?_)
  exact S_iret rfl hO hQ dX7_who_143 rfl
def f_X7_who (p1 : Int32) (p2 : Int32) (p3 : Int32) (p4 : Int32) (p5 : Int32) (s0 : Mem) : Option (Int32 × Mem) := bd2 (f_X7_isHouse p1 s0) fun x1 s2 => if x1 = 0 then (some ((-1000001 : Int32), s2)) else bd2 (f_X7_within p2 (0 : Int32) (4 : Int32) s2) fun x3 s4 => if x3 = 0 then (some ((-1000001 : Int32), s4)) else bd2 (f_X7_isRow p3 s4) fun x5 s6 => if x5 = 0 then (some ((-1000001 : Int32), s6)) else bd2 (f_X7_within p5 (1 : Int32) (12 : Int32) s6) fun x7 s8 => if x7 = 0 then (some ((-1000001 : Int32), s8)) else ing p3 8 <| bd2 (f_X4_spanFinding (159 + 2 * p3.toNatClampNeg) p4 p5 s8) fun x9 s10 => lt (x9) fun x11 => if x11 = 0 then (ing p3 8 <| bd (f_X2_listen (159 + 2 * p3.toNatClampNeg + 1) p4 p5 s10) fun s15 => if p2 = 0 then (bd2 (f_X2_kindsHeard 8 p1 s15) fun x16 s17 => bd2 (f_X7_fine x16 s17) fun x18 s19 => some (x18, s19)) else if p2 = (1 : Int32) then (bd2 (f_X2_rubsHeard 8 p1 s15) fun x20 s21 => f_X7_who_140 p1 p2 p3 p4 p5 x20 s21) else bd2 (f_X2_spinsHeard 8 p1 p2 s15) fun x22 s23 => f_X7_who_140 p1 p2 p3 p4 p5 x22 s23) else bd2 (f_X7_found x11 s10) fun x12 s13 => some (x12, s13)
theorem cs_X7_who (p1 : Int32) (p2 : Int32) (p3 : Int32) (p4 : Int32) (p5 : Int32) (s0 : Mem) : CS 6 MX7_who [.ref 0, .int p1, .int p2, .int p3, .int p4, .int p5] s0 ((f_X7_who p1 p2 p3 p4 p5 s0).map wI) := by
  refine CS.of (by decide +kernel) (Nat.le_of_ble_eq_true rfl) (fun X Z hO hQ => ?_)
  show SIM X MX7_who wI Z 0 [(0, .ref 0), (1, .int p1), (2, .int p2), (3, .int p3), (4, .int p4), (5, .int p5)] [] s0 _
  unfold f_X7_who
  refine S_ (R_aload_n hO dX7_who_0 rfl) ?_
  refine S_ (R_iload_n hO dX7_who_1 rfl) ?_
  refine S_callVI (rest := []) hO dX7_who_2 (cs_X7_isHouse p1 s0) (by omega) lk_X7_166 np_X7_isHouse (rc_0 rfl) rfl (Nat.le_of_ble_eq_true rfl) (fun x1 s2 => ?_)
  refine S_if_eq (tgt := 35) hO dX7_who_5 (by decide) ?_ ?_
  · refine S_ (R_iload_n hO dX7_who_8 rfl) ?_
    refine S_ (R_iconst (v := (0 : Int32)) hO dX7_who_9 (by decide)) ?_
    refine S_ (R_iconst (v := (4 : Int32)) hO dX7_who_10 (by decide)) ?_
    refine S_callSI (rest := []) hO dX7_who_11 (cs_X7_within p2 (0 : Int32) (4 : Int32) s2) (by omega) lk_X7_66 np_X7_within rfl (Nat.le_of_ble_eq_true rfl) (fun x3 s4 => ?_)
    refine S_if_eq (tgt := 35) hO dX7_who_14 (by decide) ?_ ?_
    · refine S_ (R_iload_n hO dX7_who_17 rfl) ?_
      refine S_callSI (rest := []) hO dX7_who_18 (cs_X7_isRow p3 s4) (by omega) lk_X7_62 np_X7_isRow rfl (Nat.le_of_ble_eq_true rfl) (fun x5 s6 => ?_)
      refine S_if_eq (tgt := 35) hO dX7_who_21 (by decide) ?_ ?_
      · refine S_ (R_iload hO dX7_who_24 rfl) ?_
        refine S_ (R_iconst (v := (1 : Int32)) hO dX7_who_26 (by decide)) ?_
        refine S_ (R_bipush (v := (12 : Int32)) hO dX7_who_27 (by decide)) ?_
        refine S_callSI (rest := []) hO dX7_who_29 (cs_X7_within p5 (1 : Int32) (12 : Int32) s6) (by omega) lk_X7_66 np_X7_within rfl (Nat.le_of_ble_eq_true rfl) (fun x7 s8 => ?_)
        refine S_if_ne (tgt := 38) hO dX7_who_32 (by decide) ?_ ?_
        · refine S_ (R_ldc (v := (-1000001 : Int32)) hO dX7_who_35 kc_X7_70) ?_
          exact S_iret rfl hO hQ dX7_who_37 rfl
        · refine S_ (R_aload_n hO dX7_who_38 rfl) ?_
          refine S_getR hO dX7_who_39 fl_X7_11 sh_0 rfl ?_
          refine S_ (R_iload_n hO dX7_who_42 rfl) ?_
          refine S_aald (n := 8) (b0 := 159) (s0 := 2) hO dX7_who_43 (Or.inr rfl) sh_1 (fun hl1 => ?_)
          refine S_ (R_iload hO dX7_who_44 rfl) ?_
          refine S_ (R_iload hO dX7_who_46 rfl) ?_
          refine S_callVI (rest := []) hO dX7_who_48 (cs_X4_spanFinding (159 + 2 * p3.toNatClampNeg) (is_1 hl1) p4 p5 s8) (by omega) lk_X7_82 np_X4_spanFinding (rc_Rw (is_1 hl1) rfl) rfl (Nat.le_of_ble_eq_true rfl) (fun x9 s10 => ?_)
          refine S_istore (L2 := fun x11 => [(6, .int x11), (0, .ref 0), (1, .int p1), (2, .int p2), (3, .int p3), (4, .int p4), (5, .int p5)]) hO dX7_who_51 (Nat.le_of_ble_eq_true rfl) (fun _ => rfl) (fun x11 => ?_)
          refine S_ (R_iload hO dX7_who_53 rfl) ?_
          refine S_if_eq (tgt := 65) hO dX7_who_55 (by decide) ?_ ?_
          · refine S_ (R_aload_n hO dX7_who_58 rfl) ?_
            refine S_ (R_iload hO dX7_who_59 rfl) ?_
            refine S_callVI (rest := []) hO dX7_who_61 (cs_X7_found x11 s10) (by omega) lk_X7_71 np_X7_found (rc_0 rfl) rfl (Nat.le_of_ble_eq_true rfl) (fun x12 s13 => ?_)
            exact S_iret rfl hO hQ dX7_who_64 rfl
          · refine S_ (R_aload_n hO dX7_who_65 rfl) ?_
            refine S_getR hO dX7_who_66 fl_X7_43 sh_0 rfl ?_
            refine S_ (R_aload_n hO dX7_who_69 rfl) ?_
            refine S_getR hO dX7_who_70 fl_X7_11 sh_0 rfl ?_
            refine S_ (R_iload_n hO dX7_who_73 rfl) ?_
            refine S_aald (n := 8) (b0 := 159) (s0 := 2) hO dX7_who_74 (Or.inr rfl) sh_1 (fun hl2 => ?_)
            refine S_getR hO dX7_who_75 fl_X7_93 (is_1 hl2).1 rfl ?_
            refine S_ (R_iload hO dX7_who_78 rfl) ?_
            refine S_ (R_iload hO dX7_who_80 rfl) ?_
            refine S_callVV (rest := []) hO dX7_who_82 (cs_X2_listen (159 + 2 * p3.toNatClampNeg + 1) ((is_1 hl2).2) p4 p5 s10) (by omega) lk_X7_244 np_X2_listen (rc_111 rfl) rfl (Nat.le_of_ble_eq_true rfl) (fun s15 => ?_)
            refine S_ (R_iload_n hO dX7_who_85 rfl) ?_
            refine S_if_ne (tgt := 106) hO dX7_who_86 (by decide) ?_ ?_
            · refine S_ (R_aload_n hO dX7_who_89 rfl) ?_
              refine S_ (R_aload_n hO dX7_who_90 rfl) ?_
              refine S_getR hO dX7_who_91 fl_X7_43 sh_0 rfl ?_
              refine S_ (R_aload_n hO dX7_who_94 rfl) ?_
              refine S_getR hO dX7_who_95 fl_X7_25 sh_0 rfl ?_
              refine S_ (R_iload_n hO dX7_who_98 rfl) ?_
              refine S_callVI (rest := [.ref 0]) hO dX7_who_99 (cs_X2_kindsHeard 8 isSt_8 p1 s15) (by omega) lk_X7_248 np_X2_kindsHeard (rc_111 rfl) rfl (Nat.le_of_ble_eq_true rfl) (fun x16 s17 => ?_)
              refine S_callVI (rest := []) hO dX7_who_102 (cs_X7_fine x16 s17) (by omega) lk_X7_79 np_X7_fine (rc_0 rfl) rfl (Nat.le_of_ble_eq_true rfl) (fun x18 s19 => ?_)
              exact S_iret rfl hO hQ dX7_who_105 rfl
            · refine S_ (R_aload_n hO dX7_who_106 rfl) ?_
              refine S_ (R_iload_n hO dX7_who_107 rfl) ?_
              refine S_ (R_iconst (v := (1 : Int32)) hO dX7_who_108 (by decide)) ?_
              refine S_icmp_ne (tgt := 127) hO dX7_who_109 (by decide) ?_ ?_
              · refine S_ (R_aload_n hO dX7_who_112 rfl) ?_
                refine S_getR hO dX7_who_113 fl_X7_43 sh_0 rfl ?_
                refine S_ (R_aload_n hO dX7_who_116 rfl) ?_
                refine S_getR hO dX7_who_117 fl_X7_25 sh_0 rfl ?_
                refine S_ (R_iload_n hO dX7_who_120 rfl) ?_
                refine S_callVI (rest := [.ref 0]) hO dX7_who_121 (cs_X2_rubsHeard 8 isSt_8 p1 s15) (by omega) lk_X7_251 np_X2_rubsHeard (rc_111 rfl) rfl (Nat.le_of_ble_eq_true rfl) (fun x20 s21 => ?_)
                refine S_ (R_goto (tgt := 140) hO dX7_who_124 (by decide)) ?_
                refine S_sub [] rfl ?_
                exact w_X7_who_140 hO hQ p1 p2 p3 p4 p5 x20 s21
              · refine S_ (R_aload_n hO dX7_who_127 rfl) ?_
                refine S_getR hO dX7_who_128 fl_X7_43 sh_0 rfl ?_
                refine S_ (R_aload_n hO dX7_who_131 rfl) ?_
                refine S_getR hO dX7_who_132 fl_X7_25 sh_0 rfl ?_
                refine S_ (R_iload_n hO dX7_who_135 rfl) ?_
                refine S_ (R_iload_n hO dX7_who_136 rfl) ?_
                refine S_callVI (rest := [.ref 0]) hO dX7_who_137 (cs_X2_spinsHeard 8 isSt_8 p1 p2 s15) (by omega) lk_X7_254 np_X2_spinsHeard (rc_111 rfl) rfl (Nat.le_of_ble_eq_true rfl) (fun x22 s23 => ?_)
                refine S_sub [] rfl ?_
                exact w_X7_who_140 hO hQ p1 p2 p3 p4 p5 x22 s23
      · refine S_ (R_ldc (v := (-1000001 : Int32)) hO dX7_who_35 kc_X7_70) ?_
        exact S_iret rfl hO hQ dX7_who_37 rfl
    · refine S_ (R_ldc (v := (-1000001 : Int32)) hO dX7_who_35 kc_X7_70) ?_
      exact S_iret rfl hO hQ dX7_who_37 rfl
  · refine S_ (R_ldc (v := (-1000001 : Int32)) hO dX7_who_35 kc_X7_70) ?_
    exact S_iret rfl hO hQ dX7_who_37 rfl
def f_X7_finger (p1 : Int32) (p2 : Int32) (p3 : Int32) (p4 : Int32) (s0 : Mem) : Option (Int32 × Mem) := bd2 (f_X7_isHouse p1 s0) fun x1 s2 => if x1 = 0 then (some ((-1000001 : Int32), s2)) else bd2 (f_X7_isRow p2 s2) fun x3 s4 => if x3 = 0 then (some ((-1000001 : Int32), s4)) else bd2 (f_X7_within p4 (1 : Int32) (12 : Int32) s4) fun x5 s6 => if x5 = 0 then (some ((-1000001 : Int32), s6)) else ing p2 8 <| bd2 (f_X4_spanFinding (159 + 2 * p2.toNatClampNeg) p3 p4 s6) fun x7 s8 => lt (x7) fun x9 => if x9 = 0 then (ing p2 8 <| bd (f_X2_listen (159 + 2 * p2.toNatClampNeg + 1) p3 p4 s8) fun s13 => bd2 (f_X2_fingersHeard 8 p1 s13) fun x14 s15 => bd2 (f_X7_fine x14 s15) fun x16 s17 => some (x16, s17)) else bd2 (f_X7_found x9 s8) fun x10 s11 => some (x10, s11)
theorem cs_X7_finger (p1 : Int32) (p2 : Int32) (p3 : Int32) (p4 : Int32) (s0 : Mem) : CS 6 MX7_finger [.ref 0, .int p1, .int p2, .int p3, .int p4] s0 ((f_X7_finger p1 p2 p3 p4 s0).map wI) := by
  refine CS.of (by decide +kernel) (Nat.le_of_ble_eq_true rfl) (fun X Z hO hQ => ?_)
  show SIM X MX7_finger wI Z 0 [(0, .ref 0), (1, .int p1), (2, .int p2), (3, .int p3), (4, .int p4)] [] s0 _
  unfold f_X7_finger
  refine S_ (R_aload_n hO dX7_finger_0 rfl) ?_
  refine S_ (R_iload_n hO dX7_finger_1 rfl) ?_
  refine S_callVI (rest := []) hO dX7_finger_2 (cs_X7_isHouse p1 s0) (by omega) lk_X7_166 np_X7_isHouse (rc_0 rfl) rfl (Nat.le_of_ble_eq_true rfl) (fun x1 s2 => ?_)
  refine S_if_eq (tgt := 26) hO dX7_finger_5 (by decide) ?_ ?_
  · refine S_ (R_iload_n hO dX7_finger_8 rfl) ?_
    refine S_callSI (rest := []) hO dX7_finger_9 (cs_X7_isRow p2 s2) (by omega) lk_X7_62 np_X7_isRow rfl (Nat.le_of_ble_eq_true rfl) (fun x3 s4 => ?_)
    refine S_if_eq (tgt := 26) hO dX7_finger_12 (by decide) ?_ ?_
    · refine S_ (R_iload hO dX7_finger_15 rfl) ?_
      refine S_ (R_iconst (v := (1 : Int32)) hO dX7_finger_17 (by decide)) ?_
      refine S_ (R_bipush (v := (12 : Int32)) hO dX7_finger_18 (by decide)) ?_
      refine S_callSI (rest := []) hO dX7_finger_20 (cs_X7_within p4 (1 : Int32) (12 : Int32) s4) (by omega) lk_X7_66 np_X7_within rfl (Nat.le_of_ble_eq_true rfl) (fun x5 s6 => ?_)
      refine S_if_ne (tgt := 29) hO dX7_finger_23 (by decide) ?_ ?_
      · refine S_ (R_ldc (v := (-1000001 : Int32)) hO dX7_finger_26 kc_X7_70) ?_
        exact S_iret rfl hO hQ dX7_finger_28 rfl
      · refine S_ (R_aload_n hO dX7_finger_29 rfl) ?_
        refine S_getR hO dX7_finger_30 fl_X7_11 sh_0 rfl ?_
        refine S_ (R_iload_n hO dX7_finger_33 rfl) ?_
        refine S_aald (n := 8) (b0 := 159) (s0 := 2) hO dX7_finger_34 (Or.inr rfl) sh_1 (fun hl1 => ?_)
        refine S_ (R_iload_n hO dX7_finger_35 rfl) ?_
        refine S_ (R_iload hO dX7_finger_36 rfl) ?_
        refine S_callVI (rest := []) hO dX7_finger_38 (cs_X4_spanFinding (159 + 2 * p2.toNatClampNeg) (is_1 hl1) p3 p4 s6) (by omega) lk_X7_82 np_X4_spanFinding (rc_Rw (is_1 hl1) rfl) rfl (Nat.le_of_ble_eq_true rfl) (fun x7 s8 => ?_)
        refine S_istore (L2 := fun x9 => [(5, .int x9), (0, .ref 0), (1, .int p1), (2, .int p2), (3, .int p3), (4, .int p4)]) hO dX7_finger_41 (Nat.le_of_ble_eq_true rfl) (fun _ => rfl) (fun x9 => ?_)
        refine S_ (R_iload hO dX7_finger_43 rfl) ?_
        refine S_if_eq (tgt := 55) hO dX7_finger_45 (by decide) ?_ ?_
        · refine S_ (R_aload_n hO dX7_finger_48 rfl) ?_
          refine S_ (R_iload hO dX7_finger_49 rfl) ?_
          refine S_callVI (rest := []) hO dX7_finger_51 (cs_X7_found x9 s8) (by omega) lk_X7_71 np_X7_found (rc_0 rfl) rfl (Nat.le_of_ble_eq_true rfl) (fun x10 s11 => ?_)
          exact S_iret rfl hO hQ dX7_finger_54 rfl
        · refine S_ (R_aload_n hO dX7_finger_55 rfl) ?_
          refine S_getR hO dX7_finger_56 fl_X7_43 sh_0 rfl ?_
          refine S_ (R_aload_n hO dX7_finger_59 rfl) ?_
          refine S_getR hO dX7_finger_60 fl_X7_11 sh_0 rfl ?_
          refine S_ (R_iload_n hO dX7_finger_63 rfl) ?_
          refine S_aald (n := 8) (b0 := 159) (s0 := 2) hO dX7_finger_64 (Or.inr rfl) sh_1 (fun hl2 => ?_)
          refine S_getR hO dX7_finger_65 fl_X7_93 (is_1 hl2).1 rfl ?_
          refine S_ (R_iload_n hO dX7_finger_68 rfl) ?_
          refine S_ (R_iload hO dX7_finger_69 rfl) ?_
          refine S_callVV (rest := []) hO dX7_finger_71 (cs_X2_listen (159 + 2 * p2.toNatClampNeg + 1) ((is_1 hl2).2) p3 p4 s8) (by omega) lk_X7_244 np_X2_listen (rc_111 rfl) rfl (Nat.le_of_ble_eq_true rfl) (fun s13 => ?_)
          refine S_ (R_aload_n hO dX7_finger_74 rfl) ?_
          refine S_ (R_aload_n hO dX7_finger_75 rfl) ?_
          refine S_getR hO dX7_finger_76 fl_X7_43 sh_0 rfl ?_
          refine S_ (R_aload_n hO dX7_finger_79 rfl) ?_
          refine S_getR hO dX7_finger_80 fl_X7_25 sh_0 rfl ?_
          refine S_ (R_iload_n hO dX7_finger_83 rfl) ?_
          refine S_callVI (rest := [.ref 0]) hO dX7_finger_84 (cs_X2_fingersHeard 8 isSt_8 p1 s13) (by omega) lk_X7_257 np_X2_fingersHeard (rc_111 rfl) rfl (Nat.le_of_ble_eq_true rfl) (fun x14 s15 => ?_)
          refine S_callVI (rest := []) hO dX7_finger_87 (cs_X7_fine x14 s15) (by omega) lk_X7_79 np_X7_fine (rc_0 rfl) rfl (Nat.le_of_ble_eq_true rfl) (fun x16 s17 => ?_)
          exact S_iret rfl hO hQ dX7_finger_90 rfl
    · refine S_ (R_ldc (v := (-1000001 : Int32)) hO dX7_finger_26 kc_X7_70) ?_
      exact S_iret rfl hO hQ dX7_finger_28 rfl
  · refine S_ (R_ldc (v := (-1000001 : Int32)) hO dX7_finger_26 kc_X7_70) ?_
    exact S_iret rfl hO hQ dX7_finger_28 rfl
def f_X7_lashes (p1 : Int32) (p2 : Int32) (p3 : Int32) (p4 : Int32) (p5 : Int32) (s0 : Mem) : Option (Int32 × Mem) := bd2 (f_X7_isHouse p1 s0) fun x1 s2 => if x1 = 0 then (some ((-1000001 : Int32), s2)) else bd2 (f_X7_isHouse p2 s2) fun x3 s4 => if x3 = 0 then (some ((-1000001 : Int32), s4)) else bd2 (f_X7_isRow p3 s4) fun x5 s6 => if x5 = 0 then (some ((-1000001 : Int32), s6)) else bd2 (f_X7_within p5 (1 : Int32) (12 : Int32) s6) fun x7 s8 => if x7 = 0 then (some ((-1000001 : Int32), s8)) else ing p2 8 <| if (s8 (8 + 3) p2.toNatClampNeg) = 0 then (some ((-1000002 : Int32), s8)) else ing p3 8 <| bd2 (f_X4_spanFinding (159 + 2 * p3.toNatClampNeg) p4 p5 s8) fun x9 s10 => lt (x9) fun x11 => if x11 = 0 then (ing p3 8 <| bd (f_X2_listen (159 + 2 * p3.toNatClampNeg + 1) p4 p5 s10) fun s15 => bd2 (f_X2_lashesHeard 8 p1 p2 s15) fun x16 s17 => bd2 (f_X7_fine x16 s17) fun x18 s19 => some (x18, s19)) else bd2 (f_X7_found x11 s10) fun x12 s13 => some (x12, s13)
theorem cs_X7_lashes (p1 : Int32) (p2 : Int32) (p3 : Int32) (p4 : Int32) (p5 : Int32) (s0 : Mem) : CS 6 MX7_lashes [.ref 0, .int p1, .int p2, .int p3, .int p4, .int p5] s0 ((f_X7_lashes p1 p2 p3 p4 p5 s0).map wI) := by
  refine CS.of (by decide +kernel) (Nat.le_of_ble_eq_true rfl) (fun X Z hO hQ => ?_)
  show SIM X MX7_lashes wI Z 0 [(0, .ref 0), (1, .int p1), (2, .int p2), (3, .int p3), (4, .int p4), (5, .int p5)] [] s0 _
  unfold f_X7_lashes
  refine S_ (R_aload_n hO dX7_lashes_0 rfl) ?_
  refine S_ (R_iload_n hO dX7_lashes_1 rfl) ?_
  refine S_callVI (rest := []) hO dX7_lashes_2 (cs_X7_isHouse p1 s0) (by omega) lk_X7_166 np_X7_isHouse (rc_0 rfl) rfl (Nat.le_of_ble_eq_true rfl) (fun x1 s2 => ?_)
  refine S_if_eq (tgt := 34) hO dX7_lashes_5 (by decide) ?_ ?_
  · refine S_ (R_aload_n hO dX7_lashes_8 rfl) ?_
    refine S_ (R_iload_n hO dX7_lashes_9 rfl) ?_
    refine S_callVI (rest := []) hO dX7_lashes_10 (cs_X7_isHouse p2 s2) (by omega) lk_X7_166 np_X7_isHouse (rc_0 rfl) rfl (Nat.le_of_ble_eq_true rfl) (fun x3 s4 => ?_)
    refine S_if_eq (tgt := 34) hO dX7_lashes_13 (by decide) ?_ ?_
    · refine S_ (R_iload_n hO dX7_lashes_16 rfl) ?_
      refine S_callSI (rest := []) hO dX7_lashes_17 (cs_X7_isRow p3 s4) (by omega) lk_X7_62 np_X7_isRow rfl (Nat.le_of_ble_eq_true rfl) (fun x5 s6 => ?_)
      refine S_if_eq (tgt := 34) hO dX7_lashes_20 (by decide) ?_ ?_
      · refine S_ (R_iload hO dX7_lashes_23 rfl) ?_
        refine S_ (R_iconst (v := (1 : Int32)) hO dX7_lashes_25 (by decide)) ?_
        refine S_ (R_bipush (v := (12 : Int32)) hO dX7_lashes_26 (by decide)) ?_
        refine S_callSI (rest := []) hO dX7_lashes_28 (cs_X7_within p5 (1 : Int32) (12 : Int32) s6) (by omega) lk_X7_66 np_X7_within rfl (Nat.le_of_ble_eq_true rfl) (fun x7 s8 => ?_)
        refine S_if_ne (tgt := 37) hO dX7_lashes_31 (by decide) ?_ ?_
        · refine S_ (R_ldc (v := (-1000001 : Int32)) hO dX7_lashes_34 kc_X7_70) ?_
          exact S_iret rfl hO hQ dX7_lashes_36 rfl
        · refine S_ (R_aload_n hO dX7_lashes_37 rfl) ?_
          refine S_getR hO dX7_lashes_38 fl_X7_25 sh_0 rfl ?_
          refine S_getR hO dX7_lashes_41 fl_X7_169 isSt_8.1 rfl ?_
          refine S_ (R_iload_n hO dX7_lashes_44 rfl) ?_
          refine S_iald hO dX7_lashes_45 isSt_8.2.2.2 ?_
          refine S_if_ne (tgt := 52) hO dX7_lashes_46 (by decide) ?_ ?_
          · refine S_ (R_ldc (v := (-1000002 : Int32)) hO dX7_lashes_49 kc_X7_145) ?_
            exact S_iret rfl hO hQ dX7_lashes_51 rfl
          · refine S_ (R_aload_n hO dX7_lashes_52 rfl) ?_
            refine S_getR hO dX7_lashes_53 fl_X7_11 sh_0 rfl ?_
            refine S_ (R_iload_n hO dX7_lashes_56 rfl) ?_
            refine S_aald (n := 8) (b0 := 159) (s0 := 2) hO dX7_lashes_57 (Or.inr rfl) sh_1 (fun hl1 => ?_)
            refine S_ (R_iload hO dX7_lashes_58 rfl) ?_
            refine S_ (R_iload hO dX7_lashes_60 rfl) ?_
            refine S_callVI (rest := []) hO dX7_lashes_62 (cs_X4_spanFinding (159 + 2 * p3.toNatClampNeg) (is_1 hl1) p4 p5 s8) (by omega) lk_X7_82 np_X4_spanFinding (rc_Rw (is_1 hl1) rfl) rfl (Nat.le_of_ble_eq_true rfl) (fun x9 s10 => ?_)
            refine S_istore (L2 := fun x11 => [(6, .int x11), (0, .ref 0), (1, .int p1), (2, .int p2), (3, .int p3), (4, .int p4), (5, .int p5)]) hO dX7_lashes_65 (Nat.le_of_ble_eq_true rfl) (fun _ => rfl) (fun x11 => ?_)
            refine S_ (R_iload hO dX7_lashes_67 rfl) ?_
            refine S_if_eq (tgt := 79) hO dX7_lashes_69 (by decide) ?_ ?_
            · refine S_ (R_aload_n hO dX7_lashes_72 rfl) ?_
              refine S_ (R_iload hO dX7_lashes_73 rfl) ?_
              refine S_callVI (rest := []) hO dX7_lashes_75 (cs_X7_found x11 s10) (by omega) lk_X7_71 np_X7_found (rc_0 rfl) rfl (Nat.le_of_ble_eq_true rfl) (fun x12 s13 => ?_)
              exact S_iret rfl hO hQ dX7_lashes_78 rfl
            · refine S_ (R_aload_n hO dX7_lashes_79 rfl) ?_
              refine S_getR hO dX7_lashes_80 fl_X7_43 sh_0 rfl ?_
              refine S_ (R_aload_n hO dX7_lashes_83 rfl) ?_
              refine S_getR hO dX7_lashes_84 fl_X7_11 sh_0 rfl ?_
              refine S_ (R_iload_n hO dX7_lashes_87 rfl) ?_
              refine S_aald (n := 8) (b0 := 159) (s0 := 2) hO dX7_lashes_88 (Or.inr rfl) sh_1 (fun hl2 => ?_)
              refine S_getR hO dX7_lashes_89 fl_X7_93 (is_1 hl2).1 rfl ?_
              refine S_ (R_iload hO dX7_lashes_92 rfl) ?_
              refine S_ (R_iload hO dX7_lashes_94 rfl) ?_
              refine S_callVV (rest := []) hO dX7_lashes_96 (cs_X2_listen (159 + 2 * p3.toNatClampNeg + 1) ((is_1 hl2).2) p4 p5 s10) (by omega) lk_X7_244 np_X2_listen (rc_111 rfl) rfl (Nat.le_of_ble_eq_true rfl) (fun s15 => ?_)
              refine S_ (R_aload_n hO dX7_lashes_99 rfl) ?_
              refine S_ (R_aload_n hO dX7_lashes_100 rfl) ?_
              refine S_getR hO dX7_lashes_101 fl_X7_43 sh_0 rfl ?_
              refine S_ (R_aload_n hO dX7_lashes_104 rfl) ?_
              refine S_getR hO dX7_lashes_105 fl_X7_25 sh_0 rfl ?_
              refine S_ (R_iload_n hO dX7_lashes_108 rfl) ?_
              refine S_ (R_iload_n hO dX7_lashes_109 rfl) ?_
              refine S_callVI (rest := [.ref 0]) hO dX7_lashes_110 (cs_X2_lashesHeard 8 isSt_8 p1 p2 s15) (by omega) lk_X7_260 np_X2_lashesHeard (rc_111 rfl) rfl (Nat.le_of_ble_eq_true rfl) (fun x16 s17 => ?_)
              refine S_callVI (rest := []) hO dX7_lashes_113 (cs_X7_fine x16 s17) (by omega) lk_X7_79 np_X7_fine (rc_0 rfl) rfl (Nat.le_of_ble_eq_true rfl) (fun x18 s19 => ?_)
              exact S_iret rfl hO hQ dX7_lashes_116 rfl
      · refine S_ (R_ldc (v := (-1000001 : Int32)) hO dX7_lashes_34 kc_X7_70) ?_
        exact S_iret rfl hO hQ dX7_lashes_36 rfl
    · refine S_ (R_ldc (v := (-1000001 : Int32)) hO dX7_lashes_34 kc_X7_70) ?_
      exact S_iret rfl hO hQ dX7_lashes_36 rfl
  · refine S_ (R_ldc (v := (-1000001 : Int32)) hO dX7_lashes_34 kc_X7_70) ?_
    exact S_iret rfl hO hQ dX7_lashes_36 rfl
def f_X7_crack (p1 : Int32) (p2 : Int32) (p3 : Int32) (p4 : Int32) (s0 : Mem) : Option (Int64 × Mem) := bd2 (f_X7_isHouse p1 s0) fun x1 s2 => if x1 = 0 then (some ((-1000001 : Int64), s2)) else bd2 (f_X7_within p2 (0 : Int32) (30 : Int32) s2) fun x3 s4 => if x3 = 0 then (some ((-1000001 : Int64), s4)) else bd2 (f_X7_within p3 (0 : Int32) (10 : Int32) s4) fun x5 s6 => if x5 = 0 then (some ((-1000001 : Int64), s6)) else bd2 (f_X7_within p4 (0 : Int32) (1 : Int32) s6) fun x7 s8 => if x7 = 0 then (some ((-1000001 : Int64), s8)) else bd2 (f_X2_chance 8 p1 p2 p3 p4 s8) fun x9 s10 => some (x9, s10)
theorem cs_X7_crack (p1 : Int32) (p2 : Int32) (p3 : Int32) (p4 : Int32) (s0 : Mem) : CS 7 MX7_crack [.ref 0, .int p1, .int p2, .int p3, .int p4] s0 ((f_X7_crack p1 p2 p3 p4 s0).map wL) := by
  refine CS.of (by decide +kernel) (Nat.le_of_ble_eq_true rfl) (fun X Z hO hQ => ?_)
  show SIM X MX7_crack wL Z 0 [(0, .ref 0), (1, .int p1), (2, .int p2), (3, .int p3), (4, .int p4)] [] s0 _
  unfold f_X7_crack
  refine S_ (R_aload_n hO dX7_crack_0 rfl) ?_
  refine S_ (R_iload_n hO dX7_crack_1 rfl) ?_
  refine S_callVI (rest := []) hO dX7_crack_2 (cs_X7_isHouse p1 s0) (by omega) lk_X7_166 np_X7_isHouse (rc_0 rfl) rfl (Nat.le_of_ble_eq_true rfl) (fun x1 s2 => ?_)
  refine S_if_eq (tgt := 38) hO dX7_crack_5 (by decide) ?_ ?_
  · refine S_ (R_iload_n hO dX7_crack_8 rfl) ?_
    refine S_ (R_iconst (v := (0 : Int32)) hO dX7_crack_9 (by decide)) ?_
    refine S_ (R_bipush (v := (30 : Int32)) hO dX7_crack_10 (by decide)) ?_
    refine S_callSI (rest := []) hO dX7_crack_12 (cs_X7_within p2 (0 : Int32) (30 : Int32) s2) (by omega) lk_X7_66 np_X7_within rfl (Nat.le_of_ble_eq_true rfl) (fun x3 s4 => ?_)
    refine S_if_eq (tgt := 38) hO dX7_crack_15 (by decide) ?_ ?_
    · refine S_ (R_iload_n hO dX7_crack_18 rfl) ?_
      refine S_ (R_iconst (v := (0 : Int32)) hO dX7_crack_19 (by decide)) ?_
      refine S_ (R_bipush (v := (10 : Int32)) hO dX7_crack_20 (by decide)) ?_
      refine S_callSI (rest := []) hO dX7_crack_22 (cs_X7_within p3 (0 : Int32) (10 : Int32) s4) (by omega) lk_X7_66 np_X7_within rfl (Nat.le_of_ble_eq_true rfl) (fun x5 s6 => ?_)
      refine S_if_eq (tgt := 38) hO dX7_crack_25 (by decide) ?_ ?_
      · refine S_ (R_iload hO dX7_crack_28 rfl) ?_
        refine S_ (R_iconst (v := (0 : Int32)) hO dX7_crack_30 (by decide)) ?_
        refine S_ (R_iconst (v := (1 : Int32)) hO dX7_crack_31 (by decide)) ?_
        refine S_callSI (rest := []) hO dX7_crack_32 (cs_X7_within p4 (0 : Int32) (1 : Int32) s6) (by omega) lk_X7_66 np_X7_within rfl (Nat.le_of_ble_eq_true rfl) (fun x7 s8 => ?_)
        refine S_if_ne (tgt := 42) hO dX7_crack_35 (by decide) ?_ ?_
        · refine S_ (R_ldc2 (v := (-1000001 : Int64)) hO dX7_crack_38 kl_X7_263) ?_
          exact S_lret rfl hO hQ dX7_crack_41 rfl
        · refine S_ (R_aload_n hO dX7_crack_42 rfl) ?_
          refine S_getR hO dX7_crack_43 fl_X7_43 sh_0 rfl ?_
          refine S_ (R_aload_n hO dX7_crack_46 rfl) ?_
          refine S_getR hO dX7_crack_47 fl_X7_25 sh_0 rfl ?_
          refine S_ (R_iload_n hO dX7_crack_50 rfl) ?_
          refine S_ (R_iload_n hO dX7_crack_51 rfl) ?_
          refine S_ (R_iload_n hO dX7_crack_52 rfl) ?_
          refine S_ (R_iload hO dX7_crack_53 rfl) ?_
          refine S_callVL (rest := []) hO dX7_crack_55 (cs_X2_chance 8 isSt_8 p1 p2 p3 p4 s8) (by omega) lk_X7_265 np_X2_chance (rc_111 rfl) rfl (Nat.le_of_ble_eq_true rfl) (fun x9 s10 => ?_)
          exact S_lret rfl hO hQ dX7_crack_58 rfl
      · refine S_ (R_ldc2 (v := (-1000001 : Int64)) hO dX7_crack_38 kl_X7_263) ?_
        exact S_lret rfl hO hQ dX7_crack_41 rfl
    · refine S_ (R_ldc2 (v := (-1000001 : Int64)) hO dX7_crack_38 kl_X7_263) ?_
      exact S_lret rfl hO hQ dX7_crack_41 rfl
  · refine S_ (R_ldc2 (v := (-1000001 : Int64)) hO dX7_crack_38 kl_X7_263) ?_
    exact S_lret rfl hO hQ dX7_crack_41 rfl
def f_X7_drawn (p1 : Int32) (p2 : Int32) (p3 : Int32) (s0 : Mem) : Option (Int32 × Mem) := bd2 (f_X7_noStreet s0) fun x1 s2 => if x1 = 0 then (bd2 (f_X7_within p1 (0 : Int32) (60 : Int32) s2) fun x3 s4 => if x3 = 0 then (some ((-1000001 : Int32), s4)) else bd2 (f_X7_within p2 (1 : Int32) (999999 : Int32) s4) fun x5 s6 => if x5 = 0 then (some ((-1000001 : Int32), s6)) else bd2 (f_X7_within p3 (0 : Int32) (1 : Int32) s6) fun x7 s8 => if x7 = 0 then (some ((-1000001 : Int32), s8)) else bd (f_X2_decades 8 p1 p2 s8) fun s10 => if p3 = 0 then (bd2 (f_X5_standing 112 s10) fun x11 s12 => some (x11, s12)) else bd2 (f_X5_allSpin 112 s10) fun x13 s14 => some (x13, s14)) else some ((-1000002 : Int32), s2)
theorem cs_X7_drawn (p1 : Int32) (p2 : Int32) (p3 : Int32) (s0 : Mem) : CS 5 MX7_drawn [.ref 0, .int p1, .int p2, .int p3] s0 ((f_X7_drawn p1 p2 p3 s0).map wI) := by
  refine CS.of (by decide +kernel) (Nat.le_of_ble_eq_true rfl) (fun X Z hO hQ => ?_)
  show SIM X MX7_drawn wI Z 0 [(0, .ref 0), (1, .int p1), (2, .int p2), (3, .int p3)] [] s0 _
  unfold f_X7_drawn
  refine S_ (R_aload_n hO dX7_drawn_0 rfl) ?_
  refine S_callVI (rest := []) hO dX7_drawn_1 (cs_X7_noStreet s0) (by omega) lk_X7_149 np_X7_noStreet (rc_0 rfl) rfl (Nat.le_of_ble_eq_true rfl) (fun x1 s2 => ?_)
  refine S_if_eq (tgt := 10) hO dX7_drawn_4 (by decide) ?_ ?_
  · refine S_ (R_ldc (v := (-1000002 : Int32)) hO dX7_drawn_7 kc_X7_145) ?_
    exact S_iret rfl hO hQ dX7_drawn_9 rfl
  · refine S_ (R_iload_n hO dX7_drawn_10 rfl) ?_
    refine S_ (R_iconst (v := (0 : Int32)) hO dX7_drawn_11 (by decide)) ?_
    refine S_ (R_bipush (v := (60 : Int32)) hO dX7_drawn_12 (by decide)) ?_
    refine S_callSI (rest := []) hO dX7_drawn_14 (cs_X7_within p1 (0 : Int32) (60 : Int32) s2) (by omega) lk_X7_66 np_X7_within rfl (Nat.le_of_ble_eq_true rfl) (fun x3 s4 => ?_)
    refine S_if_eq (tgt := 40) hO dX7_drawn_17 (by decide) ?_ ?_
    · refine S_ (R_iload_n hO dX7_drawn_20 rfl) ?_
      refine S_ (R_iconst (v := (1 : Int32)) hO dX7_drawn_21 (by decide)) ?_
      refine S_ (R_ldc_w (v := (999999 : Int32)) hO dX7_drawn_22 kc_X7_269) ?_
      refine S_callSI (rest := []) hO dX7_drawn_25 (cs_X7_within p2 (1 : Int32) (999999 : Int32) s4) (by omega) lk_X7_66 np_X7_within rfl (Nat.le_of_ble_eq_true rfl) (fun x5 s6 => ?_)
      refine S_if_eq (tgt := 40) hO dX7_drawn_28 (by decide) ?_ ?_
      · refine S_ (R_iload_n hO dX7_drawn_31 rfl) ?_
        refine S_ (R_iconst (v := (0 : Int32)) hO dX7_drawn_32 (by decide)) ?_
        refine S_ (R_iconst (v := (1 : Int32)) hO dX7_drawn_33 (by decide)) ?_
        refine S_callSI (rest := []) hO dX7_drawn_34 (cs_X7_within p3 (0 : Int32) (1 : Int32) s6) (by omega) lk_X7_66 np_X7_within rfl (Nat.le_of_ble_eq_true rfl) (fun x7 s8 => ?_)
        refine S_if_ne (tgt := 43) hO dX7_drawn_37 (by decide) ?_ ?_
        · refine S_ (R_ldc (v := (-1000001 : Int32)) hO dX7_drawn_40 kc_X7_70) ?_
          exact S_iret rfl hO hQ dX7_drawn_42 rfl
        · refine S_ (R_aload_n hO dX7_drawn_43 rfl) ?_
          refine S_getR hO dX7_drawn_44 fl_X7_43 sh_0 rfl ?_
          refine S_ (R_aload_n hO dX7_drawn_47 rfl) ?_
          refine S_getR hO dX7_drawn_48 fl_X7_25 sh_0 rfl ?_
          refine S_ (R_iload_n hO dX7_drawn_51 rfl) ?_
          refine S_ (R_iload_n hO dX7_drawn_52 rfl) ?_
          refine S_callVR (rest := []) hO dX7_drawn_53 (cs_X2_decades 8 isSt_8 p1 p2 s8) (by omega) lk_X7_270 np_X2_decades (rc_111 rfl) rfl (Nat.le_of_ble_eq_true rfl) (fun s10 => ?_)
          refine S_ (R_astore (L2 := [(4, .ref 112), (0, .ref 0), (1, .int p1), (2, .int p2), (3, .int p3)]) hO dX7_drawn_56 (Nat.le_of_ble_eq_true rfl) rfl) ?_
          refine S_ (R_iload_n hO dX7_drawn_58 rfl) ?_
          refine S_if_ne (tgt := 70) hO dX7_drawn_59 (by decide) ?_ ?_
          · refine S_ (R_aload hO dX7_drawn_62 rfl) ?_
            refine S_callVI (rest := []) hO dX7_drawn_64 (cs_X5_standing 112 isSt_112 s10) (by omega) lk_X7_162 np_X5_standing (rc_St isSt_112 rfl) rfl (Nat.le_of_ble_eq_true rfl) (fun x11 s12 => ?_)
            refine S_ (R_goto (tgt := 75) hO dX7_drawn_67 (by decide)) ?_
            exact S_iret rfl hO hQ dX7_drawn_75 rfl
          · refine S_ (R_aload hO dX7_drawn_70 rfl) ?_
            refine S_callVI (rest := []) hO dX7_drawn_72 (cs_X5_allSpin 112 isSt_112 s10) (by omega) lk_X7_196 np_X5_allSpin (rc_St isSt_112 rfl) rfl (Nat.le_of_ble_eq_true rfl) (fun x13 s14 => ?_)
            exact S_iret rfl hO hQ dX7_drawn_75 rfl
      · refine S_ (R_ldc (v := (-1000001 : Int32)) hO dX7_drawn_40 kc_X7_70) ?_
        exact S_iret rfl hO hQ dX7_drawn_42 rfl
    · refine S_ (R_ldc (v := (-1000001 : Int32)) hO dX7_drawn_40 kc_X7_70) ?_
      exact S_iret rfl hO hQ dX7_drawn_42 rfl
def f_X7_image (p1 : Int32) (s0 : Mem) : Option (Int32 × Mem) := bd2 (f_X7_within p1 (0 : Int32) (1 : Int32) s0) fun x1 s2 => if x1 = 0 then (some ((-1000001 : Int32), s2)) else bd2 (f_X7_noStreet s2) fun x3 s4 => if x3 = 0 then (ing p1 2 <| bd (f_X5_take (175 + 4 * p1.toNatClampNeg) 8 s4) fun s6 => some ((1 : Int32), s6)) else some ((-1000002 : Int32), s4)
theorem cs_X7_image (p1 : Int32) (s0 : Mem) : CS 3 MX7_image [.ref 0, .int p1] s0 ((f_X7_image p1 s0).map wI) := by
  refine CS.of (by decide +kernel) (Nat.le_of_ble_eq_true rfl) (fun X Z hO hQ => ?_)
  show SIM X MX7_image wI Z 0 [(0, .ref 0), (1, .int p1)] [] s0 _
  unfold f_X7_image
  refine S_ (R_iload_n hO dX7_image_0 rfl) ?_
  refine S_ (R_iconst (v := (0 : Int32)) hO dX7_image_1 (by decide)) ?_
  refine S_ (R_iconst (v := (1 : Int32)) hO dX7_image_2 (by decide)) ?_
  refine S_callSI (rest := []) hO dX7_image_3 (cs_X7_within p1 (0 : Int32) (1 : Int32) s0) (by omega) lk_X7_66 np_X7_within rfl (Nat.le_of_ble_eq_true rfl) (fun x1 s2 => ?_)
  refine S_if_ne (tgt := 12) hO dX7_image_6 (by decide) ?_ ?_
  · refine S_ (R_ldc (v := (-1000001 : Int32)) hO dX7_image_9 kc_X7_70) ?_
    exact S_iret rfl hO hQ dX7_image_11 rfl
  · refine S_ (R_aload_n hO dX7_image_12 rfl) ?_
    refine S_callVI (rest := []) hO dX7_image_13 (cs_X7_noStreet s2) (by omega) lk_X7_149 np_X7_noStreet (rc_0 rfl) rfl (Nat.le_of_ble_eq_true rfl) (fun x3 s4 => ?_)
    refine S_if_eq (tgt := 22) hO dX7_image_16 (by decide) ?_ ?_
    · refine S_ (R_ldc (v := (-1000002 : Int32)) hO dX7_image_19 kc_X7_145) ?_
      exact S_iret rfl hO hQ dX7_image_21 rfl
    · refine S_ (R_aload_n hO dX7_image_22 rfl) ?_
      refine S_getR hO dX7_image_23 fl_X7_29 sh_0 rfl ?_
      refine S_ (R_iload_n hO dX7_image_26 rfl) ?_
      refine S_aald (n := 2) (b0 := 175) (s0 := 4) hO dX7_image_27 (Or.inl rfl) sh_12 (fun hl1 => ?_)
      refine S_ (R_aload_n hO dX7_image_28 rfl) ?_
      refine S_getR hO dX7_image_29 fl_X7_25 sh_0 rfl ?_
      refine S_callVV (rest := []) hO dX7_image_32 (cs_X5_take (175 + 4 * p1.toNatClampNeg) (is_12 hl1) 8 isSt_8 s4) (by omega) lk_X7_134 np_X5_take (rc_St (is_12 hl1) rfl) rfl (Nat.le_of_ble_eq_true rfl) (fun s6 => ?_)
      refine S_ (R_iconst (v := (1 : Int32)) hO dX7_image_35 (by decide)) ?_
      exact S_iret rfl hO hQ dX7_image_36 rfl
def f_X7_restore (p1 : Int32) (s0 : Mem) : Option (Int32 × Mem) := bd2 (f_X7_within p1 (0 : Int32) (1 : Int32) s0) fun x1 s2 => if x1 = 0 then (some ((-1000001 : Int32), s2)) else ing p1 2 <| if (s2 (175 + 4 * p1.toNatClampNeg) 3) = 0 then (some ((-1000002 : Int32), s2)) else ing p1 2 <| bd (f_X5_take 8 (175 + 4 * p1.toNatClampNeg) s2) fun s4 => bd (f_X0_forget s4) fun s6 => some ((1 : Int32), s6)
theorem cs_X7_restore (p1 : Int32) (s0 : Mem) : CS 3 MX7_restore [.ref 0, .int p1] s0 ((f_X7_restore p1 s0).map wI) := by
  refine CS.of (by decide +kernel) (Nat.le_of_ble_eq_true rfl) (fun X Z hO hQ => ?_)
  show SIM X MX7_restore wI Z 0 [(0, .ref 0), (1, .int p1)] [] s0 _
  unfold f_X7_restore
  refine S_ (R_iload_n hO dX7_restore_0 rfl) ?_
  refine S_ (R_iconst (v := (0 : Int32)) hO dX7_restore_1 (by decide)) ?_
  refine S_ (R_iconst (v := (1 : Int32)) hO dX7_restore_2 (by decide)) ?_
  refine S_callSI (rest := []) hO dX7_restore_3 (cs_X7_within p1 (0 : Int32) (1 : Int32) s0) (by omega) lk_X7_66 np_X7_within rfl (Nat.le_of_ble_eq_true rfl) (fun x1 s2 => ?_)
  refine S_if_ne (tgt := 12) hO dX7_restore_6 (by decide) ?_ ?_
  · refine S_ (R_ldc (v := (-1000001 : Int32)) hO dX7_restore_9 kc_X7_70) ?_
    exact S_iret rfl hO hQ dX7_restore_11 rfl
  · refine S_ (R_aload_n hO dX7_restore_12 rfl) ?_
    refine S_getR hO dX7_restore_13 fl_X7_29 sh_0 rfl ?_
    refine S_ (R_iload_n hO dX7_restore_16 rfl) ?_
    refine S_aald (n := 2) (b0 := 175) (s0 := 4) hO dX7_restore_17 (Or.inl rfl) sh_12 (fun hl1 => ?_)
    refine S_getI hO dX7_restore_18 fl_X7_141 (is_12 hl1).1 rfl ?_
    refine S_if_ne (tgt := 27) hO dX7_restore_21 (by decide) ?_ ?_
    · refine S_ (R_ldc (v := (-1000002 : Int32)) hO dX7_restore_24 kc_X7_145) ?_
      exact S_iret rfl hO hQ dX7_restore_26 rfl
    · refine S_ (R_aload_n hO dX7_restore_27 rfl) ?_
      refine S_getR hO dX7_restore_28 fl_X7_25 sh_0 rfl ?_
      refine S_ (R_aload_n hO dX7_restore_31 rfl) ?_
      refine S_getR hO dX7_restore_32 fl_X7_29 sh_0 rfl ?_
      refine S_ (R_iload_n hO dX7_restore_35 rfl) ?_
      refine S_aald (n := 2) (b0 := 175) (s0 := 4) hO dX7_restore_36 (Or.inl rfl) sh_12 (fun hl2 => ?_)
      refine S_callVV (rest := []) hO dX7_restore_37 (cs_X5_take 8 isSt_8 (175 + 4 * p1.toNatClampNeg) (is_12 hl2) s2) (by omega) lk_X7_134 np_X5_take (rc_St isSt_8 rfl) rfl (Nat.le_of_ble_eq_true rfl) (fun s4 => ?_)
      refine S_ (R_aload_n hO dX7_restore_40 rfl) ?_
      refine S_getR hO dX7_restore_41 fl_X7_36 sh_0 rfl ?_
      refine S_callVV (rest := []) hO dX7_restore_44 (cs_X0_forget s4) (by omega) lk_X7_138 np_X0_forget (rc_13 rfl) rfl (Nat.le_of_ble_eq_true rfl) (fun s6 => ?_)
      refine S_ (R_iconst (v := (1 : Int32)) hO dX7_restore_47 (by decide)) ?_
      exact S_iret rfl hO hQ dX7_restore_48 rfl
def f_X7_kind (p1 : Int32) (s0 : Mem) : Option (Int32 × Mem) := bd2 (f_X7_isHouse p1 s0) fun x1 s2 => if x1 = 0 then (some ((-1000001 : Int32), s2)) else ing p1 8 <| some (s2 (8 + 1) p1.toNatClampNeg, s2)
theorem cs_X7_kind (p1 : Int32) (s0 : Mem) : CS 3 MX7_kind [.ref 0, .int p1] s0 ((f_X7_kind p1 s0).map wI) := by
  refine CS.of (by decide +kernel) (Nat.le_of_ble_eq_true rfl) (fun X Z hO hQ => ?_)
  show SIM X MX7_kind wI Z 0 [(0, .ref 0), (1, .int p1)] [] s0 _
  unfold f_X7_kind
  refine S_ (R_aload_n hO dX7_kind_0 rfl) ?_
  refine S_ (R_iload_n hO dX7_kind_1 rfl) ?_
  refine S_callVI (rest := []) hO dX7_kind_2 (cs_X7_isHouse p1 s0) (by omega) lk_X7_166 np_X7_isHouse (rc_0 rfl) rfl (Nat.le_of_ble_eq_true rfl) (fun x1 s2 => ?_)
  refine S_if_eq (tgt := 20) hO dX7_kind_5 (by decide) ?_ ?_
  · refine S_ (R_aload_n hO dX7_kind_8 rfl) ?_
    refine S_getR hO dX7_kind_9 fl_X7_25 sh_0 rfl ?_
    refine S_getR hO dX7_kind_12 fl_X7_274 isSt_8.1 rfl ?_
    refine S_ (R_iload_n hO dX7_kind_15 rfl) ?_
    refine S_iald hO dX7_kind_16 isSt_8.2.1 ?_
    refine S_ (R_goto (tgt := 22) hO dX7_kind_17 (by decide)) ?_
    exact S_iret rfl hO hQ dX7_kind_22 rfl
  · refine S_ (R_ldc (v := (-1000001 : Int32)) hO dX7_kind_20 kc_X7_70) ?_
    exact S_iret rfl hO hQ dX7_kind_22 rfl
def f_X7_isOfKind (p0 : Int32) (p1 : Int32) (s0 : Mem) : Option (Int32 × Mem) := swi p1 0 5 (fun j => match j with | 0 => (some ((1 : Int32), s0)) | 1 => (if p0 = (1 : Int32) then (some ((1 : Int32), s0)) else if p0 = (2 : Int32) then (some ((1 : Int32), s0)) else if p0 = (3 : Int32) then (some ((1 : Int32), s0)) else some ((0 : Int32), s0)) | 2 => (if p0 = p1 then (some ((1 : Int32), s0)) else some ((0 : Int32), s0)) | 3 => (if p0 = p1 then (some ((1 : Int32), s0)) else some ((0 : Int32), s0)) | 4 => (if p0 = (4 : Int32) then (some ((1 : Int32), s0)) else if p0 = (5 : Int32) then (some ((1 : Int32), s0)) else some ((0 : Int32), s0)) | _ => none) (if p0 = p1 then (some ((1 : Int32), s0)) else some ((0 : Int32), s0))
theorem cs_X7_isOfKind (p0 : Int32) (p1 : Int32) (s0 : Mem) : CS 1 MX7_isOfKind [.int p0, .int p1] s0 ((f_X7_isOfKind p0 p1 s0).map wI) := by
  refine CS.of (by decide +kernel) (Nat.le_of_ble_eq_true rfl) (fun X Z hO hQ => ?_)
  show SIM X MX7_isOfKind wI Z 0 [(0, .int p0), (1, .int p1)] [] s0 _
  unfold f_X7_isOfKind
  refine S_ (R_iload_n hO dX7_isOfKind_0 rfl) ?_
  refine S_tsw (lo := 0) (n := 5) (tgt := fun j => ([36, 38, 75, 75, 59] : List Nat).getD j 0) (tgd := 75) hO dX7_isOfKind_1 (by decide) (by decide) (by decide) ?_ ?_
  · refine S_ (R_iload_n hO dX7_isOfKind_75 rfl) ?_
    refine S_ (R_iload_n hO dX7_isOfKind_76 rfl) ?_
    refine S_icmp_ne (tgt := 84) hO dX7_isOfKind_77 (by decide) ?_ ?_
    · refine S_ (R_iconst (v := (1 : Int32)) hO dX7_isOfKind_80 (by decide)) ?_
      refine S_ (R_goto (tgt := 85) hO dX7_isOfKind_81 (by decide)) ?_
      exact S_zret0 rfl hO hQ dX7_isOfKind_85 rfl (by decide)
    · refine S_ (R_iconst (v := (0 : Int32)) hO dX7_isOfKind_84 (by decide)) ?_
      exact S_zret0 rfl hO hQ dX7_isOfKind_85 rfl (by decide)
  · intro j hj
    rcases (show j = 0 ∨ j = 1 ∨ j = 2 ∨ j = 3 ∨ j = 4 by omega) with rfl | rfl | rfl | rfl | rfl
    · refine S_ (R_iconst (v := (1 : Int32)) hO dX7_isOfKind_36 (by decide)) ?_
      exact S_zret0 rfl hO hQ dX7_isOfKind_37 rfl (by decide)
    · refine S_ (R_iload_n hO dX7_isOfKind_38 rfl) ?_
      refine S_ (R_iconst (v := (1 : Int32)) hO dX7_isOfKind_39 (by decide)) ?_
      refine S_icmp_eq (tgt := 53) hO dX7_isOfKind_40 (by decide) ?_ ?_
      · refine S_ (R_iload_n hO dX7_isOfKind_43 rfl) ?_
        refine S_ (R_iconst (v := (2 : Int32)) hO dX7_isOfKind_44 (by decide)) ?_
        refine S_icmp_eq (tgt := 53) hO dX7_isOfKind_45 (by decide) ?_ ?_
        · refine S_ (R_iload_n hO dX7_isOfKind_48 rfl) ?_
          refine S_ (R_iconst (v := (3 : Int32)) hO dX7_isOfKind_49 (by decide)) ?_
          refine S_icmp_ne (tgt := 57) hO dX7_isOfKind_50 (by decide) ?_ ?_
          · refine S_ (R_iconst (v := (1 : Int32)) hO dX7_isOfKind_53 (by decide)) ?_
            refine S_ (R_goto (tgt := 58) hO dX7_isOfKind_54 (by decide)) ?_
            exact S_zret0 rfl hO hQ dX7_isOfKind_58 rfl (by decide)
          · refine S_ (R_iconst (v := (0 : Int32)) hO dX7_isOfKind_57 (by decide)) ?_
            exact S_zret0 rfl hO hQ dX7_isOfKind_58 rfl (by decide)
        · refine S_ (R_iconst (v := (1 : Int32)) hO dX7_isOfKind_53 (by decide)) ?_
          refine S_ (R_goto (tgt := 58) hO dX7_isOfKind_54 (by decide)) ?_
          exact S_zret0 rfl hO hQ dX7_isOfKind_58 rfl (by decide)
      · refine S_ (R_iconst (v := (1 : Int32)) hO dX7_isOfKind_53 (by decide)) ?_
        refine S_ (R_goto (tgt := 58) hO dX7_isOfKind_54 (by decide)) ?_
        exact S_zret0 rfl hO hQ dX7_isOfKind_58 rfl (by decide)
    · refine S_ (R_iload_n hO dX7_isOfKind_75 rfl) ?_
      refine S_ (R_iload_n hO dX7_isOfKind_76 rfl) ?_
      refine S_icmp_ne (tgt := 84) hO dX7_isOfKind_77 (by decide) ?_ ?_
      · refine S_ (R_iconst (v := (1 : Int32)) hO dX7_isOfKind_80 (by decide)) ?_
        refine S_ (R_goto (tgt := 85) hO dX7_isOfKind_81 (by decide)) ?_
        exact S_zret0 rfl hO hQ dX7_isOfKind_85 rfl (by decide)
      · refine S_ (R_iconst (v := (0 : Int32)) hO dX7_isOfKind_84 (by decide)) ?_
        exact S_zret0 rfl hO hQ dX7_isOfKind_85 rfl (by decide)
    · refine S_ (R_iload_n hO dX7_isOfKind_75 rfl) ?_
      refine S_ (R_iload_n hO dX7_isOfKind_76 rfl) ?_
      refine S_icmp_ne (tgt := 84) hO dX7_isOfKind_77 (by decide) ?_ ?_
      · refine S_ (R_iconst (v := (1 : Int32)) hO dX7_isOfKind_80 (by decide)) ?_
        refine S_ (R_goto (tgt := 85) hO dX7_isOfKind_81 (by decide)) ?_
        exact S_zret0 rfl hO hQ dX7_isOfKind_85 rfl (by decide)
      · refine S_ (R_iconst (v := (0 : Int32)) hO dX7_isOfKind_84 (by decide)) ?_
        exact S_zret0 rfl hO hQ dX7_isOfKind_85 rfl (by decide)
    · refine S_ (R_iload_n hO dX7_isOfKind_59 rfl) ?_
      refine S_ (R_iconst (v := (4 : Int32)) hO dX7_isOfKind_60 (by decide)) ?_
      refine S_icmp_eq (tgt := 69) hO dX7_isOfKind_61 (by decide) ?_ ?_
      · refine S_ (R_iload_n hO dX7_isOfKind_64 rfl) ?_
        refine S_ (R_iconst (v := (5 : Int32)) hO dX7_isOfKind_65 (by decide)) ?_
        refine S_icmp_ne (tgt := 73) hO dX7_isOfKind_66 (by decide) ?_ ?_
        · refine S_ (R_iconst (v := (1 : Int32)) hO dX7_isOfKind_69 (by decide)) ?_
          refine S_ (R_goto (tgt := 74) hO dX7_isOfKind_70 (by decide)) ?_
          exact S_zret0 rfl hO hQ dX7_isOfKind_74 rfl (by decide)
        · refine S_ (R_iconst (v := (0 : Int32)) hO dX7_isOfKind_73 (by decide)) ?_
          exact S_zret0 rfl hO hQ dX7_isOfKind_74 rfl (by decide)
      · refine S_ (R_iconst (v := (1 : Int32)) hO dX7_isOfKind_69 (by decide)) ?_
        refine S_ (R_goto (tgt := 74) hO dX7_isOfKind_70 (by decide)) ?_
        exact S_zret0 rfl hO hQ dX7_isOfKind_74 rfl (by decide)
def f_X7_as (p1 : Int32) (p2 : Int32) (s0 : Mem) : Option (Int32 × Mem) := bd2 (f_X7_isHouse p1 s0) fun x1 s2 => if x1 = 0 then (some ((-1000001 : Int32), s2)) else bd2 (f_X7_within p2 (0 : Int32) (5 : Int32) s2) fun x3 s4 => if x3 = 0 then (some ((-1000001 : Int32), s4)) else ing p1 8 <| bd2 (f_X7_isOfKind (s4 (8 + 1) p1.toNatClampNeg) p2 s4) fun x5 s6 => if x5 = 0 then (bd2 (f_X7_found (3 : Int32) s6) fun x9 s10 => some (x9, s10)) else bd2 (f_X7_fine p1 s6) fun x7 s8 => some (x7, s8)
theorem cs_X7_as (p1 : Int32) (p2 : Int32) (s0 : Mem) : CS 3 MX7_as [.ref 0, .int p1, .int p2] s0 ((f_X7_as p1 p2 s0).map wI) := by
  refine CS.of (by decide +kernel) (Nat.le_of_ble_eq_true rfl) (fun X Z hO hQ => ?_)
  show SIM X MX7_as wI Z 0 [(0, .ref 0), (1, .int p1), (2, .int p2)] [] s0 _
  unfold f_X7_as
  refine S_ (R_aload_n hO dX7_as_0 rfl) ?_
  refine S_ (R_iload_n hO dX7_as_1 rfl) ?_
  refine S_callVI (rest := []) hO dX7_as_2 (cs_X7_isHouse p1 s0) (by omega) lk_X7_166 np_X7_isHouse (rc_0 rfl) rfl (Nat.le_of_ble_eq_true rfl) (fun x1 s2 => ?_)
  refine S_if_eq (tgt := 17) hO dX7_as_5 (by decide) ?_ ?_
  · refine S_ (R_iload_n hO dX7_as_8 rfl) ?_
    refine S_ (R_iconst (v := (0 : Int32)) hO dX7_as_9 (by decide)) ?_
    refine S_ (R_iconst (v := (5 : Int32)) hO dX7_as_10 (by decide)) ?_
    refine S_callSI (rest := []) hO dX7_as_11 (cs_X7_within p2 (0 : Int32) (5 : Int32) s2) (by omega) lk_X7_66 np_X7_within rfl (Nat.le_of_ble_eq_true rfl) (fun x3 s4 => ?_)
    refine S_if_ne (tgt := 20) hO dX7_as_14 (by decide) ?_ ?_
    · refine S_ (R_ldc (v := (-1000001 : Int32)) hO dX7_as_17 kc_X7_70) ?_
      exact S_iret rfl hO hQ dX7_as_19 rfl
    · refine S_ (R_aload_n hO dX7_as_20 rfl) ?_
      refine S_getR hO dX7_as_21 fl_X7_25 sh_0 rfl ?_
      refine S_getR hO dX7_as_24 fl_X7_274 isSt_8.1 rfl ?_
      refine S_ (R_iload_n hO dX7_as_27 rfl) ?_
      refine S_iald hO dX7_as_28 isSt_8.2.1 ?_
      refine S_ (R_iload_n hO dX7_as_29 rfl) ?_
      refine S_callSI (rest := []) hO dX7_as_30 (cs_X7_isOfKind (s4 (8 + 1) p1.toNatClampNeg) p2 s4) (by omega) lk_X7_277 np_X7_isOfKind rfl (Nat.le_of_ble_eq_true rfl) (fun x5 s6 => ?_)
      refine S_if_eq (tgt := 44) hO dX7_as_33 (by decide) ?_ ?_
      · refine S_ (R_aload_n hO dX7_as_36 rfl) ?_
        refine S_ (R_iload_n hO dX7_as_37 rfl) ?_
        refine S_callVI (rest := []) hO dX7_as_38 (cs_X7_fine p1 s6) (by omega) lk_X7_79 np_X7_fine (rc_0 rfl) rfl (Nat.le_of_ble_eq_true rfl) (fun x7 s8 => ?_)
        refine S_ (R_goto (tgt := 49) hO dX7_as_41 (by decide)) ?_
        exact S_iret rfl hO hQ dX7_as_49 rfl
      · refine S_ (R_aload_n hO dX7_as_44 rfl) ?_
        refine S_ (R_iconst (v := (3 : Int32)) hO dX7_as_45 (by decide)) ?_
        refine S_callVI (rest := []) hO dX7_as_46 (cs_X7_found (3 : Int32) s6) (by omega) lk_X7_71 np_X7_found (rc_0 rfl) rfl (Nat.le_of_ble_eq_true rfl) (fun x9 s10 => ?_)
        exact S_iret rfl hO hQ dX7_as_49 rfl
  · refine S_ (R_ldc (v := (-1000001 : Int32)) hO dX7_as_17 kc_X7_70) ?_
    exact S_iret rfl hO hQ dX7_as_19 rfl
def f_X7_ask (p1 : Int32) (p2 : Int32) (s0 : Mem) : Option (Int32 × Mem) := bd2 (f_X7_isHouse p1 s0) fun x1 s2 => if x1 = 0 then (some ((-1000001 : Int32), s2)) else bd2 (f_X7_within p2 (0 : Int32) (1 : Int32) s2) fun x3 s4 => if x3 = 0 then (some ((-1000001 : Int32), s4)) else bd (f_X1_turnTo 8 p1 s4) fun s6 => if p2 = 0 then (bd2 (f_X1_size s6) fun x7 s8 => some (x7, s8)) else bd2 (f_X1_mark s6) fun x9 s10 => some (x9, s10)
theorem cs_X7_ask (p1 : Int32) (p2 : Int32) (s0 : Mem) : CS 7 MX7_ask [.ref 0, .int p1, .int p2] s0 ((f_X7_ask p1 p2 s0).map wI) := by
  refine CS.of (by decide +kernel) (Nat.le_of_ble_eq_true rfl) (fun X Z hO hQ => ?_)
  show SIM X MX7_ask wI Z 0 [(0, .ref 0), (1, .int p1), (2, .int p2)] [] s0 _
  unfold f_X7_ask
  refine S_ (R_aload_n hO dX7_ask_0 rfl) ?_
  refine S_ (R_iload_n hO dX7_ask_1 rfl) ?_
  refine S_callVI (rest := []) hO dX7_ask_2 (cs_X7_isHouse p1 s0) (by omega) lk_X7_166 np_X7_isHouse (rc_0 rfl) rfl (Nat.le_of_ble_eq_true rfl) (fun x1 s2 => ?_)
  refine S_if_eq (tgt := 17) hO dX7_ask_5 (by decide) ?_ ?_
  · refine S_ (R_iload_n hO dX7_ask_8 rfl) ?_
    refine S_ (R_iconst (v := (0 : Int32)) hO dX7_ask_9 (by decide)) ?_
    refine S_ (R_iconst (v := (1 : Int32)) hO dX7_ask_10 (by decide)) ?_
    refine S_callSI (rest := []) hO dX7_ask_11 (cs_X7_within p2 (0 : Int32) (1 : Int32) s2) (by omega) lk_X7_66 np_X7_within rfl (Nat.le_of_ble_eq_true rfl) (fun x3 s4 => ?_)
    refine S_if_ne (tgt := 20) hO dX7_ask_14 (by decide) ?_ ?_
    · refine S_ (R_ldc (v := (-1000001 : Int32)) hO dX7_ask_17 kc_X7_70) ?_
      exact S_iret rfl hO hQ dX7_ask_19 rfl
    · refine S_ (R_aload_n hO dX7_ask_20 rfl) ?_
      refine S_getR hO dX7_ask_21 fl_X7_57 sh_0 rfl ?_
      refine S_ (R_aload_n hO dX7_ask_24 rfl) ?_
      refine S_getR hO dX7_ask_25 fl_X7_25 sh_0 rfl ?_
      refine S_ (R_iload_n hO dX7_ask_28 rfl) ?_
      refine S_callVV (rest := []) hO dX7_ask_29 (cs_X1_turnTo 8 isSt_8 p1 s4) (by omega) lk_X7_281 np_X1_turnTo (rc_157 rfl) rfl (Nat.le_of_ble_eq_true rfl) (fun s6 => ?_)
      refine S_ (R_iload_n hO dX7_ask_32 rfl) ?_
      refine S_if_ne (tgt := 46) hO dX7_ask_33 (by decide) ?_ ?_
      · refine S_ (R_aload_n hO dX7_ask_36 rfl) ?_
        refine S_getR hO dX7_ask_37 fl_X7_57 sh_0 rfl ?_
        refine S_callVI (rest := []) hO dX7_ask_40 (cs_X1_size s6) (by omega) lk_X7_285 np_X1_size (rc_157 rfl) rfl (Nat.le_of_ble_eq_true rfl) (fun x7 s8 => ?_)
        refine S_ (R_goto (tgt := 53) hO dX7_ask_43 (by decide)) ?_
        exact S_iret rfl hO hQ dX7_ask_53 rfl
      · refine S_ (R_aload_n hO dX7_ask_46 rfl) ?_
        refine S_getR hO dX7_ask_47 fl_X7_57 sh_0 rfl ?_
        refine S_callVI (rest := []) hO dX7_ask_50 (cs_X1_mark s6) (by omega) lk_X7_287 np_X1_mark (rc_157 rfl) rfl (Nat.le_of_ble_eq_true rfl) (fun x9 s10 => ?_)
        exact S_iret rfl hO hQ dX7_ask_53 rfl
  · refine S_ (R_ldc (v := (-1000001 : Int32)) hO dX7_ask_17 kc_X7_70) ?_
    exact S_iret rfl hO hQ dX7_ask_19 rfl
def f_X7_trace (p1 : Int32) (s0 : Mem) : Option (Int32 × Mem) := bd2 (f_X7_within p1 (0 : Int32) ((s0 157 1) - (1 : Int32)) s0) fun x1 s2 => if x1 = 0 then (some ((-1000000 : Int32), s2)) else ing p1 16 <| some (s2 158 p1.toNatClampNeg, s2)
theorem cs_X7_trace (p1 : Int32) (s0 : Mem) : CS 2 MX7_trace [.ref 0, .int p1] s0 ((f_X7_trace p1 s0).map wI) := by
  refine CS.of (by decide +kernel) (Nat.le_of_ble_eq_true rfl) (fun X Z hO hQ => ?_)
  show SIM X MX7_trace wI Z 0 [(0, .ref 0), (1, .int p1)] [] s0 _
  unfold f_X7_trace
  refine S_ (R_iload_n hO dX7_trace_0 rfl) ?_
  refine S_ (R_iconst (v := (0 : Int32)) hO dX7_trace_1 (by decide)) ?_
  refine S_ (R_aload_n hO dX7_trace_2 rfl) ?_
  refine S_getR hO dX7_trace_3 fl_X7_57 sh_0 rfl ?_
  refine S_getI hO dX7_trace_6 fl_X7_290 sh_157 rfl ?_
  refine S_ (R_iconst (v := (1 : Int32)) hO dX7_trace_9 (by decide)) ?_
  refine S_ (R_isub hO dX7_trace_10) ?_
  refine S_callSI (rest := []) hO dX7_trace_11 (cs_X7_within p1 (0 : Int32) ((s0 157 1) - (1 : Int32)) s0) (by omega) lk_X7_66 np_X7_within rfl (Nat.le_of_ble_eq_true rfl) (fun x1 s2 => ?_)
  refine S_if_eq (tgt := 29) hO dX7_trace_14 (by decide) ?_ ?_
  · refine S_ (R_aload_n hO dX7_trace_17 rfl) ?_
    refine S_getR hO dX7_trace_18 fl_X7_57 sh_0 rfl ?_
    refine S_getR hO dX7_trace_21 fl_X7_293 sh_157 rfl ?_
    refine S_ (R_iload_n hO dX7_trace_24 rfl) ?_
    refine S_iald hO dX7_trace_25 sh_158 ?_
    refine S_ (R_goto (tgt := 31) hO dX7_trace_26 (by decide)) ?_
    exact S_iret rfl hO hQ dX7_trace_31 rfl
  · refine S_ (R_ldc (v := (-1000000 : Int32)) hO dX7_trace_29 kc_X7_214) ?_
    exact S_iret rfl hO hQ dX7_trace_31 rfl
def f_X7_rowsThere_4 : Nat → Int32 → Int32 → Mem → Option (Int32 × Mem)
  | 0, _, _, _ => none
  | n + 1, m1, m2, s0 => if (8 : Int32) ≤ m2 then (some (m1, s0)) else ing m2 8 <| if (s0 (159 + 2 * m2.toNatClampNeg) 1) = 0 then (lt (m1 + (1 : Int32)) fun x3 => lt (m2 + (1 : Int32)) fun x4 => f_X7_rowsThere_4 n x3 x4 s0) else lt (m1 + (0 : Int32)) fun x1 => lt (m2 + (1 : Int32)) fun x2 => f_X7_rowsThere_4 n x1 x2 s0
theorem w_X7_rowsThere_4 {X : CX} {Z : Option Value × Mem → Prop} (hO : OKX X false 1 MX7_rowsThere) (hQ : OKS X Z) : ∀ (n : Nat) (m1 : Int32) (m2 : Int32) (s0 : Mem), SIM X MX7_rowsThere wI Z 4 [(0, .ref 0), (1, .int m1), (2, .int m2)] [] s0 (f_X7_rowsThere_4 n m1 m2 s0) := by
  intro n
  induction n with
  | zero => intros; exact S_none
  | succ n ih =>
    intro m1 m2 s0
    rw [f_X7_rowsThere_4]
    refine S_ (R_iload_n hO dX7_rowsThere_4 rfl) ?_
    refine S_ (R_bipush (v := (8 : Int32)) hO dX7_rowsThere_5 (by decide)) ?_
    refine S_icmp_ge (tgt := 36) hO dX7_rowsThere_7 (by decide) ?_ ?_
    · refine S_ (R_iload_n hO dX7_rowsThere_10 rfl) ?_
      refine S_ (R_aload_n hO dX7_rowsThere_11 rfl) ?_
      refine S_getR hO dX7_rowsThere_12 fl_X7_11 sh_0 rfl ?_
      refine S_ (R_iload_n hO dX7_rowsThere_15 rfl) ?_
      refine S_aald (n := 8) (b0 := 159) (s0 := 2) hO dX7_rowsThere_16 (Or.inr rfl) sh_1 (fun hl1 => ?_)
      refine S_getI hO dX7_rowsThere_17 fl_X7_103 (is_1 hl1).1 rfl ?_
      refine S_if_eq (tgt := 27) hO dX7_rowsThere_20 (by decide) ?_ ?_
      · refine S_ (R_iconst (v := (0 : Int32)) hO dX7_rowsThere_23 (by decide)) ?_
        refine S_ (R_goto (tgt := 28) hO dX7_rowsThere_24 (by decide)) ?_
        refine S_ (R_iadd hO dX7_rowsThere_28) ?_
        refine S_istore_n (L2 := fun x1 => [(1, .int x1), (0, .ref 0), (2, .int m2)]) hO dX7_rowsThere_29 (Nat.le_of_ble_eq_true rfl) (fun _ => rfl) (fun x1 => ?_)
        refine S_iinc (L2 := fun x2 => [(2, .int x2), (1, .int x1), (0, .ref 0)]) (v := (1 : Int32)) hO dX7_rowsThere_30 rfl (by decide) (Nat.le_of_ble_eq_true rfl) (fun _ => rfl) (fun x2 => ?_)
        refine S_ (R_goto (tgt := 4) hO dX7_rowsThere_33 (by decide)) ?_
        refine S_sub [2, 1, 0] rfl ?_
        exact ih x1 x2 s0
      · refine S_ (R_iconst (v := (1 : Int32)) hO dX7_rowsThere_27 (by decide)) ?_
        refine S_ (R_iadd hO dX7_rowsThere_28) ?_
        refine S_istore_n (L2 := fun x3 => [(1, .int x3), (0, .ref 0), (2, .int m2)]) hO dX7_rowsThere_29 (Nat.le_of_ble_eq_true rfl) (fun _ => rfl) (fun x3 => ?_)
        refine S_iinc (L2 := fun x4 => [(2, .int x4), (1, .int x3), (0, .ref 0)]) (v := (1 : Int32)) hO dX7_rowsThere_30 rfl (by decide) (Nat.le_of_ble_eq_true rfl) (fun _ => rfl) (fun x4 => ?_)
        refine S_ (R_goto (tgt := 4) hO dX7_rowsThere_33 (by decide)) ?_
        refine S_sub [2, 1, 0] rfl ?_
        exact ih x3 x4 s0
    · refine S_ (R_iload_n hO dX7_rowsThere_36 rfl) ?_
      exact S_iret rfl hO hQ dX7_rowsThere_37 rfl
def f_X7_rowsThere (s0 : Mem) : Option (Int32 × Mem) := lt ((0 : Int32)) fun x1 => lt ((0 : Int32)) fun x2 => f_X7_rowsThere_4 FU x1 x2 s0
theorem cs_X7_rowsThere (s0 : Mem) : CS 1 MX7_rowsThere [.ref 0] s0 ((f_X7_rowsThere s0).map wI) := by
  refine CS.of (by decide +kernel) (Nat.le_of_ble_eq_true rfl) (fun X Z hO hQ => ?_)
  show SIM X MX7_rowsThere wI Z 0 [(0, .ref 0)] [] s0 _
  unfold f_X7_rowsThere
  refine S_ (R_iconst (v := (0 : Int32)) hO dX7_rowsThere_0 (by decide)) ?_
  refine S_istore_n (L2 := fun x1 => [(1, .int x1), (0, .ref 0)]) hO dX7_rowsThere_1 (Nat.le_of_ble_eq_true rfl) (fun _ => rfl) (fun x1 => ?_)
  refine S_ (R_iconst (v := (0 : Int32)) hO dX7_rowsThere_2 (by decide)) ?_
  refine S_istore_n (L2 := fun x2 => [(2, .int x2), (1, .int x1), (0, .ref 0)]) hO dX7_rowsThere_3 (Nat.le_of_ble_eq_true rfl) (fun _ => rfl) (fun x2 => ?_)
  refine S_sub [2, 1, 0] rfl ?_
  exact w_X7_rowsThere_4 hO hQ FU x1 x2 s0
def f_X7_count (p1 : Int32) (s0 : Mem) : Option (Int32 × Mem) := swi p1 0 8 (fun j => match j with | 0 => (bd2 (f_X7_rowsThere s0) fun x1 s2 => some (x1, s2)) | 1 => (some (s0 8 3, s0)) | 2 => (some (s0 8 6, s0)) | 3 => (bd2 (f_X5_standing 8 s0) fun x3 s4 => bd2 (f_J6_bitCount_0f7a4 x3 s4) fun x5 s6 => some (x5, s6)) | 4 => (bd2 (f_X5_allSpin 8 s0) fun x7 s8 => some (x7, s8)) | 5 => (some (s0 8 7, s0)) | 6 => (some (s0 13 2, s0)) | 7 => (some (s0 2 1, s0)) | _ => none) (some ((-1000001 : Int32), s0))
theorem cs_X7_count (p1 : Int32) (s0 : Mem) : CS 2 MX7_count [.ref 0, .int p1] s0 ((f_X7_count p1 s0).map wI) := by
  refine CS.of (by decide +kernel) (Nat.le_of_ble_eq_true rfl) (fun X Z hO hQ => ?_)
  show SIM X MX7_count wI Z 0 [(0, .ref 0), (1, .int p1)] [] s0 _
  unfold f_X7_count
  refine S_ (R_iload_n hO dX7_count_0 rfl) ?_
  refine S_tsw (lo := 0) (n := 8) (tgt := fun j => ([48, 53, 61, 69, 80, 88, 96, 104] : List Nat).getD j 0) (tgd := 112) hO dX7_count_1 (by decide) (by decide) (by decide) ?_ ?_
  · refine S_ (R_ldc (v := (-1000001 : Int32)) hO dX7_count_112 kc_X7_70) ?_
    exact S_iret rfl hO hQ dX7_count_114 rfl
  · intro j hj
    rcases (show j = 0 ∨ j = 1 ∨ j = 2 ∨ j = 3 ∨ j = 4 ∨ j = 5 ∨ j = 6 ∨ j = 7 by omega) with rfl | rfl | rfl | rfl | rfl | rfl | rfl | rfl
    · refine S_ (R_aload_n hO dX7_count_48 rfl) ?_
      refine S_callVI (rest := []) hO dX7_count_49 (cs_X7_rowsThere s0) (by omega) lk_X7_296 np_X7_rowsThere (rc_0 rfl) rfl (Nat.le_of_ble_eq_true rfl) (fun x1 s2 => ?_)
      exact S_iret rfl hO hQ dX7_count_52 rfl
    · refine S_ (R_aload_n hO dX7_count_53 rfl) ?_
      refine S_getR hO dX7_count_54 fl_X7_25 sh_0 rfl ?_
      refine S_getI hO dX7_count_57 fl_X7_141 isSt_8.1 rfl ?_
      exact S_iret rfl hO hQ dX7_count_60 rfl
    · refine S_ (R_aload_n hO dX7_count_61 rfl) ?_
      refine S_getR hO dX7_count_62 fl_X7_25 sh_0 rfl ?_
      refine S_getI hO dX7_count_65 fl_X7_153 isSt_8.1 rfl ?_
      exact S_iret rfl hO hQ dX7_count_68 rfl
    · refine S_ (R_aload_n hO dX7_count_69 rfl) ?_
      refine S_getR hO dX7_count_70 fl_X7_25 sh_0 rfl ?_
      refine S_callVI (rest := []) hO dX7_count_73 (cs_X5_standing 8 isSt_8 s0) (by omega) lk_X7_162 np_X5_standing (rc_St isSt_8 rfl) rfl (Nat.le_of_ble_eq_true rfl) (fun x3 s4 => ?_)
      refine S_callSI (rest := []) hO dX7_count_76 (cs_J6_bitCount_0f7a4 x3 s4) (by omega) lk_X7_299 np_J6_bitCount_0f7a4 rfl (Nat.le_of_ble_eq_true rfl) (fun x5 s6 => ?_)
      exact S_iret rfl hO hQ dX7_count_79 rfl
    · refine S_ (R_aload_n hO dX7_count_80 rfl) ?_
      refine S_getR hO dX7_count_81 fl_X7_25 sh_0 rfl ?_
      refine S_callVI (rest := []) hO dX7_count_84 (cs_X5_allSpin 8 isSt_8 s0) (by omega) lk_X7_196 np_X5_allSpin (rc_St isSt_8 rfl) rfl (Nat.le_of_ble_eq_true rfl) (fun x7 s8 => ?_)
      exact S_iret rfl hO hQ dX7_count_87 rfl
    · refine S_ (R_aload_n hO dX7_count_88 rfl) ?_
      refine S_getR hO dX7_count_89 fl_X7_25 sh_0 rfl ?_
      refine S_getI hO dX7_count_92 fl_X7_178 isSt_8.1 rfl ?_
      exact S_iret rfl hO hQ dX7_count_95 rfl
    · refine S_ (R_aload_n hO dX7_count_96 rfl) ?_
      refine S_getR hO dX7_count_97 fl_X7_36 sh_0 rfl ?_
      refine S_getI hO dX7_count_100 fl_X7_144 sh_13 rfl ?_
      exact S_iret rfl hO hQ dX7_count_103 rfl
    · refine S_ (R_aload_n hO dX7_count_104 rfl) ?_
      refine S_getR hO dX7_count_105 fl_X7_18 sh_0 rfl ?_
      refine S_getI hO dX7_count_108 fl_X7_111 sh_2 rfl ?_
      exact S_iret rfl hO hQ dX7_count_111 rfl
def f_X7_status (s0 : Mem) : Option (Int32 × Mem) := some (s0 0 9, s0)
theorem cs_X7_status (s0 : Mem) : CS 1 MX7_status [.ref 0] s0 ((f_X7_status s0).map wI) := by
  refine CS.of (by decide +kernel) (Nat.le_of_ble_eq_true rfl) (fun X Z hO hQ => ?_)
  show SIM X MX7_status wI Z 0 [(0, .ref 0)] [] s0 _
  unfold f_X7_status
  refine S_ (R_aload_n hO dX7_status_0 rfl) ?_
  refine S_getI hO dX7_status_1 fl_X7_304 sh_0 rfl ?_
  exact S_iret rfl hO hQ dX7_status_4 rfl
