def f_X8_in (p0 : Int64) (p2 : Int64) (p4 : Int64) (s0 : Mem) : Option (Int32 × Mem) := if (lg_cmp p0 p2) < 0 then (some ((0 : Int32), s0)) else if 0 < (lg_cmp p0 p4) then (some ((0 : Int32), s0)) else some ((1 : Int32), s0)
theorem cs_X8_in (p0 : Int64) (p2 : Int64) (p4 : Int64) (s0 : Mem) : CS 1 MX8_in [.long p0, .long p2, .long p4] s0 ((f_X8_in p0 p2 p4 s0).map wI) := by
  refine CS.of (by decide +kernel) (Nat.le_of_ble_eq_true rfl) (fun X Z hO hQ => ?_)
  show SIM X MX8_in wI Z 0 [(0, .long p0), (2, .long p2), (4, .long p4)] [] s0 _
  unfold f_X8_in
  refine S_ (R_lload_n hO dX8_in_0 rfl) ?_
  refine S_ (R_lload_n hO dX8_in_1 rfl) ?_
  refine S_ (R_lcmp hO dX8_in_2) ?_
  refine S_if_lt (tgt := 17) hO dX8_in_3 (by decide) ?_ ?_
  · refine S_ (R_lload_n hO dX8_in_6 rfl) ?_
    refine S_ (R_lload hO dX8_in_7 rfl) ?_
    refine S_ (R_lcmp hO dX8_in_9) ?_
    refine S_if_gt (tgt := 17) hO dX8_in_10 (by decide) ?_ ?_
    · refine S_ (R_iconst (v := (1 : Int32)) hO dX8_in_13 (by decide)) ?_
      refine S_ (R_goto (tgt := 18) hO dX8_in_14 (by decide)) ?_
      exact S_zret0 rfl hO hQ dX8_in_18 rfl (by decide)
    · refine S_ (R_iconst (v := (0 : Int32)) hO dX8_in_17 (by decide)) ?_
      exact S_zret0 rfl hO hQ dX8_in_18 rfl (by decide)
  · refine S_ (R_iconst (v := (0 : Int32)) hO dX8_in_17 (by decide)) ?_
    exact S_zret0 rfl hO hQ dX8_in_18 rfl (by decide)
def f_X8_has (p0 : Int32) (p1 : Int32) (s0 : Mem) : Option (Int32 × Mem) := if ((p0 >>> (p1 &&& 31)) &&& (1 : Int32)) = (1 : Int32) then (some ((1 : Int32), s0)) else some ((0 : Int32), s0)
theorem cs_X8_has (p0 : Int32) (p1 : Int32) (s0 : Mem) : CS 1 MX8_has [.int p0, .int p1] s0 ((f_X8_has p0 p1 s0).map wI) := by
  refine CS.of (by decide +kernel) (Nat.le_of_ble_eq_true rfl) (fun X Z hO hQ => ?_)
  show SIM X MX8_has wI Z 0 [(0, .int p0), (1, .int p1)] [] s0 _
  unfold f_X8_has
  refine S_ (R_iload_n hO dX8_has_0 rfl) ?_
  refine S_ (R_iload_n hO dX8_has_1 rfl) ?_
  refine S_ (R_ishr hO dX8_has_2) ?_
  refine S_ (R_iconst (v := (1 : Int32)) hO dX8_has_3 (by decide)) ?_
  refine S_ (R_iand hO dX8_has_4) ?_
  refine S_ (R_iconst (v := (1 : Int32)) hO dX8_has_5 (by decide)) ?_
  refine S_icmp_ne (tgt := 13) hO dX8_has_6 (by decide) ?_ ?_
  · refine S_ (R_iconst (v := (1 : Int32)) hO dX8_has_9 (by decide)) ?_
    refine S_ (R_goto (tgt := 14) hO dX8_has_10 (by decide)) ?_
    exact S_zret0 rfl hO hQ dX8_has_14 rfl (by decide)
  · refine S_ (R_iconst (v := (0 : Int32)) hO dX8_has_13 (by decide)) ?_
    exact S_zret0 rfl hO hQ dX8_has_14 rfl (by decide)
def f_X8_ones_4 (p0 : Int32) : Nat → Int32 → Int32 → Mem → Option (Int32 × Mem)
  | 0, _, _, _ => none
  | n + 1, m1, m2, s0 => if m2 = 0 then (some (m1, s0)) else lt (m1 + (1 : Int32)) fun x1 => lt (m2 &&& (m2 - (1 : Int32))) fun x2 => f_X8_ones_4 p0 n x1 x2 s0
theorem w_X8_ones_4 {X : CX} {Z : Option Value × Mem → Prop} (hO : OKX X false 1 MX8_ones) (hQ : OKS X Z) (p0 : Int32) : ∀ (n : Nat) (m1 : Int32) (m2 : Int32) (s0 : Mem), SIM X MX8_ones wI Z 4 [(1, .int m1), (2, .int m2)] [] s0 (f_X8_ones_4 p0 n m1 m2 s0) := by
  intro n
  induction n with
  | zero => intros; exact S_none
  | succ n ih =>
    intro m1 m2 s0
    rw [f_X8_ones_4]
    refine S_ (R_iload_n hO dX8_ones_4 rfl) ?_
    refine S_if_eq (tgt := 20) hO dX8_ones_5 (by decide) ?_ ?_
    · refine S_iinc (L2 := fun x1 => [(1, .int x1), (2, .int m2)]) (v := (1 : Int32)) hO dX8_ones_8 rfl (by decide) (Nat.le_of_ble_eq_true rfl) (fun _ => rfl) (fun x1 => ?_)
      refine S_ (R_iload_n hO dX8_ones_11 rfl) ?_
      refine S_ (R_iload_n hO dX8_ones_12 rfl) ?_
      refine S_ (R_iconst (v := (1 : Int32)) hO dX8_ones_13 (by decide)) ?_
      refine S_ (R_isub hO dX8_ones_14) ?_
      refine S_ (R_iand hO dX8_ones_15) ?_
      refine S_istore_n (L2 := fun x2 => [(2, .int x2), (1, .int x1)]) hO dX8_ones_16 (Nat.le_of_ble_eq_true rfl) (fun _ => rfl) (fun x2 => ?_)
      refine S_ (R_goto (tgt := 4) hO dX8_ones_17 (by decide)) ?_
      refine S_sub [1, 0] rfl ?_
      exact ih x1 x2 s0
    · refine S_ (R_iload_n hO dX8_ones_20 rfl) ?_
      exact S_iret rfl hO hQ dX8_ones_21 rfl
def f_X8_ones (p0 : Int32) (s0 : Mem) : Option (Int32 × Mem) := lt ((0 : Int32)) fun x1 => lt (p0) fun x2 => f_X8_ones_4 p0 FU x1 x2 s0
theorem cs_X8_ones (p0 : Int32) (s0 : Mem) : CS 1 MX8_ones [.int p0] s0 ((f_X8_ones p0 s0).map wI) := by
  refine CS.of (by decide +kernel) (Nat.le_of_ble_eq_true rfl) (fun X Z hO hQ => ?_)
  show SIM X MX8_ones wI Z 0 [(0, .int p0)] [] s0 _
  unfold f_X8_ones
  refine S_ (R_iconst (v := (0 : Int32)) hO dX8_ones_0 (by decide)) ?_
  refine S_istore_n (L2 := fun x1 => [(1, .int x1), (0, .int p0)]) hO dX8_ones_1 (Nat.le_of_ble_eq_true rfl) (fun _ => rfl) (fun x1 => ?_)
  refine S_ (R_iload_n hO dX8_ones_2 rfl) ?_
  refine S_istore_n (L2 := fun x2 => [(2, .int x2), (1, .int x1), (0, .int p0)]) hO dX8_ones_3 (Nat.le_of_ble_eq_true rfl) (fun _ => rfl) (fun x2 => ?_)
  refine S_sub [1, 0] rfl ?_
  exact w_X8_ones_4 hO hQ p0 FU x1 x2 s0
def f_X8_find (p1 : Int32) (s0 : Mem) : Option (Int32 × Mem) := lt (st2 s0 183 3 p1) fun s1 => some ((-1000010 : Int32) - p1, s1)
theorem cs_X8_find (p1 : Int32) (s0 : Mem) : CS 1 MX8_find [.ref 183, .int p1] s0 ((f_X8_find p1 s0).map wI) := by
  refine CS.of (by decide +kernel) (Nat.le_of_ble_eq_true rfl) (fun X Z hO hQ => ?_)
  show SIM X MX8_find wI Z 0 [(0, .ref 183), (1, .int p1)] [] s0 _
  unfold f_X8_find
  refine S_ (R_aload_n hO dX8_find_0 rfl) ?_
  refine S_ (R_iload_n hO dX8_find_1 rfl) ?_
  refine S_put hO dX8_find_2 fl_X8_50 sh_183 rfl (fun s1 => ?_)
  refine S_ (R_ldc (v := (-1000010 : Int32)) hO dX8_find_5 kc_X8_54) ?_
  refine S_ (R_iload_n hO dX8_find_7 rfl) ?_
  refine S_ (R_isub hO dX8_find_8) ?_
  exact S_iret rfl hO hQ dX8_find_9 rfl
def f_X8_well (p1 : Int32) (s0 : Mem) : Option (Int32 × Mem) := lt (st2 s0 183 3 (0 : Int32)) fun s1 => some (p1, s1)
theorem cs_X8_well (p1 : Int32) (s0 : Mem) : CS 1 MX8_well [.ref 183, .int p1] s0 ((f_X8_well p1 s0).map wI) := by
  refine CS.of (by decide +kernel) (Nat.le_of_ble_eq_true rfl) (fun X Z hO hQ => ?_)
  show SIM X MX8_well wI Z 0 [(0, .ref 183), (1, .int p1)] [] s0 _
  unfold f_X8_well
  refine S_ (R_aload_n hO dX8_well_0 rfl) ?_
  refine S_ (R_iconst (v := (0 : Int32)) hO dX8_well_1 (by decide)) ?_
  refine S_put hO dX8_well_2 fl_X8_50 sh_183 rfl (fun s1 => ?_)
  refine S_ (R_iload_n hO dX8_well_5 rfl) ?_
  exact S_iret rfl hO hQ dX8_well_6 rfl
def f_X8_isRow (p0 : Int32) (s0 : Mem) : Option (Int32 × Mem) := bd2 (f_X8_in p0.toInt64 (0 : Int64) (7 : Int64) s0) fun x1 s2 => gd (x1 = 0 ∨ x1 = 1) <| some (x1, s2)
theorem cs_X8_isRow (p0 : Int32) (s0 : Mem) : CS 2 MX8_isRow [.int p0] s0 ((f_X8_isRow p0 s0).map wI) := by
  refine CS.of (by decide +kernel) (Nat.le_of_ble_eq_true rfl) (fun X Z hO hQ => ?_)
  show SIM X MX8_isRow wI Z 0 [(0, .int p0)] [] s0 _
  unfold f_X8_isRow
  refine S_ (R_iload_n hO dX8_isRow_0 rfl) ?_
  refine S_ (R_i2l hO dX8_isRow_1) ?_
  refine S_ (R_lconst (v := (0 : Int64)) hO dX8_isRow_2 (by decide)) ?_
  refine S_ (R_ldc2 (v := (7 : Int64)) hO dX8_isRow_3 kl_X8_55) ?_
  refine S_callSI (rest := []) hO dX8_isRow_6 (cs_X8_in p0.toInt64 (0 : Int64) (7 : Int64) s0) (by omega) lk_X8_57 np_X8_in rfl (Nat.le_of_ble_eq_true rfl) (fun x1 s2 => ?_)
  exact S_zret rfl hO hQ dX8_isRow_9 rfl
def f_X8_row_55 (p1 : Int32) (p2 : Int32) (p3 : Int32) : Nat → Int32 → Mem → Option (Int32 × Mem)
  | 0, _, _ => none
  | n + 1, m4, s0 => if (40 : Int32) ≤ m4 then (bd2 (f_X8_well p3 s0) fun x3 s4 => some (x3, s4)) else ing (((40 : Int32) * p1) + m4) 320 <| lt (st2 s0 186 (((40 : Int32) * p1) + m4).toNatClampNeg (0 : Int32)) fun s1 => lt (m4 + (1 : Int32)) fun x2 => f_X8_row_55 p1 p2 p3 n x2 s1
theorem w_X8_row_55 {X : CX} {Z : Option Value × Mem → Prop} (hO : OKX X false 3 MX8_row) (hQ : OKS X Z) (p1 : Int32) (p2 : Int32) (p3 : Int32) : ∀ (n : Nat) (m4 : Int32) (s0 : Mem), SIM X MX8_row wI Z 55 [(0, .ref 183), (1, .int p1), (3, .int p3), (4, .int m4)] [] s0 (f_X8_row_55 p1 p2 p3 n m4 s0) := by
  intro n
  induction n with
  | zero => intros; exact S_none
  | succ n ih =>
    intro m4 s0
    rw [f_X8_row_55]
    refine S_ (R_iload hO dX8_row_55 rfl) ?_
    refine S_ (R_bipush (v := (40 : Int32)) hO dX8_row_57 (by decide)) ?_
    refine S_icmp_ge (tgt := 81) hO dX8_row_59 (by decide) ?_ ?_
    · refine S_ (R_aload_n hO dX8_row_62 rfl) ?_
      refine S_getR hO dX8_row_63 fl_X8_16 sh_183 rfl ?_
      refine S_ (R_bipush (v := (40 : Int32)) hO dX8_row_66 (by decide)) ?_
      refine S_ (R_iload_n hO dX8_row_68 rfl) ?_
      refine S_ (R_imul hO dX8_row_69) ?_
      refine S_ (R_iload hO dX8_row_70 rfl) ?_
      refine S_ (R_iadd hO dX8_row_72) ?_
      refine S_ (R_iconst (v := (0 : Int32)) hO dX8_row_73 (by decide)) ?_
      refine S_iast hO dX8_row_74 sh_186 (fun s1 => ?_)
      refine S_iinc (L2 := fun x2 => [(4, .int x2), (0, .ref 183), (1, .int p1), (3, .int p3)]) (v := (1 : Int32)) hO dX8_row_75 rfl (by decide) (Nat.le_of_ble_eq_true rfl) (fun _ => rfl) (fun x2 => ?_)
      refine S_ (R_goto (tgt := 55) hO dX8_row_78 (by decide)) ?_
      refine S_sub [1, 2, 3, 0] rfl ?_
      exact ih x2 s1
    · refine S_ (R_aload_n hO dX8_row_81 rfl) ?_
      refine S_ (R_iload_n hO dX8_row_82 rfl) ?_
      refine S_callVI (rest := []) hO dX8_row_83 (cs_X8_well p3 s0) (by omega) lk_X8_72 np_X8_well (rc_183 rfl) rfl (Nat.le_of_ble_eq_true rfl) (fun x3 s4 => ?_)
      exact S_iret rfl hO hQ dX8_row_86 rfl
def f_X8_row (p1 : Int32) (p2 : Int32) (p3 : Int32) (s0 : Mem) : Option (Int32 × Mem) := bd2 (f_X8_isRow p1 s0) fun x1 s2 => if x1 = 0 then (some ((-1000001 : Int32), s2)) else bd2 (f_X8_in p2.toInt64 (0 : Int64) (2 : Int64) s2) fun x3 s4 => if x3 = 0 then (some ((-1000001 : Int32), s4)) else if p3 ≤ (40 : Int32) then (if 0 ≤ p3 then (ing p1 8 <| lt (st2 s4 184 p1.toNatClampNeg p2) fun s7 => ing p1 8 <| lt (st2 s7 185 p1.toNatClampNeg p3) fun s8 => lt ((0 : Int32)) fun x9 => f_X8_row_55 p1 p2 p3 FU x9 s8) else bd2 (f_X8_find (4 : Int32) s4) fun x5 s6 => some (x5, s6)) else some ((-1000001 : Int32), s4)
theorem cs_X8_row (p1 : Int32) (p2 : Int32) (p3 : Int32) (s0 : Mem) : CS 3 MX8_row [.ref 183, .int p1, .int p2, .int p3] s0 ((f_X8_row p1 p2 p3 s0).map wI) := by
  refine CS.of (by decide +kernel) (Nat.le_of_ble_eq_true rfl) (fun X Z hO hQ => ?_)
  show SIM X MX8_row wI Z 0 [(0, .ref 183), (1, .int p1), (2, .int p2), (3, .int p3)] [] s0 _
  unfold f_X8_row
  refine S_ (R_iload_n hO dX8_row_0 rfl) ?_
  refine S_callSI (rest := []) hO dX8_row_1 (cs_X8_isRow p1 s0) (by omega) lk_X8_61 np_X8_isRow rfl (Nat.le_of_ble_eq_true rfl) (fun x1 s2 => ?_)
  refine S_if_eq (tgt := 25) hO dX8_row_4 (by decide) ?_ ?_
  · refine S_ (R_iload_n hO dX8_row_7 rfl) ?_
    refine S_ (R_i2l hO dX8_row_8) ?_
    refine S_ (R_lconst (v := (0 : Int64)) hO dX8_row_9 (by decide)) ?_
    refine S_ (R_ldc2 (v := (2 : Int64)) hO dX8_row_10 kl_X8_65) ?_
    refine S_callSI (rest := []) hO dX8_row_13 (cs_X8_in p2.toInt64 (0 : Int64) (2 : Int64) s2) (by omega) lk_X8_57 np_X8_in rfl (Nat.le_of_ble_eq_true rfl) (fun x3 s4 => ?_)
    refine S_if_eq (tgt := 25) hO dX8_row_16 (by decide) ?_ ?_
    · refine S_ (R_iload_n hO dX8_row_19 rfl) ?_
      refine S_ (R_bipush (v := (40 : Int32)) hO dX8_row_20 (by decide)) ?_
      refine S_icmp_le (tgt := 28) hO dX8_row_22 (by decide) ?_ ?_
      · refine S_ (R_ldc (v := (-1000001 : Int32)) hO dX8_row_25 kc_X8_67) ?_
        exact S_iret rfl hO hQ dX8_row_27 rfl
      · refine S_ (R_iload_n hO dX8_row_28 rfl) ?_
        refine S_if_ge (tgt := 38) hO dX8_row_29 (by decide) ?_ ?_
        · refine S_ (R_aload_n hO dX8_row_32 rfl) ?_
          refine S_ (R_iconst (v := (4 : Int32)) hO dX8_row_33 (by decide)) ?_
          refine S_callVI (rest := []) hO dX8_row_34 (cs_X8_find (4 : Int32) s4) (by omega) lk_X8_68 np_X8_find (rc_183 rfl) rfl (Nat.le_of_ble_eq_true rfl) (fun x5 s6 => ?_)
          exact S_iret rfl hO hQ dX8_row_37 rfl
        · refine S_ (R_aload_n hO dX8_row_38 rfl) ?_
          refine S_getR hO dX8_row_39 fl_X8_7 sh_183 rfl ?_
          refine S_ (R_iload_n hO dX8_row_42 rfl) ?_
          refine S_ (R_iload_n hO dX8_row_43 rfl) ?_
          refine S_iast hO dX8_row_44 sh_184 (fun s7 => ?_)
          refine S_ (R_aload_n hO dX8_row_45 rfl) ?_
          refine S_getR hO dX8_row_46 fl_X8_13 sh_183 rfl ?_
          refine S_ (R_iload_n hO dX8_row_49 rfl) ?_
          refine S_ (R_iload_n hO dX8_row_50 rfl) ?_
          refine S_iast hO dX8_row_51 sh_185 (fun s8 => ?_)
          refine S_ (R_iconst (v := (0 : Int32)) hO dX8_row_52 (by decide)) ?_
          refine S_istore (L2 := fun x9 => [(4, .int x9), (0, .ref 183), (1, .int p1), (2, .int p2), (3, .int p3)]) hO dX8_row_53 (Nat.le_of_ble_eq_true rfl) (fun _ => rfl) (fun x9 => ?_)
          refine S_sub [1, 2, 4, 0] rfl ?_
          exact w_X8_row_55 hO hQ p1 p2 p3 FU x9 s8
    · refine S_ (R_ldc (v := (-1000001 : Int32)) hO dX8_row_25 kc_X8_67) ?_
      exact S_iret rfl hO hQ dX8_row_27 rfl
  · refine S_ (R_ldc (v := (-1000001 : Int32)) hO dX8_row_25 kc_X8_67) ?_
    exact S_iret rfl hO hQ dX8_row_27 rfl
def f_X8_asLane (p0 : Int32) (p1 : Int32) (s0 : Mem) : Option (Int32 × Mem) := if p0 = 0 then (some ((p1 <<< ((24 : Int32) &&& 31)) >>> ((24 : Int32) &&& 31), s0)) else if p0 = (1 : Int32) then (some ((p1 <<< ((16 : Int32) &&& 31)) >>> ((16 : Int32) &&& 31), s0)) else some (p1, s0)
theorem cs_X8_asLane (p0 : Int32) (p1 : Int32) (s0 : Mem) : CS 1 MX8_asLane [.int p0, .int p1] s0 ((f_X8_asLane p0 p1 s0).map wI) := by
  refine CS.of (by decide +kernel) (Nat.le_of_ble_eq_true rfl) (fun X Z hO hQ => ?_)
  show SIM X MX8_asLane wI Z 0 [(0, .int p0), (1, .int p1)] [] s0 _
  unfold f_X8_asLane
  refine S_ (R_iload_n hO dX8_asLane_0 rfl) ?_
  refine S_if_ne (tgt := 14) hO dX8_asLane_1 (by decide) ?_ ?_
  · refine S_ (R_iload_n hO dX8_asLane_4 rfl) ?_
    refine S_ (R_bipush (v := (24 : Int32)) hO dX8_asLane_5 (by decide)) ?_
    refine S_ (R_ishl hO dX8_asLane_7) ?_
    refine S_ (R_bipush (v := (24 : Int32)) hO dX8_asLane_8 (by decide)) ?_
    refine S_ (R_ishr hO dX8_asLane_10) ?_
    refine S_ (R_goto (tgt := 30) hO dX8_asLane_11 (by decide)) ?_
    exact S_iret rfl hO hQ dX8_asLane_30 rfl
  · refine S_ (R_iload_n hO dX8_asLane_14 rfl) ?_
    refine S_ (R_iconst (v := (1 : Int32)) hO dX8_asLane_15 (by decide)) ?_
    refine S_icmp_ne (tgt := 29) hO dX8_asLane_16 (by decide) ?_ ?_
    · refine S_ (R_iload_n hO dX8_asLane_19 rfl) ?_
      refine S_ (R_bipush (v := (16 : Int32)) hO dX8_asLane_20 (by decide)) ?_
      refine S_ (R_ishl hO dX8_asLane_22) ?_
      refine S_ (R_bipush (v := (16 : Int32)) hO dX8_asLane_23 (by decide)) ?_
      refine S_ (R_ishr hO dX8_asLane_25) ?_
      refine S_ (R_goto (tgt := 30) hO dX8_asLane_26 (by decide)) ?_
      exact S_iret rfl hO hQ dX8_asLane_30 rfl
    · refine S_ (R_iload_n hO dX8_asLane_29 rfl) ?_
      exact S_iret rfl hO hQ dX8_asLane_30 rfl
def f_X8_set (p1 : Int32) (p2 : Int32) (p3 : Int32) (s0 : Mem) : Option (Int32 × Mem) := bd2 (f_X8_isRow p1 s0) fun x1 s2 => if x1 = 0 then (some ((-1000001 : Int32), s2)) else ing p1 8 <| if 0 ≤ (s2 185 p1.toNatClampNeg) then (ing p1 8 <| bd2 (f_X8_in p2.toInt64 (0 : Int64) (((s2 185 p1.toNatClampNeg) - (1 : Int32)).toInt64) s2) fun x5 s6 => if x5 = 0 then (bd2 (f_X8_find (2 : Int32) s6) fun x7 s8 => some (x7, s8)) else ing p1 8 <| bd2 (f_X8_asLane (s6 184 p1.toNatClampNeg) p3 s6) fun x9 s10 => ing (((40 : Int32) * p1) + p2) 320 <| lt (st2 s10 186 (((40 : Int32) * p1) + p2).toNatClampNeg x9) fun s11 => ing (((40 : Int32) * p1) + p2) 320 <| bd2 (f_X8_well (s11 186 (((40 : Int32) * p1) + p2).toNatClampNeg) s11) fun x12 s13 => some (x12, s13)) else bd2 (f_X8_find (1 : Int32) s2) fun x3 s4 => some (x3, s4)
theorem cs_X8_set (p1 : Int32) (p2 : Int32) (p3 : Int32) (s0 : Mem) : CS 3 MX8_set [.ref 183, .int p1, .int p2, .int p3] s0 ((f_X8_set p1 p2 p3 s0).map wI) := by
  refine CS.of (by decide +kernel) (Nat.le_of_ble_eq_true rfl) (fun X Z hO hQ => ?_)
  show SIM X MX8_set wI Z 0 [(0, .ref 183), (1, .int p1), (2, .int p2), (3, .int p3)] [] s0 _
  unfold f_X8_set
  refine S_ (R_iload_n hO dX8_set_0 rfl) ?_
  refine S_callSI (rest := []) hO dX8_set_1 (cs_X8_isRow p1 s0) (by omega) lk_X8_61 np_X8_isRow rfl (Nat.le_of_ble_eq_true rfl) (fun x1 s2 => ?_)
  refine S_if_ne (tgt := 10) hO dX8_set_4 (by decide) ?_ ?_
  · refine S_ (R_ldc (v := (-1000001 : Int32)) hO dX8_set_7 kc_X8_67) ?_
    exact S_iret rfl hO hQ dX8_set_9 rfl
  · refine S_ (R_aload_n hO dX8_set_10 rfl) ?_
    refine S_getR hO dX8_set_11 fl_X8_13 sh_183 rfl ?_
    refine S_ (R_iload_n hO dX8_set_14 rfl) ?_
    refine S_iald hO dX8_set_15 sh_185 ?_
    refine S_if_ge (tgt := 25) hO dX8_set_16 (by decide) ?_ ?_
    · refine S_ (R_aload_n hO dX8_set_19 rfl) ?_
      refine S_ (R_iconst (v := (1 : Int32)) hO dX8_set_20 (by decide)) ?_
      refine S_callVI (rest := []) hO dX8_set_21 (cs_X8_find (1 : Int32) s2) (by omega) lk_X8_68 np_X8_find (rc_183 rfl) rfl (Nat.le_of_ble_eq_true rfl) (fun x3 s4 => ?_)
      exact S_iret rfl hO hQ dX8_set_24 rfl
    · refine S_ (R_iload_n hO dX8_set_25 rfl) ?_
      refine S_ (R_i2l hO dX8_set_26) ?_
      refine S_ (R_lconst (v := (0 : Int64)) hO dX8_set_27 (by decide)) ?_
      refine S_ (R_aload_n hO dX8_set_28 rfl) ?_
      refine S_getR hO dX8_set_29 fl_X8_13 sh_183 rfl ?_
      refine S_ (R_iload_n hO dX8_set_32 rfl) ?_
      refine S_iald hO dX8_set_33 sh_185 ?_
      refine S_ (R_iconst (v := (1 : Int32)) hO dX8_set_34 (by decide)) ?_
      refine S_ (R_isub hO dX8_set_35) ?_
      refine S_ (R_i2l hO dX8_set_36) ?_
      refine S_callSI (rest := []) hO dX8_set_37 (cs_X8_in p2.toInt64 (0 : Int64) (((s2 185 p1.toNatClampNeg) - (1 : Int32)).toInt64) s2) (by omega) lk_X8_57 np_X8_in rfl (Nat.le_of_ble_eq_true rfl) (fun x5 s6 => ?_)
      refine S_if_ne (tgt := 49) hO dX8_set_40 (by decide) ?_ ?_
      · refine S_ (R_aload_n hO dX8_set_43 rfl) ?_
        refine S_ (R_iconst (v := (2 : Int32)) hO dX8_set_44 (by decide)) ?_
        refine S_callVI (rest := []) hO dX8_set_45 (cs_X8_find (2 : Int32) s6) (by omega) lk_X8_68 np_X8_find (rc_183 rfl) rfl (Nat.le_of_ble_eq_true rfl) (fun x7 s8 => ?_)
        exact S_iret rfl hO hQ dX8_set_48 rfl
      · refine S_ (R_aload_n hO dX8_set_49 rfl) ?_
        refine S_getR hO dX8_set_50 fl_X8_16 sh_183 rfl ?_
        refine S_ (R_bipush (v := (40 : Int32)) hO dX8_set_53 (by decide)) ?_
        refine S_ (R_iload_n hO dX8_set_55 rfl) ?_
        refine S_ (R_imul hO dX8_set_56) ?_
        refine S_ (R_iload_n hO dX8_set_57 rfl) ?_
        refine S_ (R_iadd hO dX8_set_58) ?_
        refine S_ (R_aload_n hO dX8_set_59 rfl) ?_
        refine S_getR hO dX8_set_60 fl_X8_7 sh_183 rfl ?_
        refine S_ (R_iload_n hO dX8_set_63 rfl) ?_
        refine S_iald hO dX8_set_64 sh_184 ?_
        refine S_ (R_iload_n hO dX8_set_65 rfl) ?_
        refine S_callSI (rest := [.int (((40 : Int32) * p1) + p2), .ref 186]) hO dX8_set_66 (cs_X8_asLane (s6 184 p1.toNatClampNeg) p3 s6) (by omega) lk_X8_75 np_X8_asLane rfl (Nat.le_of_ble_eq_true rfl) (fun x9 s10 => ?_)
        refine S_iast hO dX8_set_69 sh_186 (fun s11 => ?_)
        refine S_ (R_aload_n hO dX8_set_70 rfl) ?_
        refine S_ (R_aload_n hO dX8_set_71 rfl) ?_
        refine S_getR hO dX8_set_72 fl_X8_16 sh_183 rfl ?_
        refine S_ (R_bipush (v := (40 : Int32)) hO dX8_set_75 (by decide)) ?_
        refine S_ (R_iload_n hO dX8_set_77 rfl) ?_
        refine S_ (R_imul hO dX8_set_78) ?_
        refine S_ (R_iload_n hO dX8_set_79 rfl) ?_
        refine S_ (R_iadd hO dX8_set_80) ?_
        refine S_iald hO dX8_set_81 sh_186 ?_
        refine S_callVI (rest := []) hO dX8_set_82 (cs_X8_well (s11 186 (((40 : Int32) * p1) + p2).toNatClampNeg) s11) (by omega) lk_X8_72 np_X8_well (rc_183 rfl) rfl (Nat.le_of_ble_eq_true rfl) (fun x12 s13 => ?_)
        exact S_iret rfl hO hQ dX8_set_85 rfl
def f_X8_copy_35 (p1 : Int32) (p2 : Int32) (p3 : Int32) (p4 : Int32) (p5 : Int32) (s0 : Mem) : Option (Int32 × Mem) := bd2 (f_X8_find (1 : Int32) s0) fun x1 s2 => some (x1, s2)
theorem w_X8_copy_35 {X : CX} {Z : Option Value × Mem → Prop} (hO : OKX X false 3 MX8_copy) (hQ : OKS X Z) (p1 : Int32) (p2 : Int32) (p3 : Int32) (p4 : Int32) (p5 : Int32) (s0 : Mem) : SIM X MX8_copy wI Z 35 [(0, .ref 183)] [] s0 (f_X8_copy_35 p1 p2 p3 p4 p5 s0) := by
  unfold f_X8_copy_35
  refine S_ (R_aload_n hO dX8_copy_35 rfl) ?_
  refine S_ (R_iconst (v := (1 : Int32)) hO dX8_copy_36 (by decide)) ?_
  refine S_callVI (rest := []) hO dX8_copy_37 (cs_X8_find (1 : Int32) s0) (by omega) lk_X8_68 np_X8_find (rc_183 rfl) rfl (Nat.le_of_ble_eq_true rfl) (fun x1 s2 => ?_)
  exact S_iret rfl hO hQ dX8_copy_40 rfl
def f_X8_copy_108 (p1 : Int32) (p2 : Int32) (p3 : Int32) (p4 : Int32) (p5 : Int32) (s0 : Mem) : Option (Int32 × Mem) := bd2 (f_X8_find (2 : Int32) s0) fun x1 s2 => some (x1, s2)
theorem w_X8_copy_108 {X : CX} {Z : Option Value × Mem → Prop} (hO : OKX X false 3 MX8_copy) (hQ : OKS X Z) (p1 : Int32) (p2 : Int32) (p3 : Int32) (p4 : Int32) (p5 : Int32) (s0 : Mem) : SIM X MX8_copy wI Z 108 [(0, .ref 183)] [] s0 (f_X8_copy_108 p1 p2 p3 p4 p5 s0) := by
  unfold f_X8_copy_108
  refine S_ (R_aload_n hO dX8_copy_108 rfl) ?_
  refine S_ (R_iconst (v := (2 : Int32)) hO dX8_copy_109 (by decide)) ?_
  refine S_callVI (rest := []) hO dX8_copy_110 (cs_X8_find (2 : Int32) s0) (by omega) lk_X8_68 np_X8_find (rc_183 rfl) rfl (Nat.le_of_ble_eq_true rfl) (fun x1 s2 => ?_)
  exact S_iret rfl hO hQ dX8_copy_113 rfl
def f_X8_copy_154 (p1 : Int32) (p2 : Int32) (p3 : Int32) (p4 : Int32) (p5 : Int32) : Nat → Int32 → Mem → Option (Int32 × Mem)
  | 0, _, _ => none
  | n + 1, m6, s0 => if p5 ≤ m6 then (bd2 (f_X8_well p5 s0) fun x3 s4 => some (x3, s4)) else ing m6 40 <| ing ((((40 : Int32) * p3) + p4) + m6) 320 <| lt (st2 s0 186 ((((40 : Int32) * p3) + p4) + m6).toNatClampNeg (s0 188 m6.toNatClampNeg)) fun s1 => lt (m6 + (1 : Int32)) fun x2 => f_X8_copy_154 p1 p2 p3 p4 p5 n x2 s1
theorem w_X8_copy_154 {X : CX} {Z : Option Value × Mem → Prop} (hO : OKX X false 3 MX8_copy) (hQ : OKS X Z) (p1 : Int32) (p2 : Int32) (p3 : Int32) (p4 : Int32) (p5 : Int32) : ∀ (n : Nat) (m6 : Int32) (s0 : Mem), SIM X MX8_copy wI Z 154 [(0, .ref 183), (3, .int p3), (4, .int p4), (5, .int p5), (6, .int m6)] [] s0 (f_X8_copy_154 p1 p2 p3 p4 p5 n m6 s0) := by
  intro n
  induction n with
  | zero => intros; exact S_none
  | succ n ih =>
    intro m6 s0
    rw [f_X8_copy_154]
    refine S_ (R_iload hO dX8_copy_154 rfl) ?_
    refine S_ (R_iload hO dX8_copy_156 rfl) ?_
    refine S_icmp_ge (tgt := 189) hO dX8_copy_158 (by decide) ?_ ?_
    · refine S_ (R_aload_n hO dX8_copy_161 rfl) ?_
      refine S_getR hO dX8_copy_162 fl_X8_16 sh_183 rfl ?_
      refine S_ (R_bipush (v := (40 : Int32)) hO dX8_copy_165 (by decide)) ?_
      refine S_ (R_iload_n hO dX8_copy_167 rfl) ?_
      refine S_ (R_imul hO dX8_copy_168) ?_
      refine S_ (R_iload hO dX8_copy_169 rfl) ?_
      refine S_ (R_iadd hO dX8_copy_171) ?_
      refine S_ (R_iload hO dX8_copy_172 rfl) ?_
      refine S_ (R_iadd hO dX8_copy_174) ?_
      refine S_ (R_aload_n hO dX8_copy_175 rfl) ?_
      refine S_getR hO dX8_copy_176 fl_X8_22 sh_183 rfl ?_
      refine S_ (R_iload hO dX8_copy_179 rfl) ?_
      refine S_iald hO dX8_copy_181 sh_188 ?_
      refine S_iast hO dX8_copy_182 sh_186 (fun s1 => ?_)
      refine S_iinc (L2 := fun x2 => [(6, .int x2), (0, .ref 183), (3, .int p3), (4, .int p4), (5, .int p5)]) (v := (1 : Int32)) hO dX8_copy_183 rfl (by decide) (Nat.le_of_ble_eq_true rfl) (fun _ => rfl) (fun x2 => ?_)
      refine S_ (R_goto (tgt := 154) hO dX8_copy_186 (by decide)) ?_
      refine S_sub [1, 2, 3, 4, 0] rfl ?_
      exact ih x2 s1
    · refine S_ (R_aload_n hO dX8_copy_189 rfl) ?_
      refine S_ (R_iload hO dX8_copy_190 rfl) ?_
      refine S_callVI (rest := []) hO dX8_copy_192 (cs_X8_well p5 s0) (by omega) lk_X8_72 np_X8_well (rc_183 rfl) rfl (Nat.le_of_ble_eq_true rfl) (fun x3 s4 => ?_)
      exact S_iret rfl hO hQ dX8_copy_195 rfl
def f_X8_copy_117 (p1 : Int32) (p2 : Int32) (p3 : Int32) (p4 : Int32) (p5 : Int32) : Nat → Int32 → Mem → Option (Int32 × Mem)
  | 0, _, _ => none
  | n + 1, m6, s0 => if p5 ≤ m6 then (lt ((0 : Int32)) fun x3 => f_X8_copy_154 p1 p2 p3 p4 p5 FU x3 s0) else ing ((((40 : Int32) * p1) + p2) + m6) 320 <| ing m6 40 <| lt (st2 s0 188 m6.toNatClampNeg (s0 186 ((((40 : Int32) * p1) + p2) + m6).toNatClampNeg)) fun s1 => lt (m6 + (1 : Int32)) fun x2 => f_X8_copy_117 p1 p2 p3 p4 p5 n x2 s1
theorem w_X8_copy_117 {X : CX} {Z : Option Value × Mem → Prop} (hO : OKX X false 3 MX8_copy) (hQ : OKS X Z) (p1 : Int32) (p2 : Int32) (p3 : Int32) (p4 : Int32) (p5 : Int32) : ∀ (n : Nat) (m6 : Int32) (s0 : Mem), SIM X MX8_copy wI Z 117 [(0, .ref 183), (1, .int p1), (2, .int p2), (3, .int p3), (4, .int p4), (5, .int p5), (6, .int m6)] [] s0 (f_X8_copy_117 p1 p2 p3 p4 p5 n m6 s0) := by
  intro n
  induction n with
  | zero => intros; exact S_none
  | succ n ih =>
    intro m6 s0
    rw [f_X8_copy_117]
    refine S_ (R_iload hO dX8_copy_117 rfl) ?_
    refine S_ (R_iload hO dX8_copy_119 rfl) ?_
    refine S_icmp_ge (tgt := 151) hO dX8_copy_121 (by decide) ?_ ?_
    · refine S_ (R_aload_n hO dX8_copy_124 rfl) ?_
      refine S_getR hO dX8_copy_125 fl_X8_22 sh_183 rfl ?_
      refine S_ (R_iload hO dX8_copy_128 rfl) ?_
      refine S_ (R_aload_n hO dX8_copy_130 rfl) ?_
      refine S_getR hO dX8_copy_131 fl_X8_16 sh_183 rfl ?_
      refine S_ (R_bipush (v := (40 : Int32)) hO dX8_copy_134 (by decide)) ?_
      refine S_ (R_iload_n hO dX8_copy_136 rfl) ?_
      refine S_ (R_imul hO dX8_copy_137) ?_
      refine S_ (R_iload_n hO dX8_copy_138 rfl) ?_
      refine S_ (R_iadd hO dX8_copy_139) ?_
      refine S_ (R_iload hO dX8_copy_140 rfl) ?_
      refine S_ (R_iadd hO dX8_copy_142) ?_
      refine S_iald hO dX8_copy_143 sh_186 ?_
      refine S_iast hO dX8_copy_144 sh_188 (fun s1 => ?_)
      refine S_iinc (L2 := fun x2 => [(6, .int x2), (0, .ref 183), (1, .int p1), (2, .int p2), (3, .int p3), (4, .int p4), (5, .int p5)]) (v := (1 : Int32)) hO dX8_copy_145 rfl (by decide) (Nat.le_of_ble_eq_true rfl) (fun _ => rfl) (fun x2 => ?_)
      refine S_ (R_goto (tgt := 117) hO dX8_copy_148 (by decide)) ?_
      refine S_sub [1, 2, 3, 4, 5, 6, 0] rfl ?_
      exact ih x2 s1
    · refine S_ (R_iconst (v := (0 : Int32)) hO dX8_copy_151 (by decide)) ?_
      refine S_istore (L2 := fun x3 => [(6, .int x3), (0, .ref 183), (1, .int p1), (2, .int p2), (3, .int p3), (4, .int p4), (5, .int p5)]) hO dX8_copy_152 (Nat.le_of_ble_eq_true rfl) (fun _ => rfl) (fun x3 => ?_)
      refine S_sub [1, 4, 5, 6, 0] rfl ?_
      exact w_X8_copy_154 hO hQ p1 p2 p3 p4 p5 FU x3 s0
def f_X8_copy (p1 : Int32) (p2 : Int32) (p3 : Int32) (p4 : Int32) (p5 : Int32) (s0 : Mem) : Option (Int32 × Mem) := bd2 (f_X8_isRow p1 s0) fun x1 s2 => if x1 = 0 then (some ((-1000001 : Int32), s2)) else bd2 (f_X8_isRow p3 s2) fun x3 s4 => if x3 = 0 then (some ((-1000001 : Int32), s4)) else ing p1 8 <| if (s4 185 p1.toNatClampNeg) < 0 then (f_X8_copy_35 p1 p2 p3 p4 p5 s4) else ing p3 8 <| if 0 ≤ (s4 185 p3.toNatClampNeg) then (ing p1 8 <| ing p3 8 <| if (s4 184 p1.toNatClampNeg) = (s4 184 p3.toNatClampNeg) then (if p5 < 0 then (f_X8_copy_108 p1 p2 p3 p4 p5 s4) else ing p1 8 <| bd2 (f_X8_in p2.toInt64 (0 : Int64) (((s4 185 p1.toNatClampNeg).toInt64) - p5.toInt64) s4) fun x7 s8 => if x7 = 0 then (f_X8_copy_108 p1 p2 p3 p4 p5 s8) else ing p3 8 <| bd2 (f_X8_in p4.toInt64 (0 : Int64) (((s8 185 p3.toNatClampNeg).toInt64) - p5.toInt64) s8) fun x9 s10 => if x9 = 0 then (f_X8_copy_108 p1 p2 p3 p4 p5 s10) else lt ((0 : Int32)) fun x11 => f_X8_copy_117 p1 p2 p3 p4 p5 FU x11 s10) else bd2 (f_X8_find (5 : Int32) s4) fun x5 s6 => some (x5, s6)) else f_X8_copy_35 p1 p2 p3 p4 p5 s4
theorem cs_X8_copy (p1 : Int32) (p2 : Int32) (p3 : Int32) (p4 : Int32) (p5 : Int32) (s0 : Mem) : CS 3 MX8_copy [.ref 183, .int p1, .int p2, .int p3, .int p4, .int p5] s0 ((f_X8_copy p1 p2 p3 p4 p5 s0).map wI) := by
  refine CS.of (by decide +kernel) (Nat.le_of_ble_eq_true rfl) (fun X Z hO hQ => ?_)
  show SIM X MX8_copy wI Z 0 [(0, .ref 183), (1, .int p1), (2, .int p2), (3, .int p3), (4, .int p4), (5, .int p5)] [] s0 _
  unfold f_X8_copy
  refine S_ (R_iload_n hO dX8_copy_0 rfl) ?_
  refine S_callSI (rest := []) hO dX8_copy_1 (cs_X8_isRow p1 s0) (by omega) lk_X8_61 np_X8_isRow rfl (Nat.le_of_ble_eq_true rfl) (fun x1 s2 => ?_)
  refine S_if_eq (tgt := 14) hO dX8_copy_4 (by decide) ?_ ?_
  · refine S_ (R_iload_n hO dX8_copy_7 rfl) ?_
    refine S_callSI (rest := []) hO dX8_copy_8 (cs_X8_isRow p3 s2) (by omega) lk_X8_61 np_X8_isRow rfl (Nat.le_of_ble_eq_true rfl) (fun x3 s4 => ?_)
    refine S_if_ne (tgt := 17) hO dX8_copy_11 (by decide) ?_ ?_
    · refine S_ (R_ldc (v := (-1000001 : Int32)) hO dX8_copy_14 kc_X8_67) ?_
      exact S_iret rfl hO hQ dX8_copy_16 rfl
    · refine S_ (R_aload_n hO dX8_copy_17 rfl) ?_
      refine S_getR hO dX8_copy_18 fl_X8_13 sh_183 rfl ?_
      refine S_ (R_iload_n hO dX8_copy_21 rfl) ?_
      refine S_iald hO dX8_copy_22 sh_185 ?_
      refine S_if_lt (tgt := 35) hO dX8_copy_23 (by decide) ?_ ?_
      · refine S_ (R_aload_n hO dX8_copy_26 rfl) ?_
        refine S_getR hO dX8_copy_27 fl_X8_13 sh_183 rfl ?_
        refine S_ (R_iload_n hO dX8_copy_30 rfl) ?_
        refine S_iald hO dX8_copy_31 sh_185 ?_
        refine S_if_ge (tgt := 41) hO dX8_copy_32 (by decide) ?_ ?_
        · refine S_sub [0] rfl ?_
          exact w_X8_copy_35 hO hQ p1 p2 p3 p4 p5 s4
        · refine S_ (R_aload_n hO dX8_copy_41 rfl) ?_
          refine S_getR hO dX8_copy_42 fl_X8_7 sh_183 rfl ?_
          refine S_ (R_iload_n hO dX8_copy_45 rfl) ?_
          refine S_iald hO dX8_copy_46 sh_184 ?_
          refine S_ (R_aload_n hO dX8_copy_47 rfl) ?_
          refine S_getR hO dX8_copy_48 fl_X8_7 sh_183 rfl ?_
          refine S_ (R_iload_n hO dX8_copy_51 rfl) ?_
          refine S_iald hO dX8_copy_52 sh_184 ?_
          refine S_icmp_eq (tgt := 62) hO dX8_copy_53 (by decide) ?_ ?_
          · refine S_ (R_aload_n hO dX8_copy_56 rfl) ?_
            refine S_ (R_iconst (v := (5 : Int32)) hO dX8_copy_57 (by decide)) ?_
            refine S_callVI (rest := []) hO dX8_copy_58 (cs_X8_find (5 : Int32) s4) (by omega) lk_X8_68 np_X8_find (rc_183 rfl) rfl (Nat.le_of_ble_eq_true rfl) (fun x5 s6 => ?_)
            exact S_iret rfl hO hQ dX8_copy_61 rfl
          · refine S_ (R_iload hO dX8_copy_62 rfl) ?_
            refine S_if_lt (tgt := 108) hO dX8_copy_64 (by decide) ?_ ?_
            · refine S_ (R_iload_n hO dX8_copy_67 rfl) ?_
              refine S_ (R_i2l hO dX8_copy_68) ?_
              refine S_ (R_lconst (v := (0 : Int64)) hO dX8_copy_69 (by decide)) ?_
              refine S_ (R_aload_n hO dX8_copy_70 rfl) ?_
              refine S_getR hO dX8_copy_71 fl_X8_13 sh_183 rfl ?_
              refine S_ (R_iload_n hO dX8_copy_74 rfl) ?_
              refine S_iald hO dX8_copy_75 sh_185 ?_
              refine S_ (R_i2l hO dX8_copy_76) ?_
              refine S_ (R_iload hO dX8_copy_77 rfl) ?_
              refine S_ (R_i2l hO dX8_copy_79) ?_
              refine S_ (R_lsub hO dX8_copy_80) ?_
              refine S_callSI (rest := []) hO dX8_copy_81 (cs_X8_in p2.toInt64 (0 : Int64) (((s4 185 p1.toNatClampNeg).toInt64) - p5.toInt64) s4) (by omega) lk_X8_57 np_X8_in rfl (Nat.le_of_ble_eq_true rfl) (fun x7 s8 => ?_)
              refine S_if_eq (tgt := 108) hO dX8_copy_84 (by decide) ?_ ?_
              · refine S_ (R_iload hO dX8_copy_87 rfl) ?_
                refine S_ (R_i2l hO dX8_copy_89) ?_
                refine S_ (R_lconst (v := (0 : Int64)) hO dX8_copy_90 (by decide)) ?_
                refine S_ (R_aload_n hO dX8_copy_91 rfl) ?_
                refine S_getR hO dX8_copy_92 fl_X8_13 sh_183 rfl ?_
                refine S_ (R_iload_n hO dX8_copy_95 rfl) ?_
                refine S_iald hO dX8_copy_96 sh_185 ?_
                refine S_ (R_i2l hO dX8_copy_97) ?_
                refine S_ (R_iload hO dX8_copy_98 rfl) ?_
                refine S_ (R_i2l hO dX8_copy_100) ?_
                refine S_ (R_lsub hO dX8_copy_101) ?_
                refine S_callSI (rest := []) hO dX8_copy_102 (cs_X8_in p4.toInt64 (0 : Int64) (((s8 185 p3.toNatClampNeg).toInt64) - p5.toInt64) s8) (by omega) lk_X8_57 np_X8_in rfl (Nat.le_of_ble_eq_true rfl) (fun x9 s10 => ?_)
                refine S_if_ne (tgt := 114) hO dX8_copy_105 (by decide) ?_ ?_
                · refine S_sub [0] rfl ?_
                  exact w_X8_copy_108 hO hQ p1 p2 p3 p4 p5 s10
                · refine S_ (R_iconst (v := (0 : Int32)) hO dX8_copy_114 (by decide)) ?_
                  refine S_istore (L2 := fun x11 => [(6, .int x11), (0, .ref 183), (1, .int p1), (2, .int p2), (3, .int p3), (4, .int p4), (5, .int p5)]) hO dX8_copy_115 (Nat.le_of_ble_eq_true rfl) (fun _ => rfl) (fun x11 => ?_)
                  refine S_sub [1, 2, 3, 4, 5, 6, 0] rfl ?_
                  exact w_X8_copy_117 hO hQ p1 p2 p3 p4 p5 FU x11 s10
              · refine S_sub [0] rfl ?_
                exact w_X8_copy_108 hO hQ p1 p2 p3 p4 p5 s8
            · refine S_sub [0] rfl ?_
              exact w_X8_copy_108 hO hQ p1 p2 p3 p4 p5 s4
      · refine S_sub [0] rfl ?_
        exact w_X8_copy_35 hO hQ p1 p2 p3 p4 p5 s4
  · refine S_ (R_ldc (v := (-1000001 : Int32)) hO dX8_copy_14 kc_X8_67) ?_
    exact S_iret rfl hO hQ dX8_copy_16 rfl
def f_X8_drop (p1 : Int32) (s0 : Mem) : Option (Int32 × Mem) := bd2 (f_X8_isRow p1 s0) fun x1 s2 => if x1 = 0 then (some ((-1000001 : Int32), s2)) else ing p1 8 <| if 0 ≤ (s2 185 p1.toNatClampNeg) then (ing p1 8 <| lt (s2 185 p1.toNatClampNeg) fun x5 => ing p1 8 <| lt (st2 s2 185 p1.toNatClampNeg (-1 : Int32)) fun s6 => bd2 (f_X8_well x5 s6) fun x7 s8 => some (x7, s8)) else bd2 (f_X8_find (1 : Int32) s2) fun x3 s4 => some (x3, s4)
theorem cs_X8_drop (p1 : Int32) (s0 : Mem) : CS 3 MX8_drop [.ref 183, .int p1] s0 ((f_X8_drop p1 s0).map wI) := by
  refine CS.of (by decide +kernel) (Nat.le_of_ble_eq_true rfl) (fun X Z hO hQ => ?_)
  show SIM X MX8_drop wI Z 0 [(0, .ref 183), (1, .int p1)] [] s0 _
  unfold f_X8_drop
  refine S_ (R_iload_n hO dX8_drop_0 rfl) ?_
  refine S_callSI (rest := []) hO dX8_drop_1 (cs_X8_isRow p1 s0) (by omega) lk_X8_61 np_X8_isRow rfl (Nat.le_of_ble_eq_true rfl) (fun x1 s2 => ?_)
  refine S_if_ne (tgt := 10) hO dX8_drop_4 (by decide) ?_ ?_
  · refine S_ (R_ldc (v := (-1000001 : Int32)) hO dX8_drop_7 kc_X8_67) ?_
    exact S_iret rfl hO hQ dX8_drop_9 rfl
  · refine S_ (R_aload_n hO dX8_drop_10 rfl) ?_
    refine S_getR hO dX8_drop_11 fl_X8_13 sh_183 rfl ?_
    refine S_ (R_iload_n hO dX8_drop_14 rfl) ?_
    refine S_iald hO dX8_drop_15 sh_185 ?_
    refine S_if_ge (tgt := 25) hO dX8_drop_16 (by decide) ?_ ?_
    · refine S_ (R_aload_n hO dX8_drop_19 rfl) ?_
      refine S_ (R_iconst (v := (1 : Int32)) hO dX8_drop_20 (by decide)) ?_
      refine S_callVI (rest := []) hO dX8_drop_21 (cs_X8_find (1 : Int32) s2) (by omega) lk_X8_68 np_X8_find (rc_183 rfl) rfl (Nat.le_of_ble_eq_true rfl) (fun x3 s4 => ?_)
      exact S_iret rfl hO hQ dX8_drop_24 rfl
    · refine S_ (R_aload_n hO dX8_drop_25 rfl) ?_
      refine S_getR hO dX8_drop_26 fl_X8_13 sh_183 rfl ?_
      refine S_ (R_iload_n hO dX8_drop_29 rfl) ?_
      refine S_iald hO dX8_drop_30 sh_185 ?_
      refine S_istore_n (L2 := fun x5 => [(2, .int x5), (0, .ref 183), (1, .int p1)]) hO dX8_drop_31 (Nat.le_of_ble_eq_true rfl) (fun _ => rfl) (fun x5 => ?_)
      refine S_ (R_aload_n hO dX8_drop_32 rfl) ?_
      refine S_getR hO dX8_drop_33 fl_X8_13 sh_183 rfl ?_
      refine S_ (R_iload_n hO dX8_drop_36 rfl) ?_
      refine S_ (R_iconst (v := (-1 : Int32)) hO dX8_drop_37 (by decide)) ?_
      refine S_iast hO dX8_drop_38 sh_185 (fun s6 => ?_)
      refine S_ (R_aload_n hO dX8_drop_39 rfl) ?_
      refine S_ (R_iload_n hO dX8_drop_40 rfl) ?_
      refine S_callVI (rest := []) hO dX8_drop_41 (cs_X8_well x5 s6) (by omega) lk_X8_72 np_X8_well (rc_183 rfl) rfl (Nat.le_of_ble_eq_true rfl) (fun x7 s8 => ?_)
      exact S_iret rfl hO hQ dX8_drop_44 rfl
def f_X8_feed (p1 : Int32) (s0 : Mem) : Option (Int32 × Mem) := bd2 (f_X8_in p1.toInt64 (0 : Int64) (255 : Int64) s0) fun x1 s2 => if x1 = 0 then (some ((-1000001 : Int32), s2)) else if (s2 183 8) = (100 : Int32) then (some ((-1000003 : Int32), s2)) else ing (s2 183 8) 100 <| lt (st2 s2 189 (s2 183 8).toNatClampNeg p1) fun s3 => lt (st2 s3 183 8 ((s3 183 8) + (1 : Int32))) fun s4 => some (s4 183 8, s4)
theorem cs_X8_feed (p1 : Int32) (s0 : Mem) : CS 2 MX8_feed [.ref 183, .int p1] s0 ((f_X8_feed p1 s0).map wI) := by
  refine CS.of (by decide +kernel) (Nat.le_of_ble_eq_true rfl) (fun X Z hO hQ => ?_)
  show SIM X MX8_feed wI Z 0 [(0, .ref 183), (1, .int p1)] [] s0 _
  unfold f_X8_feed
  refine S_ (R_iload_n hO dX8_feed_0 rfl) ?_
  refine S_ (R_i2l hO dX8_feed_1) ?_
  refine S_ (R_lconst (v := (0 : Int64)) hO dX8_feed_2 (by decide)) ?_
  refine S_ (R_ldc2 (v := (255 : Int64)) hO dX8_feed_3 kl_X8_79) ?_
  refine S_callSI (rest := []) hO dX8_feed_6 (cs_X8_in p1.toInt64 (0 : Int64) (255 : Int64) s0) (by omega) lk_X8_57 np_X8_in rfl (Nat.le_of_ble_eq_true rfl) (fun x1 s2 => ?_)
  refine S_if_ne (tgt := 15) hO dX8_feed_9 (by decide) ?_ ?_
  · refine S_ (R_ldc (v := (-1000001 : Int32)) hO dX8_feed_12 kc_X8_67) ?_
    exact S_iret rfl hO hQ dX8_feed_14 rfl
  · refine S_ (R_aload_n hO dX8_feed_15 rfl) ?_
    refine S_getI hO dX8_feed_16 fl_X8_81 sh_183 rfl ?_
    refine S_ (R_bipush (v := (100 : Int32)) hO dX8_feed_19 (by decide)) ?_
    refine S_icmp_ne (tgt := 27) hO dX8_feed_21 (by decide) ?_ ?_
    · refine S_ (R_ldc (v := (-1000003 : Int32)) hO dX8_feed_24 kc_X8_84) ?_
      exact S_iret rfl hO hQ dX8_feed_26 rfl
    · refine S_ (R_aload_n hO dX8_feed_27 rfl) ?_
      refine S_getR hO dX8_feed_28 fl_X8_25 sh_183 rfl ?_
      refine S_ (R_aload_n hO dX8_feed_31 rfl) ?_
      refine S_getI hO dX8_feed_32 fl_X8_81 sh_183 rfl ?_
      refine S_ (R_iload_n hO dX8_feed_35 rfl) ?_
      refine S_iast hO dX8_feed_36 sh_189 (fun s3 => ?_)
      refine S_ (R_aload_n hO dX8_feed_37 rfl) ?_
      refine S_ (R_dup hO dX8_feed_38 rfl) ?_
      refine S_getI hO dX8_feed_39 fl_X8_81 sh_183 rfl ?_
      refine S_ (R_iconst (v := (1 : Int32)) hO dX8_feed_42 (by decide)) ?_
      refine S_ (R_iadd hO dX8_feed_43) ?_
      refine S_put hO dX8_feed_44 fl_X8_81 sh_183 rfl (fun s4 => ?_)
      refine S_ (R_aload_n hO dX8_feed_47 rfl) ?_
      refine S_getI hO dX8_feed_48 fl_X8_81 sh_183 rfl ?_
      exact S_iret rfl hO hQ dX8_feed_51 rfl
def f_X8_nextToken_119 (s0 : Mem) : Option (Mem) := if (s0 183 10) ≤ (s0 183 13) then (if (s0 183 11) = 0 then (ing (s0 183 10) 100 <| lt (st2 s0 183 12 (s0 189 (s0 183 10).toNatClampNeg)) fun s3 => bd2 (f_X8_in ((s3 183 12).toInt64) (97 : Int64) (122 : Int64) s3) fun x4 s5 => if x4 = 0 then (if (s5 183 12) = (44 : Int32) then (lt (st2 s5 183 11 (1 : Int32)) fun s10 => lt (st2 s10 183 10 ((s10 183 10) + (1 : Int32))) fun s11 => some s11) else if (s5 183 12) = (59 : Int32) then (lt (st2 s5 183 11 (1 : Int32)) fun s6 => lt (st2 s6 183 10 ((s6 183 10) + (1 : Int32))) fun s7 => some s7) else lt (st2 s5 183 11 (0 : Int32)) fun s8 => lt (st2 s8 183 10 ((s8 183 10) + (1 : Int32))) fun s9 => some s9) else lt (st2 s5 183 11 (1 : Int32)) fun s12 => lt (st2 s12 183 10 ((s12 183 10) + (1 : Int32))) fun s13 => some s13) else some s0) else if ((s0 183 10) - (s0 183 13)) ≤ (2 : Int32) then (lt (st2 s0 183 11 (2 : Int32)) fun s2 => some s2) else lt (st2 s0 183 11 (0 : Int32)) fun s1 => some s1
theorem w_X8_nextToken_119 {X : CX} {Z : Option Value × Mem → Prop} (hO : OKX X false 2 MX8_nextToken) (hQ : OKS X Z) (s0 : Mem) : SIM X MX8_nextToken wV Z 119 [(0, .ref 183)] [] s0 (f_X8_nextToken_119 s0) := by
  unfold f_X8_nextToken_119
  refine S_ (R_aload_n hO dX8_nextToken_119 rfl) ?_
  refine S_getI hO dX8_nextToken_120 fl_X8_85 sh_183 rfl ?_
  refine S_ (R_aload_n hO dX8_nextToken_123 rfl) ?_
  refine S_getI hO dX8_nextToken_124 fl_X8_88 sh_183 rfl ?_
  refine S_icmp_le (tgt := 155) hO dX8_nextToken_127 (by decide) ?_ ?_
  · refine S_ (R_aload_n hO dX8_nextToken_130 rfl) ?_
    refine S_ (R_aload_n hO dX8_nextToken_131 rfl) ?_
    refine S_getI hO dX8_nextToken_132 fl_X8_85 sh_183 rfl ?_
    refine S_ (R_aload_n hO dX8_nextToken_135 rfl) ?_
    refine S_getI hO dX8_nextToken_136 fl_X8_88 sh_183 rfl ?_
    refine S_ (R_isub hO dX8_nextToken_139) ?_
    refine S_ (R_iconst (v := (2 : Int32)) hO dX8_nextToken_140 (by decide)) ?_
    refine S_icmp_le (tgt := 148) hO dX8_nextToken_141 (by decide) ?_ ?_
    · refine S_ (R_iconst (v := (0 : Int32)) hO dX8_nextToken_144 (by decide)) ?_
      refine S_ (R_goto (tgt := 149) hO dX8_nextToken_145 (by decide)) ?_
      refine S_put hO dX8_nextToken_149 fl_X8_91 sh_183 rfl (fun s1 => ?_)
      refine S_ (R_goto (tgt := 229) hO dX8_nextToken_152 (by decide)) ?_
      exact S_vret rfl hO hQ dX8_nextToken_229 rfl
    · refine S_ (R_iconst (v := (2 : Int32)) hO dX8_nextToken_148 (by decide)) ?_
      refine S_put hO dX8_nextToken_149 fl_X8_91 sh_183 rfl (fun s2 => ?_)
      refine S_ (R_goto (tgt := 229) hO dX8_nextToken_152 (by decide)) ?_
      exact S_vret rfl hO hQ dX8_nextToken_229 rfl
  · refine S_ (R_aload_n hO dX8_nextToken_155 rfl) ?_
    refine S_getI hO dX8_nextToken_156 fl_X8_91 sh_183 rfl ?_
    refine S_if_ne (tgt := 229) hO dX8_nextToken_159 (by decide) ?_ ?_
    · refine S_ (R_aload_n hO dX8_nextToken_162 rfl) ?_
      refine S_ (R_aload_n hO dX8_nextToken_163 rfl) ?_
      refine S_getR hO dX8_nextToken_164 fl_X8_25 sh_183 rfl ?_
      refine S_ (R_aload_n hO dX8_nextToken_167 rfl) ?_
      refine S_getI hO dX8_nextToken_168 fl_X8_85 sh_183 rfl ?_
      refine S_iald hO dX8_nextToken_171 sh_189 ?_
      refine S_put hO dX8_nextToken_172 fl_X8_94 sh_183 rfl (fun s3 => ?_)
      refine S_ (R_aload_n hO dX8_nextToken_175 rfl) ?_
      refine S_ (R_aload_n hO dX8_nextToken_176 rfl) ?_
      refine S_getI hO dX8_nextToken_177 fl_X8_94 sh_183 rfl ?_
      refine S_ (R_i2l hO dX8_nextToken_180) ?_
      refine S_ (R_ldc2 (v := (97 : Int64)) hO dX8_nextToken_181 kl_X8_101) ?_
      refine S_ (R_ldc2 (v := (122 : Int64)) hO dX8_nextToken_184 kl_X8_103) ?_
      refine S_callSI (rest := [.ref 183]) hO dX8_nextToken_187 (cs_X8_in ((s3 183 12).toInt64) (97 : Int64) (122 : Int64) s3) (by omega) lk_X8_57 np_X8_in rfl (Nat.le_of_ble_eq_true rfl) (fun x4 s5 => ?_)
      refine S_if_ne (tgt := 211) hO dX8_nextToken_190 (by decide) ?_ ?_
      · refine S_ (R_aload_n hO dX8_nextToken_193 rfl) ?_
        refine S_getI hO dX8_nextToken_194 fl_X8_94 sh_183 rfl ?_
        refine S_ (R_bipush (v := (44 : Int32)) hO dX8_nextToken_197 (by decide)) ?_
        refine S_icmp_eq (tgt := 211) hO dX8_nextToken_199 (by decide) ?_ ?_
        · refine S_ (R_aload_n hO dX8_nextToken_202 rfl) ?_
          refine S_getI hO dX8_nextToken_203 fl_X8_94 sh_183 rfl ?_
          refine S_ (R_bipush (v := (59 : Int32)) hO dX8_nextToken_206 (by decide)) ?_
          refine S_icmp_ne (tgt := 215) hO dX8_nextToken_208 (by decide) ?_ ?_
          · refine S_ (R_iconst (v := (1 : Int32)) hO dX8_nextToken_211 (by decide)) ?_
            refine S_ (R_goto (tgt := 216) hO dX8_nextToken_212 (by decide)) ?_
            refine S_put hO dX8_nextToken_216 fl_X8_91 sh_183 rfl (fun s6 => ?_)
            refine S_ (R_aload_n hO dX8_nextToken_219 rfl) ?_
            refine S_ (R_dup hO dX8_nextToken_220 rfl) ?_
            refine S_getI hO dX8_nextToken_221 fl_X8_85 sh_183 rfl ?_
            refine S_ (R_iconst (v := (1 : Int32)) hO dX8_nextToken_224 (by decide)) ?_
            refine S_ (R_iadd hO dX8_nextToken_225) ?_
            refine S_put hO dX8_nextToken_226 fl_X8_85 sh_183 rfl (fun s7 => ?_)
            exact S_vret rfl hO hQ dX8_nextToken_229 rfl
          · refine S_ (R_iconst (v := (0 : Int32)) hO dX8_nextToken_215 (by decide)) ?_
            refine S_put hO dX8_nextToken_216 fl_X8_91 sh_183 rfl (fun s8 => ?_)
            refine S_ (R_aload_n hO dX8_nextToken_219 rfl) ?_
            refine S_ (R_dup hO dX8_nextToken_220 rfl) ?_
            refine S_getI hO dX8_nextToken_221 fl_X8_85 sh_183 rfl ?_
            refine S_ (R_iconst (v := (1 : Int32)) hO dX8_nextToken_224 (by decide)) ?_
            refine S_ (R_iadd hO dX8_nextToken_225) ?_
            refine S_put hO dX8_nextToken_226 fl_X8_85 sh_183 rfl (fun s9 => ?_)
            exact S_vret rfl hO hQ dX8_nextToken_229 rfl
        · refine S_ (R_iconst (v := (1 : Int32)) hO dX8_nextToken_211 (by decide)) ?_
          refine S_ (R_goto (tgt := 216) hO dX8_nextToken_212 (by decide)) ?_
          refine S_put hO dX8_nextToken_216 fl_X8_91 sh_183 rfl (fun s10 => ?_)
          refine S_ (R_aload_n hO dX8_nextToken_219 rfl) ?_
          refine S_ (R_dup hO dX8_nextToken_220 rfl) ?_
          refine S_getI hO dX8_nextToken_221 fl_X8_85 sh_183 rfl ?_
          refine S_ (R_iconst (v := (1 : Int32)) hO dX8_nextToken_224 (by decide)) ?_
          refine S_ (R_iadd hO dX8_nextToken_225) ?_
          refine S_put hO dX8_nextToken_226 fl_X8_85 sh_183 rfl (fun s11 => ?_)
          exact S_vret rfl hO hQ dX8_nextToken_229 rfl
      · refine S_ (R_iconst (v := (1 : Int32)) hO dX8_nextToken_211 (by decide)) ?_
        refine S_ (R_goto (tgt := 216) hO dX8_nextToken_212 (by decide)) ?_
        refine S_put hO dX8_nextToken_216 fl_X8_91 sh_183 rfl (fun s12 => ?_)
        refine S_ (R_aload_n hO dX8_nextToken_219 rfl) ?_
        refine S_ (R_dup hO dX8_nextToken_220 rfl) ?_
        refine S_getI hO dX8_nextToken_221 fl_X8_85 sh_183 rfl ?_
        refine S_ (R_iconst (v := (1 : Int32)) hO dX8_nextToken_224 (by decide)) ?_
        refine S_ (R_iadd hO dX8_nextToken_225) ?_
        refine S_put hO dX8_nextToken_226 fl_X8_85 sh_183 rfl (fun s13 => ?_)
        exact S_vret rfl hO hQ dX8_nextToken_229 rfl
    · exact S_vret rfl hO hQ dX8_nextToken_229 rfl
def f_X8_nextToken_33 : Nat → Mem → Option (Mem)
  | 0, _ => none
  | n + 1, s0 => if (s0 183 8) ≤ (s0 183 10) then (f_X8_nextToken_119 s0) else ing (s0 183 10) 100 <| bd2 (f_X8_in ((s0 189 (s0 183 10).toNatClampNeg).toInt64) (48 : Int64) (57 : Int64) s0) fun x1 s2 => if x1 = 0 then (f_X8_nextToken_119 s2) else if (s2 183 12) ≤ (99 : Int32) then (ing (s2 183 10) 100 <| lt (st2 s2 183 12 ((((10 : Int32) * (s2 183 12)) + (s2 189 (s2 183 10).toNatClampNeg)) - (48 : Int32))) fun s5 => lt (st2 s5 183 10 ((s5 183 10) + (1 : Int32))) fun s6 => f_X8_nextToken_33 n s6) else lt (st2 s2 183 12 (s2 183 12)) fun s3 => lt (st2 s3 183 10 ((s3 183 10) + (1 : Int32))) fun s4 => f_X8_nextToken_33 n s4
theorem w_X8_nextToken_33 {X : CX} {Z : Option Value × Mem → Prop} (hO : OKX X false 2 MX8_nextToken) (hQ : OKS X Z) : ∀ (n : Nat) (s0 : Mem), SIM X MX8_nextToken wV Z 33 [(0, .ref 183)] [] s0 (f_X8_nextToken_33 n s0) := by
  intro n
  induction n with
  | zero => intros; exact S_none
  | succ n ih =>
    intro s0
    rw [f_X8_nextToken_33]
    refine S_ (R_aload_n hO dX8_nextToken_33 rfl) ?_
    refine S_getI hO dX8_nextToken_34 fl_X8_85 sh_183 rfl ?_
    refine S_ (R_aload_n hO dX8_nextToken_37 rfl) ?_
    refine S_getI hO dX8_nextToken_38 fl_X8_81 sh_183 rfl ?_
    refine S_icmp_ge (tgt := 119) hO dX8_nextToken_41 (by decide) ?_ ?_
    · refine S_ (R_aload_n hO dX8_nextToken_44 rfl) ?_
      refine S_getR hO dX8_nextToken_45 fl_X8_25 sh_183 rfl ?_
      refine S_ (R_aload_n hO dX8_nextToken_48 rfl) ?_
      refine S_getI hO dX8_nextToken_49 fl_X8_85 sh_183 rfl ?_
      refine S_iald hO dX8_nextToken_52 sh_189 ?_
      refine S_ (R_i2l hO dX8_nextToken_53) ?_
      refine S_ (R_ldc2 (v := (48 : Int64)) hO dX8_nextToken_54 kl_X8_97) ?_
      refine S_ (R_ldc2 (v := (57 : Int64)) hO dX8_nextToken_57 kl_X8_99) ?_
      refine S_callSI (rest := []) hO dX8_nextToken_60 (cs_X8_in ((s0 189 (s0 183 10).toNatClampNeg).toInt64) (48 : Int64) (57 : Int64) s0) (by omega) lk_X8_57 np_X8_in rfl (Nat.le_of_ble_eq_true rfl) (fun x1 s2 => ?_)
      refine S_if_eq (tgt := 119) hO dX8_nextToken_63 (by decide) ?_ ?_
      · refine S_ (R_aload_n hO dX8_nextToken_66 rfl) ?_
        refine S_ (R_aload_n hO dX8_nextToken_67 rfl) ?_
        refine S_getI hO dX8_nextToken_68 fl_X8_94 sh_183 rfl ?_
        refine S_ (R_bipush (v := (99 : Int32)) hO dX8_nextToken_71 (by decide)) ?_
        refine S_icmp_le (tgt := 83) hO dX8_nextToken_73 (by decide) ?_ ?_
        · refine S_ (R_aload_n hO dX8_nextToken_76 rfl) ?_
          refine S_getI hO dX8_nextToken_77 fl_X8_94 sh_183 rfl ?_
          refine S_ (R_goto (tgt := 103) hO dX8_nextToken_80 (by decide)) ?_
          refine S_put hO dX8_nextToken_103 fl_X8_94 sh_183 rfl (fun s3 => ?_)
          refine S_ (R_aload_n hO dX8_nextToken_106 rfl) ?_
          refine S_ (R_dup hO dX8_nextToken_107 rfl) ?_
          refine S_getI hO dX8_nextToken_108 fl_X8_85 sh_183 rfl ?_
          refine S_ (R_iconst (v := (1 : Int32)) hO dX8_nextToken_111 (by decide)) ?_
          refine S_ (R_iadd hO dX8_nextToken_112) ?_
          refine S_put hO dX8_nextToken_113 fl_X8_85 sh_183 rfl (fun s4 => ?_)
          refine S_ (R_goto (tgt := 33) hO dX8_nextToken_116 (by decide)) ?_
          refine S_sub [0] rfl ?_
          exact ih s4
        · refine S_ (R_bipush (v := (10 : Int32)) hO dX8_nextToken_83 (by decide)) ?_
          refine S_ (R_aload_n hO dX8_nextToken_85 rfl) ?_
          refine S_getI hO dX8_nextToken_86 fl_X8_94 sh_183 rfl ?_
          refine S_ (R_imul hO dX8_nextToken_89) ?_
          refine S_ (R_aload_n hO dX8_nextToken_90 rfl) ?_
          refine S_getR hO dX8_nextToken_91 fl_X8_25 sh_183 rfl ?_
          refine S_ (R_aload_n hO dX8_nextToken_94 rfl) ?_
          refine S_getI hO dX8_nextToken_95 fl_X8_85 sh_183 rfl ?_
          refine S_iald hO dX8_nextToken_98 sh_189 ?_
          refine S_ (R_iadd hO dX8_nextToken_99) ?_
          refine S_ (R_bipush (v := (48 : Int32)) hO dX8_nextToken_100 (by decide)) ?_
          refine S_ (R_isub hO dX8_nextToken_102) ?_
          refine S_put hO dX8_nextToken_103 fl_X8_94 sh_183 rfl (fun s5 => ?_)
          refine S_ (R_aload_n hO dX8_nextToken_106 rfl) ?_
          refine S_ (R_dup hO dX8_nextToken_107 rfl) ?_
          refine S_getI hO dX8_nextToken_108 fl_X8_85 sh_183 rfl ?_
          refine S_ (R_iconst (v := (1 : Int32)) hO dX8_nextToken_111 (by decide)) ?_
          refine S_ (R_iadd hO dX8_nextToken_112) ?_
          refine S_put hO dX8_nextToken_113 fl_X8_85 sh_183 rfl (fun s6 => ?_)
          refine S_ (R_goto (tgt := 33) hO dX8_nextToken_116 (by decide)) ?_
          refine S_sub [0] rfl ?_
          exact ih s6
      · refine S_sub [0] rfl ?_
        exact w_X8_nextToken_119 hO hQ s2
    · refine S_sub [0] rfl ?_
      exact w_X8_nextToken_119 hO hQ s0
def f_X8_nextToken (s0 : Mem) : Option (Mem) := lt (st2 s0 183 13 (s0 183 10)) fun s1 => if (s1 183 10) = (s1 183 8) then (lt (st2 s1 183 11 (3 : Int32)) fun s2 => lt (st2 s2 183 12 (0 : Int32)) fun s3 => f_X8_nextToken_33 FU s3) else lt (st2 s1 183 11 (0 : Int32)) fun s4 => lt (st2 s4 183 12 (0 : Int32)) fun s5 => f_X8_nextToken_33 FU s5
theorem cs_X8_nextToken (s0 : Mem) : CS 2 MX8_nextToken [.ref 183] s0 ((f_X8_nextToken s0).map wV) := by
  refine CS.of (by decide +kernel) (Nat.le_of_ble_eq_true rfl) (fun X Z hO hQ => ?_)
  show SIM X MX8_nextToken wV Z 0 [(0, .ref 183)] [] s0 _
  unfold f_X8_nextToken
  refine S_ (R_aload_n hO dX8_nextToken_0 rfl) ?_
  refine S_ (R_aload_n hO dX8_nextToken_1 rfl) ?_
  refine S_getI hO dX8_nextToken_2 fl_X8_85 sh_183 rfl ?_
  refine S_put hO dX8_nextToken_5 fl_X8_88 sh_183 rfl (fun s1 => ?_)
  refine S_ (R_aload_n hO dX8_nextToken_8 rfl) ?_
  refine S_ (R_aload_n hO dX8_nextToken_9 rfl) ?_
  refine S_getI hO dX8_nextToken_10 fl_X8_85 sh_183 rfl ?_
  refine S_ (R_aload_n hO dX8_nextToken_13 rfl) ?_
  refine S_getI hO dX8_nextToken_14 fl_X8_81 sh_183 rfl ?_
  refine S_icmp_ne (tgt := 24) hO dX8_nextToken_17 (by decide) ?_ ?_
  · refine S_ (R_iconst (v := (3 : Int32)) hO dX8_nextToken_20 (by decide)) ?_
    refine S_ (R_goto (tgt := 25) hO dX8_nextToken_21 (by decide)) ?_
    refine S_put hO dX8_nextToken_25 fl_X8_91 sh_183 rfl (fun s2 => ?_)
    refine S_ (R_aload_n hO dX8_nextToken_28 rfl) ?_
    refine S_ (R_iconst (v := (0 : Int32)) hO dX8_nextToken_29 (by decide)) ?_
    refine S_put hO dX8_nextToken_30 fl_X8_94 sh_183 rfl (fun s3 => ?_)
    refine S_sub [0] rfl ?_
    exact w_X8_nextToken_33 hO hQ FU s3
  · refine S_ (R_iconst (v := (0 : Int32)) hO dX8_nextToken_24 (by decide)) ?_
    refine S_put hO dX8_nextToken_25 fl_X8_91 sh_183 rfl (fun s4 => ?_)
    refine S_ (R_aload_n hO dX8_nextToken_28 rfl) ?_
    refine S_ (R_iconst (v := (0 : Int32)) hO dX8_nextToken_29 (by decide)) ?_
    refine S_put hO dX8_nextToken_30 fl_X8_94 sh_183 rfl (fun s5 => ?_)
    refine S_sub [0] rfl ?_
    exact w_X8_nextToken_33 hO hQ FU s5
def f_X8_faults (p1 : Int32) (s0 : Mem) : Option (Int32 × Mem) := lt (st2 s0 183 14 p1) fun s1 => some ((0 : Int32), s1)
theorem cs_X8_faults (p1 : Int32) (s0 : Mem) : CS 1 MX8_faults [.ref 183, .int p1] s0 ((f_X8_faults p1 s0).map wI) := by
  refine CS.of (by decide +kernel) (Nat.le_of_ble_eq_true rfl) (fun X Z hO hQ => ?_)
  show SIM X MX8_faults wI Z 0 [(0, .ref 183), (1, .int p1)] [] s0 _
  unfold f_X8_faults
  refine S_ (R_aload_n hO dX8_faults_0 rfl) ?_
  refine S_ (R_iload_n hO dX8_faults_1 rfl) ?_
  refine S_put hO dX8_faults_2 fl_X8_105 sh_183 rfl (fun s1 => ?_)
  refine S_ (R_iconst (v := (0 : Int32)) hO dX8_faults_5 (by decide)) ?_
  exact S_zret0 rfl hO hQ dX8_faults_6 rfl (by decide)
def f_X8_takes_16 (p1 : Int32) (s0 : Mem) : Option (Int32 × Mem) := bd2 (f_X8_faults (1 : Int32) s0) fun x1 s2 => gd (x1 = 0 ∨ x1 = 1) <| some (x1, s2)
theorem w_X8_takes_16 {X : CX} {Z : Option Value × Mem → Prop} (hO : OKX X false 3 MX8_takes) (hQ : OKS X Z) (p1 : Int32) (s0 : Mem) : SIM X MX8_takes wI Z 16 [(0, .ref 183)] [] s0 (f_X8_takes_16 p1 s0) := by
  unfold f_X8_takes_16
  refine S_ (R_aload_n hO dX8_takes_16 rfl) ?_
  refine S_ (R_iconst (v := (1 : Int32)) hO dX8_takes_17 (by decide)) ?_
  refine S_callVI (rest := []) hO dX8_takes_18 (cs_X8_faults (1 : Int32) s0) (by omega) lk_X8_108 np_X8_faults (rc_183 rfl) rfl (Nat.le_of_ble_eq_true rfl) (fun x1 s2 => ?_)
  exact S_zret rfl hO hQ dX8_takes_21 rfl
def f_X8_takes (p1 : Int32) (s0 : Mem) : Option (Int32 × Mem) := if (s0 183 11) = (1 : Int32) then (if (s0 183 12) = p1 then (bd (f_X8_nextToken s0) fun s2 => some ((1 : Int32), s2)) else f_X8_takes_16 p1 s0) else f_X8_takes_16 p1 s0
theorem cs_X8_takes (p1 : Int32) (s0 : Mem) : CS 3 MX8_takes [.ref 183, .int p1] s0 ((f_X8_takes p1 s0).map wI) := by
  refine CS.of (by decide +kernel) (Nat.le_of_ble_eq_true rfl) (fun X Z hO hQ => ?_)
  show SIM X MX8_takes wI Z 0 [(0, .ref 183), (1, .int p1)] [] s0 _
  unfold f_X8_takes
  refine S_ (R_aload_n hO dX8_takes_0 rfl) ?_
  refine S_getI hO dX8_takes_1 fl_X8_91 sh_183 rfl ?_
  refine S_ (R_iconst (v := (1 : Int32)) hO dX8_takes_4 (by decide)) ?_
  refine S_icmp_ne (tgt := 16) hO dX8_takes_5 (by decide) ?_ ?_
  · refine S_ (R_aload_n hO dX8_takes_8 rfl) ?_
    refine S_getI hO dX8_takes_9 fl_X8_94 sh_183 rfl ?_
    refine S_ (R_iload_n hO dX8_takes_12 rfl) ?_
    refine S_icmp_eq (tgt := 22) hO dX8_takes_13 (by decide) ?_ ?_
    · refine S_sub [0] rfl ?_
      exact w_X8_takes_16 hO hQ p1 s0
    · refine S_ (R_aload_n hO dX8_takes_22 rfl) ?_
      refine S_callVV (rest := []) hO dX8_takes_23 (cs_X8_nextToken s0) (by omega) lk_X8_111 np_X8_nextToken (rc_183 rfl) rfl (Nat.le_of_ble_eq_true rfl) (fun s2 => ?_)
      refine S_ (R_iconst (v := (1 : Int32)) hO dX8_takes_26 (by decide)) ?_
      exact S_zret0 rfl hO hQ dX8_takes_27 rfl (by decide)
  · refine S_sub [0] rfl ?_
    exact w_X8_takes_16 hO hQ p1 s0
def f_X8_takesNumber_37 (p1 : Int32) (p2 : Int32) (p3 : Int32) (p4 : Int32) (t0 : Int32) (s0 : Mem) : Option (Int32 × Mem) := bd2 (f_X8_faults t0 s0) fun x1 s2 => gd (x1 = 0 ∨ x1 = 1) <| some (x1, s2)
theorem w_X8_takesNumber_37 {X : CX} {Z : Option Value × Mem → Prop} (hO : OKX X false 4 MX8_takesNumber) (hQ : OKS X Z) (p1 : Int32) (p2 : Int32) (p3 : Int32) (p4 : Int32) (t0 : Int32) (s0 : Mem) : SIM X MX8_takesNumber wI Z 37 [] [.int t0, .ref 183] s0 (f_X8_takesNumber_37 p1 p2 p3 p4 t0 s0) := by
  unfold f_X8_takesNumber_37
  refine S_callVI (rest := []) hO dX8_takesNumber_37 (cs_X8_faults t0 s0) (by omega) lk_X8_108 np_X8_faults (rc_183 rfl) rfl (Nat.le_of_ble_eq_true rfl) (fun x1 s2 => ?_)
  exact S_zret rfl hO hQ dX8_takesNumber_40 rfl
def f_X8_takesNumber_23 (p1 : Int32) (p2 : Int32) (p3 : Int32) (p4 : Int32) (s0 : Mem) : Option (Int32 × Mem) := if (s0 183 11) = (2 : Int32) then (f_X8_takesNumber_37 p1 p2 p3 p4 (2 : Int32) s0) else f_X8_takesNumber_37 p1 p2 p3 p4 (1 : Int32) s0
theorem w_X8_takesNumber_23 {X : CX} {Z : Option Value × Mem → Prop} (hO : OKX X false 4 MX8_takesNumber) (hQ : OKS X Z) (p1 : Int32) (p2 : Int32) (p3 : Int32) (p4 : Int32) (s0 : Mem) : SIM X MX8_takesNumber wI Z 23 [(0, .ref 183)] [] s0 (f_X8_takesNumber_23 p1 p2 p3 p4 s0) := by
  unfold f_X8_takesNumber_23
  refine S_ (R_aload_n hO dX8_takesNumber_23 rfl) ?_
  refine S_ (R_aload_n hO dX8_takesNumber_24 rfl) ?_
  refine S_getI hO dX8_takesNumber_25 fl_X8_91 sh_183 rfl ?_
  refine S_ (R_iconst (v := (2 : Int32)) hO dX8_takesNumber_28 (by decide)) ?_
  refine S_icmp_ne (tgt := 36) hO dX8_takesNumber_29 (by decide) ?_ ?_
  · refine S_ (R_iconst (v := (2 : Int32)) hO dX8_takesNumber_32 (by decide)) ?_
    refine S_ (R_goto (tgt := 37) hO dX8_takesNumber_33 (by decide)) ?_
    refine S_sub [] rfl ?_
    exact w_X8_takesNumber_37 hO hQ p1 p2 p3 p4 (2 : Int32) s0
  · refine S_ (R_iconst (v := (1 : Int32)) hO dX8_takesNumber_36 (by decide)) ?_
    refine S_sub [] rfl ?_
    exact w_X8_takesNumber_37 hO hQ p1 p2 p3 p4 (1 : Int32) s0
def f_X8_takesNumber (p1 : Int32) (p2 : Int32) (p3 : Int32) (p4 : Int32) (s0 : Mem) : Option (Int32 × Mem) := if (s0 183 11) = (2 : Int32) then (bd2 (f_X8_in ((s0 183 12).toInt64) p1.toInt64 p2.toInt64 s0) fun x1 s2 => if x1 = 0 then (f_X8_takesNumber_23 p1 p2 p3 p4 s2) else ing p3 29 <| lt (st2 s2 190 p3.toNatClampNeg (s2 183 12)) fun s3 => bd (f_X8_nextToken s3) fun s5 => bd2 (f_X8_takes p4 s5) fun x6 s7 => gd (x6 = 0 ∨ x6 = 1) <| some (x6, s7)) else f_X8_takesNumber_23 p1 p2 p3 p4 s0
theorem cs_X8_takesNumber (p1 : Int32) (p2 : Int32) (p3 : Int32) (p4 : Int32) (s0 : Mem) : CS 4 MX8_takesNumber [.ref 183, .int p1, .int p2, .int p3, .int p4] s0 ((f_X8_takesNumber p1 p2 p3 p4 s0).map wI) := by
  refine CS.of (by decide +kernel) (Nat.le_of_ble_eq_true rfl) (fun X Z hO hQ => ?_)
  show SIM X MX8_takesNumber wI Z 0 [(0, .ref 183), (1, .int p1), (2, .int p2), (3, .int p3), (4, .int p4)] [] s0 _
  unfold f_X8_takesNumber
  refine S_ (R_aload_n hO dX8_takesNumber_0 rfl) ?_
  refine S_getI hO dX8_takesNumber_1 fl_X8_91 sh_183 rfl ?_
  refine S_ (R_iconst (v := (2 : Int32)) hO dX8_takesNumber_4 (by decide)) ?_
  refine S_icmp_ne (tgt := 23) hO dX8_takesNumber_5 (by decide) ?_ ?_
  · refine S_ (R_aload_n hO dX8_takesNumber_8 rfl) ?_
    refine S_getI hO dX8_takesNumber_9 fl_X8_94 sh_183 rfl ?_
    refine S_ (R_i2l hO dX8_takesNumber_12) ?_
    refine S_ (R_iload_n hO dX8_takesNumber_13 rfl) ?_
    refine S_ (R_i2l hO dX8_takesNumber_14) ?_
    refine S_ (R_iload_n hO dX8_takesNumber_15 rfl) ?_
    refine S_ (R_i2l hO dX8_takesNumber_16) ?_
    refine S_callSI (rest := []) hO dX8_takesNumber_17 (cs_X8_in ((s0 183 12).toInt64) p1.toInt64 p2.toInt64 s0) (by omega) lk_X8_57 np_X8_in rfl (Nat.le_of_ble_eq_true rfl) (fun x1 s2 => ?_)
    refine S_if_ne (tgt := 41) hO dX8_takesNumber_20 (by decide) ?_ ?_
    · refine S_sub [0] rfl ?_
      exact w_X8_takesNumber_23 hO hQ p1 p2 p3 p4 s2
    · refine S_ (R_aload_n hO dX8_takesNumber_41 rfl) ?_
      refine S_getR hO dX8_takesNumber_42 fl_X8_28 sh_183 rfl ?_
      refine S_ (R_iload_n hO dX8_takesNumber_45 rfl) ?_
      refine S_ (R_aload_n hO dX8_takesNumber_46 rfl) ?_
      refine S_getI hO dX8_takesNumber_47 fl_X8_94 sh_183 rfl ?_
      refine S_iast hO dX8_takesNumber_50 sh_190 (fun s3 => ?_)
      refine S_ (R_aload_n hO dX8_takesNumber_51 rfl) ?_
      refine S_callVV (rest := []) hO dX8_takesNumber_52 (cs_X8_nextToken s3) (by omega) lk_X8_111 np_X8_nextToken (rc_183 rfl) rfl (Nat.le_of_ble_eq_true rfl) (fun s5 => ?_)
      refine S_ (R_aload_n hO dX8_takesNumber_55 rfl) ?_
      refine S_ (R_iload hO dX8_takesNumber_56 rfl) ?_
      refine S_callVI (rest := []) hO dX8_takesNumber_58 (cs_X8_takes p4 s5) (by omega) lk_X8_114 np_X8_takes (rc_183 rfl) rfl (Nat.le_of_ble_eq_true rfl) (fun x6 s7 => ?_)
      exact S_zret rfl hO hQ dX8_takesNumber_61 rfl
  · refine S_sub [0] rfl ?_
    exact w_X8_takesNumber_23 hO hQ p1 p2 p3 p4 s0
def f_X8_kindBy (p0 : Int32) (s0 : Mem) : Option (Int32 × Mem) := if p0 = (119 : Int32) then (some ((1 : Int32), s0)) else if p0 = (99 : Int32) then (some ((2 : Int32), s0)) else if p0 = (115 : Int32) then (some ((3 : Int32), s0)) else if p0 = (112 : Int32) then (some ((4 : Int32), s0)) else if p0 = (107 : Int32) then (some ((5 : Int32), s0)) else some ((0 : Int32), s0)
theorem cs_X8_kindBy (p0 : Int32) (s0 : Mem) : CS 1 MX8_kindBy [.int p0] s0 ((f_X8_kindBy p0 s0).map wI) := by
  refine CS.of (by decide +kernel) (Nat.le_of_ble_eq_true rfl) (fun X Z hO hQ => ?_)
  show SIM X MX8_kindBy wI Z 0 [(0, .int p0)] [] s0 _
  unfold f_X8_kindBy
  refine S_ (R_iload_n hO dX8_kindBy_0 rfl) ?_
  refine S_ (R_bipush (v := (119 : Int32)) hO dX8_kindBy_1 (by decide)) ?_
  refine S_icmp_ne (tgt := 10) hO dX8_kindBy_3 (by decide) ?_ ?_
  · refine S_ (R_iconst (v := (1 : Int32)) hO dX8_kindBy_6 (by decide)) ?_
    refine S_ (R_goto (tgt := 51) hO dX8_kindBy_7 (by decide)) ?_
    exact S_iret rfl hO hQ dX8_kindBy_51 rfl
  · refine S_ (R_iload_n hO dX8_kindBy_10 rfl) ?_
    refine S_ (R_bipush (v := (99 : Int32)) hO dX8_kindBy_11 (by decide)) ?_
    refine S_icmp_ne (tgt := 20) hO dX8_kindBy_13 (by decide) ?_ ?_
    · refine S_ (R_iconst (v := (2 : Int32)) hO dX8_kindBy_16 (by decide)) ?_
      refine S_ (R_goto (tgt := 51) hO dX8_kindBy_17 (by decide)) ?_
      exact S_iret rfl hO hQ dX8_kindBy_51 rfl
    · refine S_ (R_iload_n hO dX8_kindBy_20 rfl) ?_
      refine S_ (R_bipush (v := (115 : Int32)) hO dX8_kindBy_21 (by decide)) ?_
      refine S_icmp_ne (tgt := 30) hO dX8_kindBy_23 (by decide) ?_ ?_
      · refine S_ (R_iconst (v := (3 : Int32)) hO dX8_kindBy_26 (by decide)) ?_
        refine S_ (R_goto (tgt := 51) hO dX8_kindBy_27 (by decide)) ?_
        exact S_iret rfl hO hQ dX8_kindBy_51 rfl
      · refine S_ (R_iload_n hO dX8_kindBy_30 rfl) ?_
        refine S_ (R_bipush (v := (112 : Int32)) hO dX8_kindBy_31 (by decide)) ?_
        refine S_icmp_ne (tgt := 40) hO dX8_kindBy_33 (by decide) ?_ ?_
        · refine S_ (R_iconst (v := (4 : Int32)) hO dX8_kindBy_36 (by decide)) ?_
          refine S_ (R_goto (tgt := 51) hO dX8_kindBy_37 (by decide)) ?_
          exact S_iret rfl hO hQ dX8_kindBy_51 rfl
        · refine S_ (R_iload_n hO dX8_kindBy_40 rfl) ?_
          refine S_ (R_bipush (v := (107 : Int32)) hO dX8_kindBy_41 (by decide)) ?_
          refine S_icmp_ne (tgt := 50) hO dX8_kindBy_43 (by decide) ?_ ?_
          · refine S_ (R_iconst (v := (5 : Int32)) hO dX8_kindBy_46 (by decide)) ?_
            refine S_ (R_goto (tgt := 51) hO dX8_kindBy_47 (by decide)) ?_
            exact S_iret rfl hO hQ dX8_kindBy_51 rfl
          · refine S_ (R_iconst (v := (0 : Int32)) hO dX8_kindBy_50 (by decide)) ?_
            exact S_iret rfl hO hQ dX8_kindBy_51 rfl
def f_X8_readHouse_47 (t0 : Int32) (s0 : Mem) : Option (Int32 × Mem) := bd2 (f_X8_faults t0 s0) fun x1 s2 => gd (x1 = 0 ∨ x1 = 1) <| some (x1, s2)
theorem w_X8_readHouse_47 {X : CX} {Z : Option Value × Mem → Prop} (hO : OKX X false 5 MX8_readHouse) (hQ : OKS X Z) (t0 : Int32) (s0 : Mem) : SIM X MX8_readHouse wI Z 47 [] [.int t0, .ref 183] s0 (f_X8_readHouse_47 t0 s0) := by
  unfold f_X8_readHouse_47
  refine S_callVI (rest := []) hO dX8_readHouse_47 (cs_X8_faults t0 s0) (by omega) lk_X8_108 np_X8_faults (rc_183 rfl) rfl (Nat.le_of_ble_eq_true rfl) (fun x1 s2 => ?_)
  exact S_zret rfl hO hQ dX8_readHouse_50 rfl
def f_X8_readHouse_37 (m2 : Int32) (s0 : Mem) : Option (Int32 × Mem) := if m2 = 0 then (f_X8_readHouse_47 (1 : Int32) s0) else f_X8_readHouse_47 (3 : Int32) s0
theorem w_X8_readHouse_37 {X : CX} {Z : Option Value × Mem → Prop} (hO : OKX X false 5 MX8_readHouse) (hQ : OKS X Z) (m2 : Int32) (s0 : Mem) : SIM X MX8_readHouse wI Z 37 [(0, .ref 183), (2, .int m2)] [] s0 (f_X8_readHouse_37 m2 s0) := by
  unfold f_X8_readHouse_37
  refine S_ (R_aload_n hO dX8_readHouse_37 rfl) ?_
  refine S_ (R_iload_n hO dX8_readHouse_38 rfl) ?_
  refine S_if_ne (tgt := 46) hO dX8_readHouse_39 (by decide) ?_ ?_
  · refine S_ (R_iconst (v := (1 : Int32)) hO dX8_readHouse_42 (by decide)) ?_
    refine S_ (R_goto (tgt := 47) hO dX8_readHouse_43 (by decide)) ?_
    refine S_sub [] rfl ?_
    exact w_X8_readHouse_47 hO hQ (1 : Int32) s0
  · refine S_ (R_iconst (v := (3 : Int32)) hO dX8_readHouse_46 (by decide)) ?_
    refine S_sub [] rfl ?_
    exact w_X8_readHouse_47 hO hQ (3 : Int32) s0
def f_X8_readHouse_26 (m1 : Int32) (t0 : Int32) (s0 : Mem) : Option (Int32 × Mem) := lt (t0) fun x1 => if x1 = 0 then (f_X8_readHouse_37 x1 s0) else if m1 = (8 : Int32) then (f_X8_readHouse_37 x1 s0) else bd (f_X8_nextToken s0) fun s3 => ing ((5 : Int32) + m1) 29 <| lt (st2 s3 190 ((5 : Int32) + m1).toNatClampNeg x1) fun s4 => ing (0 : Int32) 29 <| ing (0 : Int32) 29 <| lt (st2 s4 190 (0 : Int32).toNatClampNeg ((s4 190 (0 : Int32).toNatClampNeg) + (1 : Int32))) fun s5 => bd2 (f_X8_takesNumber (0 : Int32) (99 : Int32) ((21 : Int32) + m1) (44 : Int32) s5) fun x6 s7 => if x6 = 0 then (some ((0 : Int32), s7)) else bd2 (f_X8_takesNumber (1 : Int32) (9 : Int32) ((13 : Int32) + m1) (59 : Int32) s7) fun x8 s9 => if x8 = 0 then (some ((0 : Int32), s9)) else some ((1 : Int32), s9)
theorem w_X8_readHouse_26 {X : CX} {Z : Option Value × Mem → Prop} (hO : OKX X false 5 MX8_readHouse) (hQ : OKS X Z) (m1 : Int32) (t0 : Int32) (s0 : Mem) : SIM X MX8_readHouse wI Z 26 [(0, .ref 183), (1, .int m1)] [.int t0] s0 (f_X8_readHouse_26 m1 t0 s0) := by
  unfold f_X8_readHouse_26
  refine S_istore_n (L2 := fun x1 => [(2, .int x1), (0, .ref 183), (1, .int m1)]) hO dX8_readHouse_26 (Nat.le_of_ble_eq_true rfl) (fun _ => rfl) (fun x1 => ?_)
  refine S_ (R_iload_n hO dX8_readHouse_27 rfl) ?_
  refine S_if_eq (tgt := 37) hO dX8_readHouse_28 (by decide) ?_ ?_
  · refine S_ (R_iload_n hO dX8_readHouse_31 rfl) ?_
    refine S_ (R_bipush (v := (8 : Int32)) hO dX8_readHouse_32 (by decide)) ?_
    refine S_icmp_ne (tgt := 51) hO dX8_readHouse_34 (by decide) ?_ ?_
    · refine S_sub [1, 0] rfl ?_
      exact w_X8_readHouse_37 hO hQ x1 s0
    · refine S_ (R_aload_n hO dX8_readHouse_51 rfl) ?_
      refine S_callVV (rest := []) hO dX8_readHouse_52 (cs_X8_nextToken s0) (by omega) lk_X8_111 np_X8_nextToken (rc_183 rfl) rfl (Nat.le_of_ble_eq_true rfl) (fun s3 => ?_)
      refine S_ (R_aload_n hO dX8_readHouse_55 rfl) ?_
      refine S_getR hO dX8_readHouse_56 fl_X8_28 sh_183 rfl ?_
      refine S_ (R_iconst (v := (5 : Int32)) hO dX8_readHouse_59 (by decide)) ?_
      refine S_ (R_iload_n hO dX8_readHouse_60 rfl) ?_
      refine S_ (R_iadd hO dX8_readHouse_61) ?_
      refine S_ (R_iload_n hO dX8_readHouse_62 rfl) ?_
      refine S_iast hO dX8_readHouse_63 sh_190 (fun s4 => ?_)
      refine S_ (R_aload_n hO dX8_readHouse_64 rfl) ?_
      refine S_getR hO dX8_readHouse_65 fl_X8_28 sh_183 rfl ?_
      refine S_ (R_iconst (v := (0 : Int32)) hO dX8_readHouse_68 (by decide)) ?_
      refine S_ (R_dup2 hO dX8_readHouse_69 rfl rfl) ?_
      refine S_iald hO dX8_readHouse_70 sh_190 ?_
      refine S_ (R_iconst (v := (1 : Int32)) hO dX8_readHouse_71 (by decide)) ?_
      refine S_ (R_iadd hO dX8_readHouse_72) ?_
      refine S_iast hO dX8_readHouse_73 sh_190 (fun s5 => ?_)
      refine S_ (R_aload_n hO dX8_readHouse_74 rfl) ?_
      refine S_ (R_iconst (v := (0 : Int32)) hO dX8_readHouse_75 (by decide)) ?_
      refine S_ (R_bipush (v := (99 : Int32)) hO dX8_readHouse_76 (by decide)) ?_
      refine S_ (R_bipush (v := (21 : Int32)) hO dX8_readHouse_78 (by decide)) ?_
      refine S_ (R_iload_n hO dX8_readHouse_80 rfl) ?_
      refine S_ (R_iadd hO dX8_readHouse_81) ?_
      refine S_ (R_bipush (v := (44 : Int32)) hO dX8_readHouse_82 (by decide)) ?_
      refine S_callVI (rest := []) hO dX8_readHouse_84 (cs_X8_takesNumber (0 : Int32) (99 : Int32) ((21 : Int32) + m1) (44 : Int32) s5) (by omega) lk_X8_120 np_X8_takesNumber (rc_183 rfl) rfl (Nat.le_of_ble_eq_true rfl) (fun x6 s7 => ?_)
      refine S_if_eq (tgt := 110) hO dX8_readHouse_87 (by decide) ?_ ?_
      · refine S_ (R_aload_n hO dX8_readHouse_90 rfl) ?_
        refine S_ (R_iconst (v := (1 : Int32)) hO dX8_readHouse_91 (by decide)) ?_
        refine S_ (R_bipush (v := (9 : Int32)) hO dX8_readHouse_92 (by decide)) ?_
        refine S_ (R_bipush (v := (13 : Int32)) hO dX8_readHouse_94 (by decide)) ?_
        refine S_ (R_iload_n hO dX8_readHouse_96 rfl) ?_
        refine S_ (R_iadd hO dX8_readHouse_97) ?_
        refine S_ (R_bipush (v := (59 : Int32)) hO dX8_readHouse_98 (by decide)) ?_
        refine S_callVI (rest := []) hO dX8_readHouse_100 (cs_X8_takesNumber (1 : Int32) (9 : Int32) ((13 : Int32) + m1) (59 : Int32) s7) (by omega) lk_X8_120 np_X8_takesNumber (rc_183 rfl) rfl (Nat.le_of_ble_eq_true rfl) (fun x8 s9 => ?_)
        refine S_if_eq (tgt := 110) hO dX8_readHouse_103 (by decide) ?_ ?_
        · refine S_ (R_iconst (v := (1 : Int32)) hO dX8_readHouse_106 (by decide)) ?_
          refine S_ (R_goto (tgt := 111) hO dX8_readHouse_107 (by decide)) ?_
          exact S_zret0 rfl hO hQ dX8_readHouse_111 rfl (by decide)
        · refine S_ (R_iconst (v := (0 : Int32)) hO dX8_readHouse_110 (by decide)) ?_
          exact S_zret0 rfl hO hQ dX8_readHouse_111 rfl (by decide)
      · refine S_ (R_iconst (v := (0 : Int32)) hO dX8_readHouse_110 (by decide)) ?_
        exact S_zret0 rfl hO hQ dX8_readHouse_111 rfl (by decide)
  · refine S_sub [1, 0] rfl ?_
    exact w_X8_readHouse_37 hO hQ x1 s0
def f_X8_readHouse (s0 : Mem) : Option (Int32 × Mem) := ing (0 : Int32) 29 <| lt (s0 190 (0 : Int32).toNatClampNeg) fun x1 => if (s0 183 11) = (1 : Int32) then (bd2 (f_X8_kindBy (s0 183 12) s0) fun x2 s3 => f_X8_readHouse_26 x1 x2 s3) else f_X8_readHouse_26 x1 (0 : Int32) s0
theorem cs_X8_readHouse (s0 : Mem) : CS 5 MX8_readHouse [.ref 183] s0 ((f_X8_readHouse s0).map wI) := by
  refine CS.of (by decide +kernel) (Nat.le_of_ble_eq_true rfl) (fun X Z hO hQ => ?_)
  show SIM X MX8_readHouse wI Z 0 [(0, .ref 183)] [] s0 _
  unfold f_X8_readHouse
  refine S_ (R_aload_n hO dX8_readHouse_0 rfl) ?_
  refine S_getR hO dX8_readHouse_1 fl_X8_28 sh_183 rfl ?_
  refine S_ (R_iconst (v := (0 : Int32)) hO dX8_readHouse_4 (by decide)) ?_
  refine S_iald hO dX8_readHouse_5 sh_190 ?_
  refine S_istore_n (L2 := fun x1 => [(1, .int x1), (0, .ref 183)]) hO dX8_readHouse_6 (Nat.le_of_ble_eq_true rfl) (fun _ => rfl) (fun x1 => ?_)
  refine S_ (R_aload_n hO dX8_readHouse_7 rfl) ?_
  refine S_getI hO dX8_readHouse_8 fl_X8_91 sh_183 rfl ?_
  refine S_ (R_iconst (v := (1 : Int32)) hO dX8_readHouse_11 (by decide)) ?_
  refine S_icmp_ne (tgt := 25) hO dX8_readHouse_12 (by decide) ?_ ?_
  · refine S_ (R_aload_n hO dX8_readHouse_15 rfl) ?_
    refine S_getI hO dX8_readHouse_16 fl_X8_94 sh_183 rfl ?_
    refine S_callSI (rest := []) hO dX8_readHouse_19 (cs_X8_kindBy (s0 183 12) s0) (by omega) lk_X8_117 np_X8_kindBy rfl (Nat.le_of_ble_eq_true rfl) (fun x2 s3 => ?_)
    refine S_ (R_goto (tgt := 26) hO dX8_readHouse_22 (by decide)) ?_
    refine S_sub [1, 0] rfl ?_
    exact w_X8_readHouse_26 hO hQ x1 x2 s3
  · refine S_ (R_iconst (v := (0 : Int32)) hO dX8_readHouse_25 (by decide)) ?_
    refine S_sub [1, 0] rfl ?_
    exact w_X8_readHouse_26 hO hQ x1 (0 : Int32) s0
def f_X8_readStreet_90 (K69 : Int32 → Mem → Option (Int32 × Mem)) (s0 : Mem) : Option (Int32 × Mem) := bd2 (f_X8_readHouse s0) fun x1 s2 => lt (x1) fun x3 => K69 x3 s2
theorem w_X8_readStreet_90 {X : CX} {Z : Option Value × Mem → Prop} (hO : OKX X false 6 MX8_readStreet) (hQ : OKS X Z) (K69 : Int32 → Mem → Option (Int32 × Mem)) (h69 : ∀ m1 τ, SIM X MX8_readStreet wI Z 69 [(0, .ref 183), (1, .int m1)] [] τ (K69 m1 τ)) (s0 : Mem) : SIM X MX8_readStreet wI Z 90 [(0, .ref 183)] [] s0 (f_X8_readStreet_90 K69 s0) := by
  unfold f_X8_readStreet_90
  refine S_ (R_aload_n hO dX8_readStreet_90 rfl) ?_
  refine S_callVI (rest := []) hO dX8_readStreet_91 (cs_X8_readHouse s0) (by omega) lk_X8_124 np_X8_readHouse (rc_183 rfl) rfl (Nat.le_of_ble_eq_true rfl) (fun x1 s2 => ?_)
  refine S_istore_n (L2 := fun x3 => [(1, .int x3), (0, .ref 183)]) hO dX8_readStreet_94 (Nat.le_of_ble_eq_true rfl) (fun _ => rfl) (fun x3 => ?_)
  refine S_ (R_goto (tgt := 69) hO dX8_readStreet_95 (by decide)) ?_
  refine S_sub [1, 0] rfl ?_
  exact h69 x3 s2
def f_X8_readStreet_69 : Nat → Int32 → Mem → Option (Int32 × Mem)
  | 0, _, _ => none
  | n + 1, m1, s0 => if m1 = 0 then (gd (m1 = 0 ∨ m1 = 1) <| some (m1, s0)) else if (s0 183 11) = (3 : Int32) then (ing (0 : Int32) 29 <| if (s0 190 (0 : Int32).toNatClampNeg) = 0 then (f_X8_readStreet_90 (f_X8_readStreet_69 n) s0) else gd (m1 = 0 ∨ m1 = 1) <| some (m1, s0)) else f_X8_readStreet_90 (f_X8_readStreet_69 n) s0
theorem w_X8_readStreet_69 {X : CX} {Z : Option Value × Mem → Prop} (hO : OKX X false 6 MX8_readStreet) (hQ : OKS X Z) : ∀ (n : Nat) (m1 : Int32) (s0 : Mem), SIM X MX8_readStreet wI Z 69 [(0, .ref 183), (1, .int m1)] [] s0 (f_X8_readStreet_69 n m1 s0) := by
  intro n
  induction n with
  | zero => intros; exact S_none
  | succ n ih =>
    intro m1 s0
    rw [f_X8_readStreet_69]
    refine S_ (R_iload_n hO dX8_readStreet_69 rfl) ?_
    refine S_if_eq (tgt := 98) hO dX8_readStreet_70 (by decide) ?_ ?_
    · refine S_ (R_aload_n hO dX8_readStreet_73 rfl) ?_
      refine S_getI hO dX8_readStreet_74 fl_X8_91 sh_183 rfl ?_
      refine S_ (R_iconst (v := (3 : Int32)) hO dX8_readStreet_77 (by decide)) ?_
      refine S_icmp_ne (tgt := 90) hO dX8_readStreet_78 (by decide) ?_ ?_
      · refine S_ (R_aload_n hO dX8_readStreet_81 rfl) ?_
        refine S_getR hO dX8_readStreet_82 fl_X8_28 sh_183 rfl ?_
        refine S_ (R_iconst (v := (0 : Int32)) hO dX8_readStreet_85 (by decide)) ?_
        refine S_iald hO dX8_readStreet_86 sh_190 ?_
        refine S_if_ne (tgt := 98) hO dX8_readStreet_87 (by decide) ?_ ?_
        · refine S_sub [0] rfl ?_
          exact w_X8_readStreet_90 hO hQ (f_X8_readStreet_69 n) ih s0
        · refine S_ (R_iload_n hO dX8_readStreet_98 rfl) ?_
          exact S_zret rfl hO hQ dX8_readStreet_99 rfl
      · refine S_sub [0] rfl ?_
        exact w_X8_readStreet_90 hO hQ (f_X8_readStreet_69 n) ih s0
    · refine S_ (R_iload_n hO dX8_readStreet_98 rfl) ?_
      exact S_zret rfl hO hQ dX8_readStreet_99 rfl
def f_X8_readStreet_7 : Nat → Int32 → Mem → Option (Int32 × Mem)
  | 0, _, _ => none
  | n + 1, m1, s0 => if (29 : Int32) ≤ m1 then (bd (f_X8_nextToken s0) fun s4 => bd2 (f_X8_takes (116 : Int32) s4) fun x5 s6 => if x5 = 0 then (some ((0 : Int32), s6)) else bd2 (f_X8_takesNumber (1 : Int32) (30 : Int32) (1 : Int32) (44 : Int32) s6) fun x7 s8 => if x7 = 0 then (some ((0 : Int32), s8)) else bd2 (f_X8_takesNumber (0 : Int32) (40 : Int32) (2 : Int32) (59 : Int32) s8) fun x9 s10 => if x9 = 0 then (some ((0 : Int32), s10)) else lt ((1 : Int32)) fun x11 => f_X8_readStreet_69 FU x11 s10) else ing m1 29 <| lt (st2 s0 190 m1.toNatClampNeg (0 : Int32)) fun s1 => lt (m1 + (1 : Int32)) fun x2 => f_X8_readStreet_7 n x2 s1
theorem w_X8_readStreet_7 {X : CX} {Z : Option Value × Mem → Prop} (hO : OKX X false 6 MX8_readStreet) (hQ : OKS X Z) : ∀ (n : Nat) (m1 : Int32) (s0 : Mem), SIM X MX8_readStreet wI Z 7 [(0, .ref 183), (1, .int m1)] [] s0 (f_X8_readStreet_7 n m1 s0) := by
  intro n
  induction n with
  | zero => intros; exact S_none
  | succ n ih =>
    intro m1 s0
    rw [f_X8_readStreet_7]
    refine S_ (R_iload_n hO dX8_readStreet_7 rfl) ?_
    refine S_ (R_bipush (v := (29 : Int32)) hO dX8_readStreet_8 (by decide)) ?_
    refine S_icmp_ge (tgt := 26) hO dX8_readStreet_10 (by decide) ?_ ?_
    · refine S_ (R_aload_n hO dX8_readStreet_13 rfl) ?_
      refine S_getR hO dX8_readStreet_14 fl_X8_28 sh_183 rfl ?_
      refine S_ (R_iload_n hO dX8_readStreet_17 rfl) ?_
      refine S_ (R_iconst (v := (0 : Int32)) hO dX8_readStreet_18 (by decide)) ?_
      refine S_iast hO dX8_readStreet_19 sh_190 (fun s1 => ?_)
      refine S_iinc (L2 := fun x2 => [(1, .int x2), (0, .ref 183)]) (v := (1 : Int32)) hO dX8_readStreet_20 rfl (by decide) (Nat.le_of_ble_eq_true rfl) (fun _ => rfl) (fun x2 => ?_)
      refine S_ (R_goto (tgt := 7) hO dX8_readStreet_23 (by decide)) ?_
      refine S_sub [1, 0] rfl ?_
      exact ih x2 s1
    · refine S_ (R_aload_n hO dX8_readStreet_26 rfl) ?_
      refine S_callVV (rest := []) hO dX8_readStreet_27 (cs_X8_nextToken s0) (by omega) lk_X8_111 np_X8_nextToken (rc_183 rfl) rfl (Nat.le_of_ble_eq_true rfl) (fun s4 => ?_)
      refine S_ (R_aload_n hO dX8_readStreet_30 rfl) ?_
      refine S_ (R_bipush (v := (116 : Int32)) hO dX8_readStreet_31 (by decide)) ?_
      refine S_callVI (rest := []) hO dX8_readStreet_33 (cs_X8_takes (116 : Int32) s4) (by omega) lk_X8_114 np_X8_takes (rc_183 rfl) rfl (Nat.le_of_ble_eq_true rfl) (fun x5 s6 => ?_)
      refine S_if_eq (tgt := 65) hO dX8_readStreet_36 (by decide) ?_ ?_
      · refine S_ (R_aload_n hO dX8_readStreet_39 rfl) ?_
        refine S_ (R_iconst (v := (1 : Int32)) hO dX8_readStreet_40 (by decide)) ?_
        refine S_ (R_bipush (v := (30 : Int32)) hO dX8_readStreet_41 (by decide)) ?_
        refine S_ (R_iconst (v := (1 : Int32)) hO dX8_readStreet_43 (by decide)) ?_
        refine S_ (R_bipush (v := (44 : Int32)) hO dX8_readStreet_44 (by decide)) ?_
        refine S_callVI (rest := []) hO dX8_readStreet_46 (cs_X8_takesNumber (1 : Int32) (30 : Int32) (1 : Int32) (44 : Int32) s6) (by omega) lk_X8_120 np_X8_takesNumber (rc_183 rfl) rfl (Nat.le_of_ble_eq_true rfl) (fun x7 s8 => ?_)
        refine S_if_eq (tgt := 65) hO dX8_readStreet_49 (by decide) ?_ ?_
        · refine S_ (R_aload_n hO dX8_readStreet_52 rfl) ?_
          refine S_ (R_iconst (v := (0 : Int32)) hO dX8_readStreet_53 (by decide)) ?_
          refine S_ (R_bipush (v := (40 : Int32)) hO dX8_readStreet_54 (by decide)) ?_
          refine S_ (R_iconst (v := (2 : Int32)) hO dX8_readStreet_56 (by decide)) ?_
          refine S_ (R_bipush (v := (59 : Int32)) hO dX8_readStreet_57 (by decide)) ?_
          refine S_callVI (rest := []) hO dX8_readStreet_59 (cs_X8_takesNumber (0 : Int32) (40 : Int32) (2 : Int32) (59 : Int32) s8) (by omega) lk_X8_120 np_X8_takesNumber (rc_183 rfl) rfl (Nat.le_of_ble_eq_true rfl) (fun x9 s10 => ?_)
          refine S_if_ne (tgt := 67) hO dX8_readStreet_62 (by decide) ?_ ?_
          · refine S_ (R_iconst (v := (0 : Int32)) hO dX8_readStreet_65 (by decide)) ?_
            exact S_zret0 rfl hO hQ dX8_readStreet_66 rfl (by decide)
          · refine S_ (R_iconst (v := (1 : Int32)) hO dX8_readStreet_67 (by decide)) ?_
            refine S_istore_n (L2 := fun x11 => [(1, .int x11), (0, .ref 183)]) hO dX8_readStreet_68 (Nat.le_of_ble_eq_true rfl) (fun _ => rfl) (fun x11 => ?_)
            refine S_sub [1, 0] rfl ?_
            exact w_X8_readStreet_69 hO hQ FU x11 s10
        · refine S_ (R_iconst (v := (0 : Int32)) hO dX8_readStreet_65 (by decide)) ?_
          exact S_zret0 rfl hO hQ dX8_readStreet_66 rfl (by decide)
      · refine S_ (R_iconst (v := (0 : Int32)) hO dX8_readStreet_65 (by decide)) ?_
        exact S_zret0 rfl hO hQ dX8_readStreet_66 rfl (by decide)
def f_X8_readStreet (s0 : Mem) : Option (Int32 × Mem) := lt (st2 s0 183 10 (0 : Int32)) fun s1 => lt ((0 : Int32)) fun x2 => f_X8_readStreet_7 FU x2 s1
theorem cs_X8_readStreet (s0 : Mem) : CS 6 MX8_readStreet [.ref 183] s0 ((f_X8_readStreet s0).map wI) := by
  refine CS.of (by decide +kernel) (Nat.le_of_ble_eq_true rfl) (fun X Z hO hQ => ?_)
  show SIM X MX8_readStreet wI Z 0 [(0, .ref 183)] [] s0 _
  unfold f_X8_readStreet
  refine S_ (R_aload_n hO dX8_readStreet_0 rfl) ?_
  refine S_ (R_iconst (v := (0 : Int32)) hO dX8_readStreet_1 (by decide)) ?_
  refine S_put hO dX8_readStreet_2 fl_X8_85 sh_183 rfl (fun s1 => ?_)
  refine S_ (R_iconst (v := (0 : Int32)) hO dX8_readStreet_5 (by decide)) ?_
  refine S_istore_n (L2 := fun x2 => [(1, .int x2), (0, .ref 183)]) hO dX8_readStreet_6 (Nat.le_of_ble_eq_true rfl) (fun _ => rfl) (fun x2 => ?_)
  refine S_sub [1, 0] rfl ?_
  exact w_X8_readStreet_7 hO hQ FU x2 s1
def f_X8_street_32 : Nat → Int32 → Mem → Option (Int32 × Mem)
  | 0, _, _ => none
  | n + 1, m2, s0 => if (29 : Int32) ≤ m2 then (lt (st2 s0 183 4 (1 : Int32)) fun s3 => lt (st2 s3 183 17 (0 : Int32)) fun s4 => ing (0 : Int32) 29 <| some (s4 187 (0 : Int32).toNatClampNeg, s4)) else ing m2 29 <| ing m2 29 <| lt (st2 s0 187 m2.toNatClampNeg (s0 190 m2.toNatClampNeg)) fun s1 => lt (m2 + (1 : Int32)) fun x2 => f_X8_street_32 n x2 s1
theorem w_X8_street_32 {X : CX} {Z : Option Value × Mem → Prop} (hO : OKX X false 7 MX8_street) (hQ : OKS X Z) : ∀ (n : Nat) (m2 : Int32) (s0 : Mem), SIM X MX8_street wI Z 32 [(0, .ref 183), (2, .int m2)] [] s0 (f_X8_street_32 n m2 s0) := by
  intro n
  induction n with
  | zero => intros; exact S_none
  | succ n ih =>
    intro m2 s0
    rw [f_X8_street_32]
    refine S_ (R_iload_n hO dX8_street_32 rfl) ?_
    refine S_ (R_bipush (v := (29 : Int32)) hO dX8_street_33 (by decide)) ?_
    refine S_icmp_ge (tgt := 56) hO dX8_street_35 (by decide) ?_ ?_
    · refine S_ (R_aload_n hO dX8_street_38 rfl) ?_
      refine S_getR hO dX8_street_39 fl_X8_19 sh_183 rfl ?_
      refine S_ (R_iload_n hO dX8_street_42 rfl) ?_
      refine S_ (R_aload_n hO dX8_street_43 rfl) ?_
      refine S_getR hO dX8_street_44 fl_X8_28 sh_183 rfl ?_
      refine S_ (R_iload_n hO dX8_street_47 rfl) ?_
      refine S_iald hO dX8_street_48 sh_190 ?_
      refine S_iast hO dX8_street_49 sh_187 (fun s1 => ?_)
      refine S_iinc (L2 := fun x2 => [(2, .int x2), (0, .ref 183)]) (v := (1 : Int32)) hO dX8_street_50 rfl (by decide) (Nat.le_of_ble_eq_true rfl) (fun _ => rfl) (fun x2 => ?_)
      refine S_ (R_goto (tgt := 32) hO dX8_street_53 (by decide)) ?_
      refine S_sub [1, 0] rfl ?_
      exact ih x2 s1
    · refine S_ (R_aload_n hO dX8_street_56 rfl) ?_
      refine S_ (R_iconst (v := (1 : Int32)) hO dX8_street_57 (by decide)) ?_
      refine S_putZ hO dX8_street_58 fl_X8_135 (by decide) sh_183 rfl (fun s3 => ?_)
      refine S_ (R_aload_n hO dX8_street_61 rfl) ?_
      refine S_ (R_iconst (v := (0 : Int32)) hO dX8_street_62 (by decide)) ?_
      refine S_put hO dX8_street_63 fl_X8_139 sh_183 rfl (fun s4 => ?_)
      refine S_ (R_aload_n hO dX8_street_66 rfl) ?_
      refine S_getR hO dX8_street_67 fl_X8_19 sh_183 rfl ?_
      refine S_ (R_iconst (v := (0 : Int32)) hO dX8_street_70 (by decide)) ?_
      refine S_iald hO dX8_street_71 sh_187 ?_
      exact S_iret rfl hO hQ dX8_street_72 rfl
def f_X8_street (s0 : Mem) : Option (Int32 × Mem) := bd2 (f_X8_readStreet s0) fun x1 s2 => lt (x1) fun x3 => lt (st2 s2 183 8 (0 : Int32)) fun s4 => if x3 = 0 then (lt (st2 s4 183 9 (s4 183 14)) fun s5 => some ((-1000100 : Int32) - (s5 183 13), s5)) else lt ((0 : Int32)) fun x6 => f_X8_street_32 FU x6 s4
theorem cs_X8_street (s0 : Mem) : CS 7 MX8_street [.ref 183] s0 ((f_X8_street s0).map wI) := by
  refine CS.of (by decide +kernel) (Nat.le_of_ble_eq_true rfl) (fun X Z hO hQ => ?_)
  show SIM X MX8_street wI Z 0 [(0, .ref 183)] [] s0 _
  unfold f_X8_street
  refine S_ (R_aload_n hO dX8_street_0 rfl) ?_
  refine S_callVI (rest := []) hO dX8_street_1 (cs_X8_readStreet s0) (by omega) lk_X8_128 np_X8_readStreet (rc_183 rfl) rfl (Nat.le_of_ble_eq_true rfl) (fun x1 s2 => ?_)
  refine S_istore_n (L2 := fun x3 => [(1, .int x3), (0, .ref 183)]) hO dX8_street_4 (Nat.le_of_ble_eq_true rfl) (fun _ => rfl) (fun x3 => ?_)
  refine S_ (R_aload_n hO dX8_street_5 rfl) ?_
  refine S_ (R_iconst (v := (0 : Int32)) hO dX8_street_6 (by decide)) ?_
  refine S_put hO dX8_street_7 fl_X8_81 sh_183 rfl (fun s4 => ?_)
  refine S_ (R_iload_n hO dX8_street_10 rfl) ?_
  refine S_if_ne (tgt := 30) hO dX8_street_11 (by decide) ?_ ?_
  · refine S_ (R_aload_n hO dX8_street_14 rfl) ?_
    refine S_ (R_aload_n hO dX8_street_15 rfl) ?_
    refine S_getI hO dX8_street_16 fl_X8_105 sh_183 rfl ?_
    refine S_put hO dX8_street_19 fl_X8_131 sh_183 rfl (fun s5 => ?_)
    refine S_ (R_ldc (v := (-1000100 : Int32)) hO dX8_street_22 kc_X8_134) ?_
    refine S_ (R_aload_n hO dX8_street_24 rfl) ?_
    refine S_getI hO dX8_street_25 fl_X8_88 sh_183 rfl ?_
    refine S_ (R_isub hO dX8_street_28) ?_
    exact S_iret rfl hO hQ dX8_street_29 rfl
  · refine S_ (R_iconst (v := (0 : Int32)) hO dX8_street_30 (by decide)) ?_
    refine S_istore_n (L2 := fun x6 => [(2, .int x6), (1, .int x3), (0, .ref 183)]) hO dX8_street_31 (Nat.le_of_ble_eq_true rfl) (fun _ => rfl) (fun x6 => ?_)
    refine S_sub [2, 0] rfl ?_
    exact w_X8_street_32 hO hQ FU x6 s4
def f_X8_fault (s0 : Mem) : Option (Int32 × Mem) := some (s0 183 9, s0)
theorem cs_X8_fault (s0 : Mem) : CS 1 MX8_fault [.ref 183] s0 ((f_X8_fault s0).map wI) := by
  refine CS.of (by decide +kernel) (Nat.le_of_ble_eq_true rfl) (fun X Z hO hQ => ?_)
  show SIM X MX8_fault wI Z 0 [(0, .ref 183)] [] s0 _
  unfold f_X8_fault
  refine S_ (R_aload_n hO dX8_fault_0 rfl) ?_
  refine S_getI hO dX8_fault_1 fl_X8_131 sh_183 rfl ?_
  exact S_iret rfl hO hQ dX8_fault_4 rfl
def f_X8_isHouse (p1 : Int32) (s0 : Mem) : Option (Int32 × Mem) := ing (0 : Int32) 29 <| bd2 (f_X8_in p1.toInt64 (0 : Int64) (((s0 187 (0 : Int32).toNatClampNeg) - (1 : Int32)).toInt64) s0) fun x1 s2 => gd (x1 = 0 ∨ x1 = 1) <| some (x1, s2)
theorem cs_X8_isHouse (p1 : Int32) (s0 : Mem) : CS 2 MX8_isHouse [.ref 183, .int p1] s0 ((f_X8_isHouse p1 s0).map wI) := by
  refine CS.of (by decide +kernel) (Nat.le_of_ble_eq_true rfl) (fun X Z hO hQ => ?_)
  show SIM X MX8_isHouse wI Z 0 [(0, .ref 183), (1, .int p1)] [] s0 _
  unfold f_X8_isHouse
  refine S_ (R_iload_n hO dX8_isHouse_0 rfl) ?_
  refine S_ (R_i2l hO dX8_isHouse_1) ?_
  refine S_ (R_lconst (v := (0 : Int64)) hO dX8_isHouse_2 (by decide)) ?_
  refine S_ (R_aload_n hO dX8_isHouse_3 rfl) ?_
  refine S_getR hO dX8_isHouse_4 fl_X8_19 sh_183 rfl ?_
  refine S_ (R_iconst (v := (0 : Int32)) hO dX8_isHouse_7 (by decide)) ?_
  refine S_iald hO dX8_isHouse_8 sh_187 ?_
  refine S_ (R_iconst (v := (1 : Int32)) hO dX8_isHouse_9 (by decide)) ?_
  refine S_ (R_isub hO dX8_isHouse_10) ?_
  refine S_ (R_i2l hO dX8_isHouse_11) ?_
  refine S_callSI (rest := []) hO dX8_isHouse_12 (cs_X8_in p1.toInt64 (0 : Int64) (((s0 187 (0 : Int32).toNatClampNeg) - (1 : Int32)).toInt64) s0) (by omega) lk_X8_57 np_X8_in rfl (Nat.le_of_ble_eq_true rfl) (fun x1 s2 => ?_)
  exact S_zret rfl hO hQ dX8_isHouse_15 rfl
def f_X8_stands (p1 : Int32) (s0 : Mem) : Option (Int32 × Mem) := ing ((21 : Int32) + p1) 29 <| if (s0 187 ((21 : Int32) + p1).toNatClampNeg) ≤ 0 then (some ((0 : Int32), s0)) else some ((1 : Int32), s0)
theorem cs_X8_stands (p1 : Int32) (s0 : Mem) : CS 1 MX8_stands [.ref 183, .int p1] s0 ((f_X8_stands p1 s0).map wI) := by
  refine CS.of (by decide +kernel) (Nat.le_of_ble_eq_true rfl) (fun X Z hO hQ => ?_)
  show SIM X MX8_stands wI Z 0 [(0, .ref 183), (1, .int p1)] [] s0 _
  unfold f_X8_stands
  refine S_ (R_aload_n hO dX8_stands_0 rfl) ?_
  refine S_getR hO dX8_stands_1 fl_X8_19 sh_183 rfl ?_
  refine S_ (R_bipush (v := (21 : Int32)) hO dX8_stands_4 (by decide)) ?_
  refine S_ (R_iload_n hO dX8_stands_6 rfl) ?_
  refine S_ (R_iadd hO dX8_stands_7) ?_
  refine S_iald hO dX8_stands_8 sh_187 ?_
  refine S_if_le (tgt := 16) hO dX8_stands_9 (by decide) ?_ ?_
  · refine S_ (R_iconst (v := (1 : Int32)) hO dX8_stands_12 (by decide)) ?_
    refine S_ (R_goto (tgt := 17) hO dX8_stands_13 (by decide)) ?_
    exact S_zret0 rfl hO hQ dX8_stands_17 rfl (by decide)
  · refine S_ (R_iconst (v := (0 : Int32)) hO dX8_stands_16 (by decide)) ?_
    exact S_zret0 rfl hO hQ dX8_stands_17 rfl (by decide)
def f_X8_leans (p1 : Int32) (s0 : Mem) : Option (Int32 × Mem) := bd2 (f_X8_stands p1 s0) fun x1 s2 => if x1 = 0 then (some ((0 : Int32), s2)) else ing ((21 : Int32) + p1) 29 <| ing (2 : Int32) 29 <| if (s2 187 (2 : Int32).toNatClampNeg) ≤ (s2 187 ((21 : Int32) + p1).toNatClampNeg) then (some ((0 : Int32), s2)) else some ((1 : Int32), s2)
theorem cs_X8_leans (p1 : Int32) (s0 : Mem) : CS 2 MX8_leans [.ref 183, .int p1] s0 ((f_X8_leans p1 s0).map wI) := by
  refine CS.of (by decide +kernel) (Nat.le_of_ble_eq_true rfl) (fun X Z hO hQ => ?_)
  show SIM X MX8_leans wI Z 0 [(0, .ref 183), (1, .int p1)] [] s0 _
  unfold f_X8_leans
  refine S_ (R_aload_n hO dX8_leans_0 rfl) ?_
  refine S_ (R_iload_n hO dX8_leans_1 rfl) ?_
  refine S_callVI (rest := []) hO dX8_leans_2 (cs_X8_stands p1 s0) (by omega) lk_X8_142 np_X8_stands (rc_183 rfl) rfl (Nat.le_of_ble_eq_true rfl) (fun x1 s2 => ?_)
  refine S_if_eq (tgt := 30) hO dX8_leans_5 (by decide) ?_ ?_
  · refine S_ (R_aload_n hO dX8_leans_8 rfl) ?_
    refine S_getR hO dX8_leans_9 fl_X8_19 sh_183 rfl ?_
    refine S_ (R_bipush (v := (21 : Int32)) hO dX8_leans_12 (by decide)) ?_
    refine S_ (R_iload_n hO dX8_leans_14 rfl) ?_
    refine S_ (R_iadd hO dX8_leans_15) ?_
    refine S_iald hO dX8_leans_16 sh_187 ?_
    refine S_ (R_aload_n hO dX8_leans_17 rfl) ?_
    refine S_getR hO dX8_leans_18 fl_X8_19 sh_183 rfl ?_
    refine S_ (R_iconst (v := (2 : Int32)) hO dX8_leans_21 (by decide)) ?_
    refine S_iald hO dX8_leans_22 sh_187 ?_
    refine S_icmp_ge (tgt := 30) hO dX8_leans_23 (by decide) ?_ ?_
    · refine S_ (R_iconst (v := (1 : Int32)) hO dX8_leans_26 (by decide)) ?_
      refine S_ (R_goto (tgt := 31) hO dX8_leans_27 (by decide)) ?_
      exact S_zret0 rfl hO hQ dX8_leans_31 rfl (by decide)
    · refine S_ (R_iconst (v := (0 : Int32)) hO dX8_leans_30 (by decide)) ?_
      exact S_zret0 rfl hO hQ dX8_leans_31 rfl (by decide)
  · refine S_ (R_iconst (v := (0 : Int32)) hO dX8_leans_30 (by decide)) ?_
    exact S_zret0 rfl hO hQ dX8_leans_31 rfl (by decide)
def f_X8_touches_24 (p1 : Int32) (t0 : Int32) (s0 : Mem) : Option (Int32 × Mem) := ing (4 : Int32) 29 <| bd2 (f_X8_has (s0 187 (4 : Int32).toNatClampNeg) p1 s0) fun x1 s2 => if x1 = 0 then (some (t0 + (0 : Int32), s2)) else some (t0 + (1 : Int32), s2)
theorem w_X8_touches_24 {X : CX} {Z : Option Value × Mem → Prop} (hO : OKX X false 2 MX8_touches) (hQ : OKS X Z) (p1 : Int32) (t0 : Int32) (s0 : Mem) : SIM X MX8_touches wI Z 24 [(0, .ref 183), (1, .int p1)] [.int t0] s0 (f_X8_touches_24 p1 t0 s0) := by
  unfold f_X8_touches_24
  refine S_ (R_aload_n hO dX8_touches_24 rfl) ?_
  refine S_getR hO dX8_touches_25 fl_X8_19 sh_183 rfl ?_
  refine S_ (R_iconst (v := (4 : Int32)) hO dX8_touches_28 (by decide)) ?_
  refine S_iald hO dX8_touches_29 sh_187 ?_
  refine S_ (R_iload_n hO dX8_touches_30 rfl) ?_
  refine S_callSI (rest := [.int t0]) hO dX8_touches_31 (cs_X8_has (s0 187 (4 : Int32).toNatClampNeg) p1 s0) (by omega) lk_X8_145 np_X8_has rfl (Nat.le_of_ble_eq_true rfl) (fun x1 s2 => ?_)
  refine S_if_eq (tgt := 41) hO dX8_touches_34 (by decide) ?_ ?_
  · refine S_ (R_iconst (v := (1 : Int32)) hO dX8_touches_37 (by decide)) ?_
    refine S_ (R_goto (tgt := 42) hO dX8_touches_38 (by decide)) ?_
    refine S_ (R_iadd hO dX8_touches_42) ?_
    exact S_iret rfl hO hQ dX8_touches_43 rfl
  · refine S_ (R_iconst (v := (0 : Int32)) hO dX8_touches_41 (by decide)) ?_
    refine S_ (R_iadd hO dX8_touches_42) ?_
    exact S_iret rfl hO hQ dX8_touches_43 rfl
def f_X8_touches (p1 : Int32) (s0 : Mem) : Option (Int32 × Mem) := if p1 ≤ 0 then (f_X8_touches_24 p1 (0 : Int32) s0) else ing (4 : Int32) 29 <| bd2 (f_X8_has (s0 187 (4 : Int32).toNatClampNeg) (p1 - (1 : Int32)) s0) fun x1 s2 => if x1 = 0 then (f_X8_touches_24 p1 (0 : Int32) s2) else f_X8_touches_24 p1 (1 : Int32) s2
theorem cs_X8_touches (p1 : Int32) (s0 : Mem) : CS 2 MX8_touches [.ref 183, .int p1] s0 ((f_X8_touches p1 s0).map wI) := by
  refine CS.of (by decide +kernel) (Nat.le_of_ble_eq_true rfl) (fun X Z hO hQ => ?_)
  show SIM X MX8_touches wI Z 0 [(0, .ref 183), (1, .int p1)] [] s0 _
  unfold f_X8_touches
  refine S_ (R_iload_n hO dX8_touches_0 rfl) ?_
  refine S_if_le (tgt := 23) hO dX8_touches_1 (by decide) ?_ ?_
  · refine S_ (R_aload_n hO dX8_touches_4 rfl) ?_
    refine S_getR hO dX8_touches_5 fl_X8_19 sh_183 rfl ?_
    refine S_ (R_iconst (v := (4 : Int32)) hO dX8_touches_8 (by decide)) ?_
    refine S_iald hO dX8_touches_9 sh_187 ?_
    refine S_ (R_iload_n hO dX8_touches_10 rfl) ?_
    refine S_ (R_iconst (v := (1 : Int32)) hO dX8_touches_11 (by decide)) ?_
    refine S_ (R_isub hO dX8_touches_12) ?_
    refine S_callSI (rest := []) hO dX8_touches_13 (cs_X8_has (s0 187 (4 : Int32).toNatClampNeg) (p1 - (1 : Int32)) s0) (by omega) lk_X8_145 np_X8_has rfl (Nat.le_of_ble_eq_true rfl) (fun x1 s2 => ?_)
    refine S_if_eq (tgt := 23) hO dX8_touches_16 (by decide) ?_ ?_
    · refine S_ (R_iconst (v := (1 : Int32)) hO dX8_touches_19 (by decide)) ?_
      refine S_ (R_goto (tgt := 24) hO dX8_touches_20 (by decide)) ?_
      refine S_sub [0, 1] rfl ?_
      exact w_X8_touches_24 hO hQ p1 (1 : Int32) s2
    · refine S_ (R_iconst (v := (0 : Int32)) hO dX8_touches_23 (by decide)) ?_
      refine S_sub [0, 1] rfl ?_
      exact w_X8_touches_24 hO hQ p1 (0 : Int32) s2
  · refine S_ (R_iconst (v := (0 : Int32)) hO dX8_touches_23 (by decide)) ?_
    refine S_sub [0, 1] rfl ?_
    exact w_X8_touches_24 hO hQ p1 (0 : Int32) s0
def f_X8_lossOf (p1 : Int32) (s0 : Mem) : Option (Int32 × Mem) := ing ((13 : Int32) + p1) 29 <| lt (s0 187 ((13 : Int32) + p1).toNatClampNeg) fun x1 => bd2 (f_X8_stands p1 s0) fun x2 s3 => if x2 = 0 then (some ((0 : Int32), s3)) else ing ((5 : Int32) + p1) 29 <| swi (s3 187 ((5 : Int32) + p1).toNatClampNeg) 1 4 (fun j => match j with | 0 => (some (x1, s3)) | 1 => (bd2 (f_X8_leans p1 s3) fun x6 s7 => if x6 = 0 then (some (x1, s7)) else some ((2 : Int32) * x1, s7)) | 2 => (if (4 : Int32) ≤ x1 then (some (x1 / (2 : Int32), s3)) else some ((1 : Int32), s3)) | 3 => (bd2 (f_X8_touches p1 s3) fun x8 s9 => some ((1 : Int32) + x8, s9)) | _ => none) (ing ((21 : Int32) + p1) 29 <| if (s3 187 ((21 : Int32) + p1).toNatClampNeg) < (50 : Int32) then (bd2 (f_X8_touches p1 s3) fun x4 s5 => some ((1 : Int32) + x4, s5)) else some ((0 : Int32), s3))
theorem cs_X8_lossOf (p1 : Int32) (s0 : Mem) : CS 3 MX8_lossOf [.ref 183, .int p1] s0 ((f_X8_lossOf p1 s0).map wI) := by
  refine CS.of (by decide +kernel) (Nat.le_of_ble_eq_true rfl) (fun X Z hO hQ => ?_)
  show SIM X MX8_lossOf wI Z 0 [(0, .ref 183), (1, .int p1)] [] s0 _
  unfold f_X8_lossOf
  refine S_ (R_aload_n hO dX8_lossOf_0 rfl) ?_
  refine S_getR hO dX8_lossOf_1 fl_X8_19 sh_183 rfl ?_
  refine S_ (R_bipush (v := (13 : Int32)) hO dX8_lossOf_4 (by decide)) ?_
  refine S_ (R_iload_n hO dX8_lossOf_6 rfl) ?_
  refine S_ (R_iadd hO dX8_lossOf_7) ?_
  refine S_iald hO dX8_lossOf_8 sh_187 ?_
  refine S_istore_n (L2 := fun x1 => [(2, .int x1), (0, .ref 183), (1, .int p1)]) hO dX8_lossOf_9 (Nat.le_of_ble_eq_true rfl) (fun _ => rfl) (fun x1 => ?_)
  refine S_ (R_aload_n hO dX8_lossOf_10 rfl) ?_
  refine S_ (R_iload_n hO dX8_lossOf_11 rfl) ?_
  refine S_callVI (rest := []) hO dX8_lossOf_12 (cs_X8_stands p1 s0) (by omega) lk_X8_142 np_X8_stands (rc_183 rfl) rfl (Nat.le_of_ble_eq_true rfl) (fun x2 s3 => ?_)
  refine S_if_ne (tgt := 20) hO dX8_lossOf_15 (by decide) ?_ ?_
  · refine S_ (R_iconst (v := (0 : Int32)) hO dX8_lossOf_18 (by decide)) ?_
    exact S_iret rfl hO hQ dX8_lossOf_19 rfl
  · refine S_ (R_aload_n hO dX8_lossOf_20 rfl) ?_
    refine S_getR hO dX8_lossOf_21 fl_X8_19 sh_183 rfl ?_
    refine S_ (R_iconst (v := (5 : Int32)) hO dX8_lossOf_24 (by decide)) ?_
    refine S_ (R_iload_n hO dX8_lossOf_25 rfl) ?_
    refine S_ (R_iadd hO dX8_lossOf_26) ?_
    refine S_iald hO dX8_lossOf_27 sh_187 ?_
    refine S_tsw (lo := 1) (n := 4) (tgt := fun j => ([60, 62, 78, 91] : List Nat).getD j 0) (tgd := 99) hO dX8_lossOf_28 (by decide) (by decide) (by decide) ?_ ?_
    · refine S_ (R_aload_n hO dX8_lossOf_99 rfl) ?_
      refine S_getR hO dX8_lossOf_100 fl_X8_19 sh_183 rfl ?_
      refine S_ (R_bipush (v := (21 : Int32)) hO dX8_lossOf_103 (by decide)) ?_
      refine S_ (R_iload_n hO dX8_lossOf_105 rfl) ?_
      refine S_ (R_iadd hO dX8_lossOf_106) ?_
      refine S_iald hO dX8_lossOf_107 sh_187 ?_
      refine S_ (R_bipush (v := (50 : Int32)) hO dX8_lossOf_108 (by decide)) ?_
      refine S_icmp_lt (tgt := 117) hO dX8_lossOf_110 (by decide) ?_ ?_
      · refine S_ (R_iconst (v := (0 : Int32)) hO dX8_lossOf_113 (by decide)) ?_
        refine S_ (R_goto (tgt := 124) hO dX8_lossOf_114 (by decide)) ?_
        exact S_iret rfl hO hQ dX8_lossOf_124 rfl
      · refine S_ (R_iconst (v := (1 : Int32)) hO dX8_lossOf_117 (by decide)) ?_
        refine S_ (R_aload_n hO dX8_lossOf_118 rfl) ?_
        refine S_ (R_iload_n hO dX8_lossOf_119 rfl) ?_
        refine S_callVI (rest := [.int (1 : Int32)]) hO dX8_lossOf_120 (cs_X8_touches p1 s3) (by omega) lk_X8_152 np_X8_touches (rc_183 rfl) rfl (Nat.le_of_ble_eq_true rfl) (fun x4 s5 => ?_)
        refine S_ (R_iadd hO dX8_lossOf_123) ?_
        exact S_iret rfl hO hQ dX8_lossOf_124 rfl
    · intro j hj
      rcases (show j = 0 ∨ j = 1 ∨ j = 2 ∨ j = 3 by omega) with rfl | rfl | rfl | rfl
      · refine S_ (R_iload_n hO dX8_lossOf_60 rfl) ?_
        exact S_iret rfl hO hQ dX8_lossOf_61 rfl
      · refine S_ (R_aload_n hO dX8_lossOf_62 rfl) ?_
        refine S_ (R_iload_n hO dX8_lossOf_63 rfl) ?_
        refine S_callVI (rest := []) hO dX8_lossOf_64 (cs_X8_leans p1 s3) (by omega) lk_X8_149 np_X8_leans (rc_183 rfl) rfl (Nat.le_of_ble_eq_true rfl) (fun x6 s7 => ?_)
        refine S_if_eq (tgt := 76) hO dX8_lossOf_67 (by decide) ?_ ?_
        · refine S_ (R_iconst (v := (2 : Int32)) hO dX8_lossOf_70 (by decide)) ?_
          refine S_ (R_iload_n hO dX8_lossOf_71 rfl) ?_
          refine S_ (R_imul hO dX8_lossOf_72) ?_
          refine S_ (R_goto (tgt := 77) hO dX8_lossOf_73 (by decide)) ?_
          exact S_iret rfl hO hQ dX8_lossOf_77 rfl
        · refine S_ (R_iload_n hO dX8_lossOf_76 rfl) ?_
          exact S_iret rfl hO hQ dX8_lossOf_77 rfl
      · refine S_ (R_iload_n hO dX8_lossOf_78 rfl) ?_
        refine S_ (R_iconst (v := (4 : Int32)) hO dX8_lossOf_79 (by decide)) ?_
        refine S_icmp_ge (tgt := 87) hO dX8_lossOf_80 (by decide) ?_ ?_
        · refine S_ (R_iconst (v := (1 : Int32)) hO dX8_lossOf_83 (by decide)) ?_
          refine S_ (R_goto (tgt := 90) hO dX8_lossOf_84 (by decide)) ?_
          exact S_iret rfl hO hQ dX8_lossOf_90 rfl
        · refine S_ (R_iload_n hO dX8_lossOf_87 rfl) ?_
          refine S_ (R_iconst (v := (2 : Int32)) hO dX8_lossOf_88 (by decide)) ?_
          refine S_ (R_idiv hO dX8_lossOf_89 (by decide)) ?_
          exact S_iret rfl hO hQ dX8_lossOf_90 rfl
      · refine S_ (R_iconst (v := (1 : Int32)) hO dX8_lossOf_91 (by decide)) ?_
        refine S_ (R_aload_n hO dX8_lossOf_92 rfl) ?_
        refine S_ (R_iload_n hO dX8_lossOf_93 rfl) ?_
        refine S_callVI (rest := [.int (1 : Int32)]) hO dX8_lossOf_94 (cs_X8_touches p1 s3) (by omega) lk_X8_152 np_X8_touches (rc_183 rfl) rfl (Nat.le_of_ble_eq_true rfl) (fun x8 s9 => ?_)
        refine S_ (R_iadd hO dX8_lossOf_97) ?_
        exact S_iret rfl hO hQ dX8_lossOf_98 rfl
def f_X8_loses (p1 : Int32) (p2 : Int32) (s0 : Mem) : Option (Mem) := ing ((21 : Int32) + p1) 29 <| if (s0 187 ((21 : Int32) + p1).toNatClampNeg) ≤ p2 then (ing ((21 : Int32) + p1) 29 <| lt (st2 s0 187 ((21 : Int32) + p1).toNatClampNeg (0 : Int32)) fun s2 => some s2) else ing ((21 : Int32) + p1) 29 <| ing ((21 : Int32) + p1) 29 <| lt (st2 s0 187 ((21 : Int32) + p1).toNatClampNeg ((s0 187 ((21 : Int32) + p1).toNatClampNeg) - p2)) fun s1 => some s1
theorem cs_X8_loses (p1 : Int32) (p2 : Int32) (s0 : Mem) : CS 1 MX8_loses [.ref 183, .int p1, .int p2] s0 ((f_X8_loses p1 p2 s0).map wV) := by
  refine CS.of (by decide +kernel) (Nat.le_of_ble_eq_true rfl) (fun X Z hO hQ => ?_)
  show SIM X MX8_loses wV Z 0 [(0, .ref 183), (1, .int p1), (2, .int p2)] [] s0 _
  unfold f_X8_loses
  refine S_ (R_aload_n hO dX8_loses_0 rfl) ?_
  refine S_getR hO dX8_loses_1 fl_X8_19 sh_183 rfl ?_
  refine S_ (R_bipush (v := (21 : Int32)) hO dX8_loses_4 (by decide)) ?_
  refine S_ (R_iload_n hO dX8_loses_6 rfl) ?_
  refine S_ (R_iadd hO dX8_loses_7) ?_
  refine S_ (R_aload_n hO dX8_loses_8 rfl) ?_
  refine S_getR hO dX8_loses_9 fl_X8_19 sh_183 rfl ?_
  refine S_ (R_bipush (v := (21 : Int32)) hO dX8_loses_12 (by decide)) ?_
  refine S_ (R_iload_n hO dX8_loses_14 rfl) ?_
  refine S_ (R_iadd hO dX8_loses_15) ?_
  refine S_iald hO dX8_loses_16 sh_187 ?_
  refine S_ (R_iload_n hO dX8_loses_17 rfl) ?_
  refine S_icmp_le (tgt := 35) hO dX8_loses_18 (by decide) ?_ ?_
  · refine S_ (R_aload_n hO dX8_loses_21 rfl) ?_
    refine S_getR hO dX8_loses_22 fl_X8_19 sh_183 rfl ?_
    refine S_ (R_bipush (v := (21 : Int32)) hO dX8_loses_25 (by decide)) ?_
    refine S_ (R_iload_n hO dX8_loses_27 rfl) ?_
    refine S_ (R_iadd hO dX8_loses_28) ?_
    refine S_iald hO dX8_loses_29 sh_187 ?_
    refine S_ (R_iload_n hO dX8_loses_30 rfl) ?_
    refine S_ (R_isub hO dX8_loses_31) ?_
    refine S_ (R_goto (tgt := 36) hO dX8_loses_32 (by decide)) ?_
    refine S_iast hO dX8_loses_36 sh_187 (fun s1 => ?_)
    exact S_vret rfl hO hQ dX8_loses_37 rfl
  · refine S_ (R_iconst (v := (0 : Int32)) hO dX8_loses_35 (by decide)) ?_
    refine S_iast hO dX8_loses_36 sh_187 (fun s2 => ?_)
    exact S_vret rfl hO hQ dX8_loses_37 rfl
def f_X8_standing_4 : Nat → Int32 → Int32 → Mem → Option (Int32 × Mem)
  | 0, _, _, _ => none
  | n + 1, m1, m2, s0 => ing (0 : Int32) 29 <| if (s0 187 (0 : Int32).toNatClampNeg) ≤ m2 then (some (m1, s0)) else bd2 (f_X8_stands m2 s0) fun x1 s2 => if x1 = 0 then (lt (m1 ||| (0 : Int32)) fun x5 => lt (m2 + (1 : Int32)) fun x6 => f_X8_standing_4 n x5 x6 s2) else lt (m1 ||| ((1 : Int32) <<< (m2 &&& 31))) fun x3 => lt (m2 + (1 : Int32)) fun x4 => f_X8_standing_4 n x3 x4 s2
theorem w_X8_standing_4 {X : CX} {Z : Option Value × Mem → Prop} (hO : OKX X false 2 MX8_standing) (hQ : OKS X Z) : ∀ (n : Nat) (m1 : Int32) (m2 : Int32) (s0 : Mem), SIM X MX8_standing wI Z 4 [(0, .ref 183), (1, .int m1), (2, .int m2)] [] s0 (f_X8_standing_4 n m1 m2 s0) := by
  intro n
  induction n with
  | zero => intros; exact S_none
  | succ n ih =>
    intro m1 m2 s0
    rw [f_X8_standing_4]
    refine S_ (R_iload_n hO dX8_standing_4 rfl) ?_
    refine S_ (R_aload_n hO dX8_standing_5 rfl) ?_
    refine S_getR hO dX8_standing_6 fl_X8_19 sh_183 rfl ?_
    refine S_ (R_iconst (v := (0 : Int32)) hO dX8_standing_9 (by decide)) ?_
    refine S_iald hO dX8_standing_10 sh_187 ?_
    refine S_icmp_ge (tgt := 38) hO dX8_standing_11 (by decide) ?_ ?_
    · refine S_ (R_iload_n hO dX8_standing_14 rfl) ?_
      refine S_ (R_aload_n hO dX8_standing_15 rfl) ?_
      refine S_ (R_iload_n hO dX8_standing_16 rfl) ?_
      refine S_callVI (rest := [.int m1]) hO dX8_standing_17 (cs_X8_stands m2 s0) (by omega) lk_X8_142 np_X8_stands (rc_183 rfl) rfl (Nat.le_of_ble_eq_true rfl) (fun x1 s2 => ?_)
      refine S_if_eq (tgt := 29) hO dX8_standing_20 (by decide) ?_ ?_
      · refine S_ (R_iconst (v := (1 : Int32)) hO dX8_standing_23 (by decide)) ?_
        refine S_ (R_iload_n hO dX8_standing_24 rfl) ?_
        refine S_ (R_ishl hO dX8_standing_25) ?_
        refine S_ (R_goto (tgt := 30) hO dX8_standing_26 (by decide)) ?_
        refine S_ (R_ior hO dX8_standing_30) ?_
        refine S_istore_n (L2 := fun x3 => [(1, .int x3), (0, .ref 183), (2, .int m2)]) hO dX8_standing_31 (Nat.le_of_ble_eq_true rfl) (fun _ => rfl) (fun x3 => ?_)
        refine S_iinc (L2 := fun x4 => [(2, .int x4), (1, .int x3), (0, .ref 183)]) (v := (1 : Int32)) hO dX8_standing_32 rfl (by decide) (Nat.le_of_ble_eq_true rfl) (fun _ => rfl) (fun x4 => ?_)
        refine S_ (R_goto (tgt := 4) hO dX8_standing_35 (by decide)) ?_
        refine S_sub [2, 1, 0] rfl ?_
        exact ih x3 x4 s2
      · refine S_ (R_iconst (v := (0 : Int32)) hO dX8_standing_29 (by decide)) ?_
        refine S_ (R_ior hO dX8_standing_30) ?_
        refine S_istore_n (L2 := fun x5 => [(1, .int x5), (0, .ref 183), (2, .int m2)]) hO dX8_standing_31 (Nat.le_of_ble_eq_true rfl) (fun _ => rfl) (fun x5 => ?_)
        refine S_iinc (L2 := fun x6 => [(2, .int x6), (1, .int x5), (0, .ref 183)]) (v := (1 : Int32)) hO dX8_standing_32 rfl (by decide) (Nat.le_of_ble_eq_true rfl) (fun _ => rfl) (fun x6 => ?_)
        refine S_ (R_goto (tgt := 4) hO dX8_standing_35 (by decide)) ?_
        refine S_sub [2, 1, 0] rfl ?_
        exact ih x5 x6 s2
    · refine S_ (R_iload_n hO dX8_standing_38 rfl) ?_
      exact S_iret rfl hO hQ dX8_standing_39 rfl
def f_X8_standing (s0 : Mem) : Option (Int32 × Mem) := lt ((0 : Int32)) fun x1 => lt ((0 : Int32)) fun x2 => f_X8_standing_4 FU x1 x2 s0
theorem cs_X8_standing (s0 : Mem) : CS 2 MX8_standing [.ref 183] s0 ((f_X8_standing s0).map wI) := by
  refine CS.of (by decide +kernel) (Nat.le_of_ble_eq_true rfl) (fun X Z hO hQ => ?_)
  show SIM X MX8_standing wI Z 0 [(0, .ref 183)] [] s0 _
  unfold f_X8_standing
  refine S_ (R_iconst (v := (0 : Int32)) hO dX8_standing_0 (by decide)) ?_
  refine S_istore_n (L2 := fun x1 => [(1, .int x1), (0, .ref 183)]) hO dX8_standing_1 (Nat.le_of_ble_eq_true rfl) (fun _ => rfl) (fun x1 => ?_)
  refine S_ (R_iconst (v := (0 : Int32)) hO dX8_standing_2 (by decide)) ?_
  refine S_istore_n (L2 := fun x2 => [(2, .int x2), (1, .int x1), (0, .ref 183)]) hO dX8_standing_3 (Nat.le_of_ble_eq_true rfl) (fun _ => rfl) (fun x2 => ?_)
  refine S_sub [2, 1, 0] rfl ?_
  exact w_X8_standing_4 hO hQ FU x1 x2 s0
def f_X8_oneHour_138 : Nat → Int32 → Int32 → Mem → Option (Mem)
  | 0, _, _, _ => none
  | n + 1, m1, m2, s0 => ing (0 : Int32) 29 <| if ((s0 187 (0 : Int32).toNatClampNeg) - (1 : Int32)) ≤ m2 then (ing (3 : Int32) 29 <| ing (3 : Int32) 29 <| lt (st2 s0 187 (3 : Int32).toNatClampNeg ((s0 187 (3 : Int32).toNatClampNeg) + (1 : Int32))) fun s10 => some s10) else bd2 (f_X8_has m1 m2 s0) fun x1 s2 => if x1 = 0 then (lt (m2 + (1 : Int32)) fun x9 => f_X8_oneHour_138 n m1 x9 s2) else bd2 (f_X8_stands m2 s2) fun x3 s4 => if x3 = 0 then (ing (2 : Int32) 29 <| bd (f_X8_loses (m2 + (1 : Int32)) (s4 187 (2 : Int32).toNatClampNeg) s4) fun s6 => lt (m2 + (1 : Int32)) fun x7 => f_X8_oneHour_138 n m1 x7 s6) else lt (m2 + (1 : Int32)) fun x8 => f_X8_oneHour_138 n m1 x8 s4
theorem w_X8_oneHour_138 {X : CX} {Z : Option Value × Mem → Prop} (hO : OKX X false 4 MX8_oneHour) (hQ : OKS X Z) : ∀ (n : Nat) (m1 : Int32) (m2 : Int32) (s0 : Mem), SIM X MX8_oneHour wV Z 138 [(0, .ref 183), (1, .int m1), (2, .int m2)] [] s0 (f_X8_oneHour_138 n m1 m2 s0) := by
  intro n
  induction n with
  | zero => intros; exact S_none
  | succ n ih =>
    intro m1 m2 s0
    rw [f_X8_oneHour_138]
    refine S_ (R_iload_n hO dX8_oneHour_138 rfl) ?_
    refine S_ (R_aload_n hO dX8_oneHour_139 rfl) ?_
    refine S_getR hO dX8_oneHour_140 fl_X8_19 sh_183 rfl ?_
    refine S_ (R_iconst (v := (0 : Int32)) hO dX8_oneHour_143 (by decide)) ?_
    refine S_iald hO dX8_oneHour_144 sh_187 ?_
    refine S_ (R_iconst (v := (1 : Int32)) hO dX8_oneHour_145 (by decide)) ?_
    refine S_ (R_isub hO dX8_oneHour_146) ?_
    refine S_icmp_ge (tgt := 185) hO dX8_oneHour_147 (by decide) ?_ ?_
    · refine S_ (R_iload_n hO dX8_oneHour_150 rfl) ?_
      refine S_ (R_iload_n hO dX8_oneHour_151 rfl) ?_
      refine S_callSI (rest := []) hO dX8_oneHour_152 (cs_X8_has m1 m2 s0) (by omega) lk_X8_145 np_X8_has rfl (Nat.le_of_ble_eq_true rfl) (fun x1 s2 => ?_)
      refine S_if_eq (tgt := 179) hO dX8_oneHour_155 (by decide) ?_ ?_
      · refine S_ (R_aload_n hO dX8_oneHour_158 rfl) ?_
        refine S_ (R_iload_n hO dX8_oneHour_159 rfl) ?_
        refine S_callVI (rest := []) hO dX8_oneHour_160 (cs_X8_stands m2 s2) (by omega) lk_X8_142 np_X8_stands (rc_183 rfl) rfl (Nat.le_of_ble_eq_true rfl) (fun x3 s4 => ?_)
        refine S_if_ne (tgt := 179) hO dX8_oneHour_163 (by decide) ?_ ?_
        · refine S_ (R_aload_n hO dX8_oneHour_166 rfl) ?_
          refine S_ (R_iload_n hO dX8_oneHour_167 rfl) ?_
          refine S_ (R_iconst (v := (1 : Int32)) hO dX8_oneHour_168 (by decide)) ?_
          refine S_ (R_iadd hO dX8_oneHour_169) ?_
          refine S_ (R_aload_n hO dX8_oneHour_170 rfl) ?_
          refine S_getR hO dX8_oneHour_171 fl_X8_19 sh_183 rfl ?_
          refine S_ (R_iconst (v := (2 : Int32)) hO dX8_oneHour_174 (by decide)) ?_
          refine S_iald hO dX8_oneHour_175 sh_187 ?_
          refine S_callVV (rest := []) hO dX8_oneHour_176 (cs_X8_loses (m2 + (1 : Int32)) (s4 187 (2 : Int32).toNatClampNeg) s4) (by omega) lk_X8_162 np_X8_loses (rc_183 rfl) rfl (Nat.le_of_ble_eq_true rfl) (fun s6 => ?_)
          refine S_iinc (L2 := fun x7 => [(2, .int x7), (0, .ref 183), (1, .int m1)]) (v := (1 : Int32)) hO dX8_oneHour_179 rfl (by decide) (Nat.le_of_ble_eq_true rfl) (fun _ => rfl) (fun x7 => ?_)
          refine S_ (R_goto (tgt := 138) hO dX8_oneHour_182 (by decide)) ?_
          refine S_sub [1, 2, 0] rfl ?_
          exact ih m1 x7 s6
        · refine S_iinc (L2 := fun x8 => [(2, .int x8), (0, .ref 183), (1, .int m1)]) (v := (1 : Int32)) hO dX8_oneHour_179 rfl (by decide) (Nat.le_of_ble_eq_true rfl) (fun _ => rfl) (fun x8 => ?_)
          refine S_ (R_goto (tgt := 138) hO dX8_oneHour_182 (by decide)) ?_
          refine S_sub [1, 2, 0] rfl ?_
          exact ih m1 x8 s4
      · refine S_iinc (L2 := fun x9 => [(2, .int x9), (0, .ref 183), (1, .int m1)]) (v := (1 : Int32)) hO dX8_oneHour_179 rfl (by decide) (Nat.le_of_ble_eq_true rfl) (fun _ => rfl) (fun x9 => ?_)
        refine S_ (R_goto (tgt := 138) hO dX8_oneHour_182 (by decide)) ?_
        refine S_sub [1, 2, 0] rfl ?_
        exact ih m1 x9 s2
    · refine S_ (R_aload_n hO dX8_oneHour_185 rfl) ?_
      refine S_getR hO dX8_oneHour_186 fl_X8_19 sh_183 rfl ?_
      refine S_ (R_iconst (v := (3 : Int32)) hO dX8_oneHour_189 (by decide)) ?_
      refine S_ (R_dup2 hO dX8_oneHour_190 rfl rfl) ?_
      refine S_iald hO dX8_oneHour_191 sh_187 ?_
      refine S_ (R_iconst (v := (1 : Int32)) hO dX8_oneHour_192 (by decide)) ?_
      refine S_ (R_iadd hO dX8_oneHour_193) ?_
      refine S_iast hO dX8_oneHour_194 sh_187 (fun s10 => ?_)
      exact S_vret rfl hO hQ dX8_oneHour_195 rfl
def f_X8_oneHour_35 : Nat → Int32 → Int32 → Mem → Option (Mem)
  | 0, _, _, _ => none
  | n + 1, m1, m2, s0 => ing (0 : Int32) 29 <| if ((s0 187 (0 : Int32).toNatClampNeg) - (1 : Int32)) ≤ m2 then (lt ((0 : Int32)) fun x14 => f_X8_oneHour_138 FU m1 x14 s0) else ing (4 : Int32) 29 <| bd2 (f_X8_has (s0 187 (4 : Int32).toNatClampNeg) m2 s0) fun x1 s2 => if x1 = 0 then (lt (m2 + (1 : Int32)) fun x13 => f_X8_oneHour_35 n m1 x13 s2) else bd2 (f_X8_stands m2 s2) fun x3 s4 => if x3 = 0 then (lt (m2 + (1 : Int32)) fun x12 => f_X8_oneHour_35 n m1 x12 s4) else bd2 (f_X8_stands (m2 + (1 : Int32)) s4) fun x5 s6 => if x5 = 0 then (lt (m2 + (1 : Int32)) fun x11 => f_X8_oneHour_35 n m1 x11 s6) else ing ((21 : Int32) + m2) 29 <| ing (((21 : Int32) + m2) + (1 : Int32)) 29 <| lt (((s6 187 ((21 : Int32) + m2).toNatClampNeg) - (s6 187 (((21 : Int32) + m2) + (1 : Int32)).toNatClampNeg)) / (4 : Int32)) fun x7 => ing ((21 : Int32) + m2) 29 <| ing ((21 : Int32) + m2) 29 <| lt (st2 s6 187 ((21 : Int32) + m2).toNatClampNeg ((s6 187 ((21 : Int32) + m2).toNatClampNeg) - x7)) fun s8 => ing (((21 : Int32) + m2) + (1 : Int32)) 29 <| ing (((21 : Int32) + m2) + (1 : Int32)) 29 <| lt (st2 s8 187 (((21 : Int32) + m2) + (1 : Int32)).toNatClampNeg ((s8 187 (((21 : Int32) + m2) + (1 : Int32)).toNatClampNeg) + x7)) fun s9 => lt (m2 + (1 : Int32)) fun x10 => f_X8_oneHour_35 n m1 x10 s9
theorem w_X8_oneHour_35 {X : CX} {Z : Option Value × Mem → Prop} (hO : OKX X false 4 MX8_oneHour) (hQ : OKS X Z) : ∀ (n : Nat) (m1 : Int32) (m2 : Int32) (s0 : Mem), SIM X MX8_oneHour wV Z 35 [(0, .ref 183), (1, .int m1), (2, .int m2)] [] s0 (f_X8_oneHour_35 n m1 m2 s0) := by
  intro n
  induction n with
  | zero => intros; exact S_none
  | succ n ih =>
    intro m1 m2 s0
    rw [f_X8_oneHour_35]
    refine S_ (R_iload_n hO dX8_oneHour_35 rfl) ?_
    refine S_ (R_aload_n hO dX8_oneHour_36 rfl) ?_
    refine S_getR hO dX8_oneHour_37 fl_X8_19 sh_183 rfl ?_
    refine S_ (R_iconst (v := (0 : Int32)) hO dX8_oneHour_40 (by decide)) ?_
    refine S_iald hO dX8_oneHour_41 sh_187 ?_
    refine S_ (R_iconst (v := (1 : Int32)) hO dX8_oneHour_42 (by decide)) ?_
    refine S_ (R_isub hO dX8_oneHour_43) ?_
    refine S_icmp_ge (tgt := 136) hO dX8_oneHour_44 (by decide) ?_ ?_
    · refine S_ (R_aload_n hO dX8_oneHour_47 rfl) ?_
      refine S_getR hO dX8_oneHour_48 fl_X8_19 sh_183 rfl ?_
      refine S_ (R_iconst (v := (4 : Int32)) hO dX8_oneHour_51 (by decide)) ?_
      refine S_iald hO dX8_oneHour_52 sh_187 ?_
      refine S_ (R_iload_n hO dX8_oneHour_53 rfl) ?_
      refine S_callSI (rest := []) hO dX8_oneHour_54 (cs_X8_has (s0 187 (4 : Int32).toNatClampNeg) m2 s0) (by omega) lk_X8_145 np_X8_has rfl (Nat.le_of_ble_eq_true rfl) (fun x1 s2 => ?_)
      refine S_if_eq (tgt := 130) hO dX8_oneHour_57 (by decide) ?_ ?_
      · refine S_ (R_aload_n hO dX8_oneHour_60 rfl) ?_
        refine S_ (R_iload_n hO dX8_oneHour_61 rfl) ?_
        refine S_callVI (rest := []) hO dX8_oneHour_62 (cs_X8_stands m2 s2) (by omega) lk_X8_142 np_X8_stands (rc_183 rfl) rfl (Nat.le_of_ble_eq_true rfl) (fun x3 s4 => ?_)
        refine S_if_eq (tgt := 130) hO dX8_oneHour_65 (by decide) ?_ ?_
        · refine S_ (R_aload_n hO dX8_oneHour_68 rfl) ?_
          refine S_ (R_iload_n hO dX8_oneHour_69 rfl) ?_
          refine S_ (R_iconst (v := (1 : Int32)) hO dX8_oneHour_70 (by decide)) ?_
          refine S_ (R_iadd hO dX8_oneHour_71) ?_
          refine S_callVI (rest := []) hO dX8_oneHour_72 (cs_X8_stands (m2 + (1 : Int32)) s4) (by omega) lk_X8_142 np_X8_stands (rc_183 rfl) rfl (Nat.le_of_ble_eq_true rfl) (fun x5 s6 => ?_)
          refine S_if_eq (tgt := 130) hO dX8_oneHour_75 (by decide) ?_ ?_
          · refine S_ (R_aload_n hO dX8_oneHour_78 rfl) ?_
            refine S_getR hO dX8_oneHour_79 fl_X8_19 sh_183 rfl ?_
            refine S_ (R_bipush (v := (21 : Int32)) hO dX8_oneHour_82 (by decide)) ?_
            refine S_ (R_iload_n hO dX8_oneHour_84 rfl) ?_
            refine S_ (R_iadd hO dX8_oneHour_85) ?_
            refine S_iald hO dX8_oneHour_86 sh_187 ?_
            refine S_ (R_aload_n hO dX8_oneHour_87 rfl) ?_
            refine S_getR hO dX8_oneHour_88 fl_X8_19 sh_183 rfl ?_
            refine S_ (R_bipush (v := (21 : Int32)) hO dX8_oneHour_91 (by decide)) ?_
            refine S_ (R_iload_n hO dX8_oneHour_93 rfl) ?_
            refine S_ (R_iadd hO dX8_oneHour_94) ?_
            refine S_ (R_iconst (v := (1 : Int32)) hO dX8_oneHour_95 (by decide)) ?_
            refine S_ (R_iadd hO dX8_oneHour_96) ?_
            refine S_iald hO dX8_oneHour_97 sh_187 ?_
            refine S_ (R_isub hO dX8_oneHour_98) ?_
            refine S_ (R_iconst (v := (4 : Int32)) hO dX8_oneHour_99 (by decide)) ?_
            refine S_ (R_idiv hO dX8_oneHour_100 (by decide)) ?_
            refine S_istore_n (L2 := fun x7 => [(3, .int x7), (0, .ref 183), (1, .int m1), (2, .int m2)]) hO dX8_oneHour_101 (Nat.le_of_ble_eq_true rfl) (fun _ => rfl) (fun x7 => ?_)
            refine S_ (R_aload_n hO dX8_oneHour_102 rfl) ?_
            refine S_getR hO dX8_oneHour_103 fl_X8_19 sh_183 rfl ?_
            refine S_ (R_bipush (v := (21 : Int32)) hO dX8_oneHour_106 (by decide)) ?_
            refine S_ (R_iload_n hO dX8_oneHour_108 rfl) ?_
            refine S_ (R_iadd hO dX8_oneHour_109) ?_
            refine S_ (R_dup2 hO dX8_oneHour_110 rfl rfl) ?_
            refine S_iald hO dX8_oneHour_111 sh_187 ?_
            refine S_ (R_iload_n hO dX8_oneHour_112 rfl) ?_
            refine S_ (R_isub hO dX8_oneHour_113) ?_
            refine S_iast hO dX8_oneHour_114 sh_187 (fun s8 => ?_)
            refine S_ (R_aload_n hO dX8_oneHour_115 rfl) ?_
            refine S_getR hO dX8_oneHour_116 fl_X8_19 sh_183 rfl ?_
            refine S_ (R_bipush (v := (21 : Int32)) hO dX8_oneHour_119 (by decide)) ?_
            refine S_ (R_iload_n hO dX8_oneHour_121 rfl) ?_
            refine S_ (R_iadd hO dX8_oneHour_122) ?_
            refine S_ (R_iconst (v := (1 : Int32)) hO dX8_oneHour_123 (by decide)) ?_
            refine S_ (R_iadd hO dX8_oneHour_124) ?_
            refine S_ (R_dup2 hO dX8_oneHour_125 rfl rfl) ?_
            refine S_iald hO dX8_oneHour_126 sh_187 ?_
            refine S_ (R_iload_n hO dX8_oneHour_127 rfl) ?_
            refine S_ (R_iadd hO dX8_oneHour_128) ?_
            refine S_iast hO dX8_oneHour_129 sh_187 (fun s9 => ?_)
            refine S_iinc (L2 := fun x10 => [(2, .int x10), (3, .int x7), (0, .ref 183), (1, .int m1)]) (v := (1 : Int32)) hO dX8_oneHour_130 rfl (by decide) (Nat.le_of_ble_eq_true rfl) (fun _ => rfl) (fun x10 => ?_)
            refine S_ (R_goto (tgt := 35) hO dX8_oneHour_133 (by decide)) ?_
            refine S_sub [2, 3, 0] rfl ?_
            exact ih m1 x10 s9
          · refine S_iinc (L2 := fun x11 => [(2, .int x11), (0, .ref 183), (1, .int m1)]) (v := (1 : Int32)) hO dX8_oneHour_130 rfl (by decide) (Nat.le_of_ble_eq_true rfl) (fun _ => rfl) (fun x11 => ?_)
            refine S_ (R_goto (tgt := 35) hO dX8_oneHour_133 (by decide)) ?_
            refine S_sub [1, 2, 0] rfl ?_
            exact ih m1 x11 s6
        · refine S_iinc (L2 := fun x12 => [(2, .int x12), (0, .ref 183), (1, .int m1)]) (v := (1 : Int32)) hO dX8_oneHour_130 rfl (by decide) (Nat.le_of_ble_eq_true rfl) (fun _ => rfl) (fun x12 => ?_)
          refine S_ (R_goto (tgt := 35) hO dX8_oneHour_133 (by decide)) ?_
          refine S_sub [1, 2, 0] rfl ?_
          exact ih m1 x12 s4
      · refine S_iinc (L2 := fun x13 => [(2, .int x13), (0, .ref 183), (1, .int m1)]) (v := (1 : Int32)) hO dX8_oneHour_130 rfl (by decide) (Nat.le_of_ble_eq_true rfl) (fun _ => rfl) (fun x13 => ?_)
        refine S_ (R_goto (tgt := 35) hO dX8_oneHour_133 (by decide)) ?_
        refine S_sub [1, 2, 0] rfl ?_
        exact ih m1 x13 s2
    · refine S_ (R_iconst (v := (0 : Int32)) hO dX8_oneHour_136 (by decide)) ?_
      refine S_istore_n (L2 := fun x14 => [(2, .int x14), (0, .ref 183), (1, .int m1)]) hO dX8_oneHour_137 (Nat.le_of_ble_eq_true rfl) (fun _ => rfl) (fun x14 => ?_)
      refine S_sub [1, 2, 0] rfl ?_
      exact w_X8_oneHour_138 hO hQ FU m1 x14 s0
def f_X8_oneHour_7 : Nat → Int32 → Int32 → Mem → Option (Mem)
  | 0, _, _, _ => none
  | n + 1, m1, m2, s0 => ing (0 : Int32) 29 <| if (s0 187 (0 : Int32).toNatClampNeg) ≤ m2 then (lt ((0 : Int32)) fun x6 => f_X8_oneHour_35 FU m1 x6 s0) else bd2 (f_X8_lossOf m2 s0) fun x1 s2 => bd (f_X8_loses m2 x1 s2) fun s4 => lt (m2 + (1 : Int32)) fun x5 => f_X8_oneHour_7 n m1 x5 s4
theorem w_X8_oneHour_7 {X : CX} {Z : Option Value × Mem → Prop} (hO : OKX X false 4 MX8_oneHour) (hQ : OKS X Z) : ∀ (n : Nat) (m1 : Int32) (m2 : Int32) (s0 : Mem), SIM X MX8_oneHour wV Z 7 [(0, .ref 183), (1, .int m1), (2, .int m2)] [] s0 (f_X8_oneHour_7 n m1 m2 s0) := by
  intro n
  induction n with
  | zero => intros; exact S_none
  | succ n ih =>
    intro m1 m2 s0
    rw [f_X8_oneHour_7]
    refine S_ (R_iload_n hO dX8_oneHour_7 rfl) ?_
    refine S_ (R_aload_n hO dX8_oneHour_8 rfl) ?_
    refine S_getR hO dX8_oneHour_9 fl_X8_19 sh_183 rfl ?_
    refine S_ (R_iconst (v := (0 : Int32)) hO dX8_oneHour_12 (by decide)) ?_
    refine S_iald hO dX8_oneHour_13 sh_187 ?_
    refine S_icmp_ge (tgt := 33) hO dX8_oneHour_14 (by decide) ?_ ?_
    · refine S_ (R_aload_n hO dX8_oneHour_17 rfl) ?_
      refine S_ (R_iload_n hO dX8_oneHour_18 rfl) ?_
      refine S_ (R_aload_n hO dX8_oneHour_19 rfl) ?_
      refine S_ (R_iload_n hO dX8_oneHour_20 rfl) ?_
      refine S_callVI (rest := [.int m2, .ref 183]) hO dX8_oneHour_21 (cs_X8_lossOf m2 s0) (by omega) lk_X8_159 np_X8_lossOf (rc_183 rfl) rfl (Nat.le_of_ble_eq_true rfl) (fun x1 s2 => ?_)
      refine S_callVV (rest := []) hO dX8_oneHour_24 (cs_X8_loses m2 x1 s2) (by omega) lk_X8_162 np_X8_loses (rc_183 rfl) rfl (Nat.le_of_ble_eq_true rfl) (fun s4 => ?_)
      refine S_iinc (L2 := fun x5 => [(2, .int x5), (0, .ref 183), (1, .int m1)]) (v := (1 : Int32)) hO dX8_oneHour_27 rfl (by decide) (Nat.le_of_ble_eq_true rfl) (fun _ => rfl) (fun x5 => ?_)
      refine S_ (R_goto (tgt := 7) hO dX8_oneHour_30 (by decide)) ?_
      refine S_sub [1, 2, 0] rfl ?_
      exact ih m1 x5 s4
    · refine S_ (R_iconst (v := (0 : Int32)) hO dX8_oneHour_33 (by decide)) ?_
      refine S_istore_n (L2 := fun x6 => [(2, .int x6), (0, .ref 183), (1, .int m1)]) hO dX8_oneHour_34 (Nat.le_of_ble_eq_true rfl) (fun _ => rfl) (fun x6 => ?_)
      refine S_sub [1, 2, 0] rfl ?_
      exact w_X8_oneHour_35 hO hQ FU m1 x6 s0
def f_X8_oneHour (s0 : Mem) : Option (Mem) := bd2 (f_X8_standing s0) fun x1 s2 => lt (x1) fun x3 => lt ((0 : Int32)) fun x4 => f_X8_oneHour_7 FU x3 x4 s2
theorem cs_X8_oneHour (s0 : Mem) : CS 4 MX8_oneHour [.ref 183] s0 ((f_X8_oneHour s0).map wV) := by
  refine CS.of (by decide +kernel) (Nat.le_of_ble_eq_true rfl) (fun X Z hO hQ => ?_)
  show SIM X MX8_oneHour wV Z 0 [(0, .ref 183)] [] s0 _
  unfold f_X8_oneHour
  refine S_ (R_aload_n hO dX8_oneHour_0 rfl) ?_
  refine S_callVI (rest := []) hO dX8_oneHour_1 (cs_X8_standing s0) (by omega) lk_X8_155 np_X8_standing (rc_183 rfl) rfl (Nat.le_of_ble_eq_true rfl) (fun x1 s2 => ?_)
  refine S_istore_n (L2 := fun x3 => [(1, .int x3), (0, .ref 183)]) hO dX8_oneHour_4 (Nat.le_of_ble_eq_true rfl) (fun _ => rfl) (fun x3 => ?_)
  refine S_ (R_iconst (v := (0 : Int32)) hO dX8_oneHour_5 (by decide)) ?_
  refine S_istore_n (L2 := fun x4 => [(2, .int x4), (1, .int x3), (0, .ref 183)]) hO dX8_oneHour_6 (Nat.le_of_ble_eq_true rfl) (fun _ => rfl) (fun x4 => ?_)
  refine S_sub [2, 1, 0] rfl ?_
  exact w_X8_oneHour_7 hO hQ FU x3 x4 s2
def f_X8_lashBy (p1 : Int32) (p2 : Int32) (s0 : Mem) : Option (Mem) := ing ((21 : Int32) + p1) 29 <| if ((s0 187 ((21 : Int32) + p1).toNatClampNeg) + p2) ≤ (99 : Int32) then (ing ((21 : Int32) + p1) 29 <| ing ((21 : Int32) + p1) 29 <| lt (st2 s0 187 ((21 : Int32) + p1).toNatClampNeg ((s0 187 ((21 : Int32) + p1).toNatClampNeg) + p2)) fun s2 => some s2) else ing ((21 : Int32) + p1) 29 <| lt (st2 s0 187 ((21 : Int32) + p1).toNatClampNeg (99 : Int32)) fun s1 => some s1
theorem cs_X8_lashBy (p1 : Int32) (p2 : Int32) (s0 : Mem) : CS 1 MX8_lashBy [.ref 183, .int p1, .int p2] s0 ((f_X8_lashBy p1 p2 s0).map wV) := by
  refine CS.of (by decide +kernel) (Nat.le_of_ble_eq_true rfl) (fun X Z hO hQ => ?_)
  show SIM X MX8_lashBy wV Z 0 [(0, .ref 183), (1, .int p1), (2, .int p2)] [] s0 _
  unfold f_X8_lashBy
  refine S_ (R_aload_n hO dX8_lashBy_0 rfl) ?_
  refine S_getR hO dX8_lashBy_1 fl_X8_19 sh_183 rfl ?_
  refine S_ (R_bipush (v := (21 : Int32)) hO dX8_lashBy_4 (by decide)) ?_
  refine S_ (R_iload_n hO dX8_lashBy_6 rfl) ?_
  refine S_ (R_iadd hO dX8_lashBy_7) ?_
  refine S_ (R_aload_n hO dX8_lashBy_8 rfl) ?_
  refine S_getR hO dX8_lashBy_9 fl_X8_19 sh_183 rfl ?_
  refine S_ (R_bipush (v := (21 : Int32)) hO dX8_lashBy_12 (by decide)) ?_
  refine S_ (R_iload_n hO dX8_lashBy_14 rfl) ?_
  refine S_ (R_iadd hO dX8_lashBy_15) ?_
  refine S_iald hO dX8_lashBy_16 sh_187 ?_
  refine S_ (R_iload_n hO dX8_lashBy_17 rfl) ?_
  refine S_ (R_iadd hO dX8_lashBy_18) ?_
  refine S_ (R_bipush (v := (99 : Int32)) hO dX8_lashBy_19 (by decide)) ?_
  refine S_icmp_le (tgt := 29) hO dX8_lashBy_21 (by decide) ?_ ?_
  · refine S_ (R_bipush (v := (99 : Int32)) hO dX8_lashBy_24 (by decide)) ?_
    refine S_ (R_goto (tgt := 40) hO dX8_lashBy_26 (by decide)) ?_
    refine S_iast hO dX8_lashBy_40 sh_187 (fun s1 => ?_)
    exact S_vret rfl hO hQ dX8_lashBy_41 rfl
  · refine S_ (R_aload_n hO dX8_lashBy_29 rfl) ?_
    refine S_getR hO dX8_lashBy_30 fl_X8_19 sh_183 rfl ?_
    refine S_ (R_bipush (v := (21 : Int32)) hO dX8_lashBy_33 (by decide)) ?_
    refine S_ (R_iload_n hO dX8_lashBy_35 rfl) ?_
    refine S_ (R_iadd hO dX8_lashBy_36) ?_
    refine S_iald hO dX8_lashBy_37 sh_187 ?_
    refine S_ (R_iload_n hO dX8_lashBy_38 rfl) ?_
    refine S_ (R_iadd hO dX8_lashBy_39) ?_
    refine S_iast hO dX8_lashBy_40 sh_187 (fun s2 => ?_)
    exact S_vret rfl hO hQ dX8_lashBy_41 rfl
def f_X8_spinOf_5 (p1 : Int32) (p2 : Int32) : Nat → Int32 → Int32 → Mem → Option (Int32 × Mem)
  | 0, _, _, _ => none
  | n + 1, m3, m4, s0 => ing (0 : Int32) 29 <| if (s0 187 (0 : Int32).toNatClampNeg) ≤ m4 then (some (m3, s0)) else ing ((21 : Int32) + m4) 29 <| lt (m3 + (s0 187 ((21 : Int32) + m4).toNatClampNeg)) fun x1 => lt (m4 + p2) fun x2 => f_X8_spinOf_5 p1 p2 n x1 x2 s0
theorem w_X8_spinOf_5 {X : CX} {Z : Option Value × Mem → Prop} (hO : OKX X false 1 MX8_spinOf) (hQ : OKS X Z) (p1 : Int32) (p2 : Int32) : ∀ (n : Nat) (m3 : Int32) (m4 : Int32) (s0 : Mem), SIM X MX8_spinOf wI Z 5 [(0, .ref 183), (2, .int p2), (3, .int m3), (4, .int m4)] [] s0 (f_X8_spinOf_5 p1 p2 n m3 m4 s0) := by
  intro n
  induction n with
  | zero => intros; exact S_none
  | succ n ih =>
    intro m3 m4 s0
    rw [f_X8_spinOf_5]
    refine S_ (R_iload hO dX8_spinOf_5 rfl) ?_
    refine S_ (R_aload_n hO dX8_spinOf_7 rfl) ?_
    refine S_getR hO dX8_spinOf_8 fl_X8_19 sh_183 rfl ?_
    refine S_ (R_iconst (v := (0 : Int32)) hO dX8_spinOf_11 (by decide)) ?_
    refine S_iald hO dX8_spinOf_12 sh_187 ?_
    refine S_icmp_ge (tgt := 38) hO dX8_spinOf_13 (by decide) ?_ ?_
    · refine S_ (R_iload_n hO dX8_spinOf_16 rfl) ?_
      refine S_ (R_aload_n hO dX8_spinOf_17 rfl) ?_
      refine S_getR hO dX8_spinOf_18 fl_X8_19 sh_183 rfl ?_
      refine S_ (R_bipush (v := (21 : Int32)) hO dX8_spinOf_21 (by decide)) ?_
      refine S_ (R_iload hO dX8_spinOf_23 rfl) ?_
      refine S_ (R_iadd hO dX8_spinOf_25) ?_
      refine S_iald hO dX8_spinOf_26 sh_187 ?_
      refine S_ (R_iadd hO dX8_spinOf_27) ?_
      refine S_istore_n (L2 := fun x1 => [(3, .int x1), (0, .ref 183), (2, .int p2), (4, .int m4)]) hO dX8_spinOf_28 (Nat.le_of_ble_eq_true rfl) (fun _ => rfl) (fun x1 => ?_)
      refine S_ (R_iload hO dX8_spinOf_29 rfl) ?_
      refine S_ (R_iload_n hO dX8_spinOf_31 rfl) ?_
      refine S_ (R_iadd hO dX8_spinOf_32) ?_
      refine S_istore (L2 := fun x2 => [(4, .int x2), (3, .int x1), (0, .ref 183), (2, .int p2)]) hO dX8_spinOf_33 (Nat.le_of_ble_eq_true rfl) (fun _ => rfl) (fun x2 => ?_)
      refine S_ (R_goto (tgt := 5) hO dX8_spinOf_35 (by decide)) ?_
      refine S_sub [2, 3, 1, 0] rfl ?_
      exact ih x1 x2 s0
    · refine S_ (R_iload_n hO dX8_spinOf_38 rfl) ?_
      exact S_iret rfl hO hQ dX8_spinOf_39 rfl
def f_X8_spinOf (p1 : Int32) (p2 : Int32) (s0 : Mem) : Option (Int32 × Mem) := lt ((0 : Int32)) fun x1 => lt (p1) fun x2 => f_X8_spinOf_5 p1 p2 FU x1 x2 s0
theorem cs_X8_spinOf (p1 : Int32) (p2 : Int32) (s0 : Mem) : CS 1 MX8_spinOf [.ref 183, .int p1, .int p2] s0 ((f_X8_spinOf p1 p2 s0).map wI) := by
  refine CS.of (by decide +kernel) (Nat.le_of_ble_eq_true rfl) (fun X Z hO hQ => ?_)
  show SIM X MX8_spinOf wI Z 0 [(0, .ref 183), (1, .int p1), (2, .int p2)] [] s0 _
  unfold f_X8_spinOf
  refine S_ (R_iconst (v := (0 : Int32)) hO dX8_spinOf_0 (by decide)) ?_
  refine S_istore_n (L2 := fun x1 => [(3, .int x1), (0, .ref 183), (1, .int p1), (2, .int p2)]) hO dX8_spinOf_1 (Nat.le_of_ble_eq_true rfl) (fun _ => rfl) (fun x1 => ?_)
  refine S_ (R_iload_n hO dX8_spinOf_2 rfl) ?_
  refine S_istore (L2 := fun x2 => [(4, .int x2), (3, .int x1), (0, .ref 183), (1, .int p1), (2, .int p2)]) hO dX8_spinOf_3 (Nat.le_of_ble_eq_true rfl) (fun _ => rfl) (fun x2 => ?_)
  refine S_sub [2, 4, 1, 0] rfl ?_
  exact w_X8_spinOf_5 hO hQ p1 p2 FU x1 x2 s0
def f_X8_note_51 : Nat → Int32 → Mem → Option (Mem)
  | 0, _, _ => none
  | n + 1, m1, s0 => if (29 : Int32) ≤ m1 then (lt (st2 s0 183 17 ((s0 183 17) + (1 : Int32))) fun s3 => some s3) else ing m1 29 <| ing (((29 : Int32) * (s0 183 17)) + m1) 696 <| lt (st2 s0 191 (((29 : Int32) * (s0 183 17)) + m1).toNatClampNeg (s0 187 m1.toNatClampNeg)) fun s1 => lt (m1 + (1 : Int32)) fun x2 => f_X8_note_51 n x2 s1
theorem w_X8_note_51 {X : CX} {Z : Option Value × Mem → Prop} (hO : OKX X false 1 MX8_note) (hQ : OKS X Z) : ∀ (n : Nat) (m1 : Int32) (s0 : Mem), SIM X MX8_note wV Z 51 [(0, .ref 183), (1, .int m1)] [] s0 (f_X8_note_51 n m1 s0) := by
  intro n
  induction n with
  | zero => intros; exact S_none
  | succ n ih =>
    intro m1 s0
    rw [f_X8_note_51]
    refine S_ (R_iload_n hO dX8_note_51 rfl) ?_
    refine S_ (R_bipush (v := (29 : Int32)) hO dX8_note_52 (by decide)) ?_
    refine S_icmp_ge (tgt := 83) hO dX8_note_54 (by decide) ?_ ?_
    · refine S_ (R_aload_n hO dX8_note_57 rfl) ?_
      refine S_getR hO dX8_note_58 fl_X8_31 sh_183 rfl ?_
      refine S_ (R_bipush (v := (29 : Int32)) hO dX8_note_61 (by decide)) ?_
      refine S_ (R_aload_n hO dX8_note_63 rfl) ?_
      refine S_getI hO dX8_note_64 fl_X8_139 sh_183 rfl ?_
      refine S_ (R_imul hO dX8_note_67) ?_
      refine S_ (R_iload_n hO dX8_note_68 rfl) ?_
      refine S_ (R_iadd hO dX8_note_69) ?_
      refine S_ (R_aload_n hO dX8_note_70 rfl) ?_
      refine S_getR hO dX8_note_71 fl_X8_19 sh_183 rfl ?_
      refine S_ (R_iload_n hO dX8_note_74 rfl) ?_
      refine S_iald hO dX8_note_75 sh_187 ?_
      refine S_iast hO dX8_note_76 sh_191 (fun s1 => ?_)
      refine S_iinc (L2 := fun x2 => [(1, .int x2), (0, .ref 183)]) (v := (1 : Int32)) hO dX8_note_77 rfl (by decide) (Nat.le_of_ble_eq_true rfl) (fun _ => rfl) (fun x2 => ?_)
      refine S_ (R_goto (tgt := 51) hO dX8_note_80 (by decide)) ?_
      refine S_sub [1, 0] rfl ?_
      exact ih x2 s1
    · refine S_ (R_aload_n hO dX8_note_83 rfl) ?_
      refine S_ (R_dup hO dX8_note_84 rfl) ?_
      refine S_getI hO dX8_note_85 fl_X8_139 sh_183 rfl ?_
      refine S_ (R_iconst (v := (1 : Int32)) hO dX8_note_88 (by decide)) ?_
      refine S_ (R_iadd hO dX8_note_89) ?_
      refine S_put hO dX8_note_90 fl_X8_139 sh_183 rfl (fun s3 => ?_)
      exact S_vret rfl hO hQ dX8_note_93 rfl
def f_X8_note_11 : Nat → Int32 → Mem → Option (Mem)
  | 0, _, _ => none
  | n + 1, m1, s0 => if (667 : Int32) ≤ m1 then (lt (st2 s0 183 17 ((s0 183 17) - (1 : Int32))) fun s3 => lt ((0 : Int32)) fun x4 => f_X8_note_51 FU x4 s3) else ing (m1 + (29 : Int32)) 696 <| ing m1 696 <| lt (st2 s0 191 m1.toNatClampNeg (s0 191 (m1 + (29 : Int32)).toNatClampNeg)) fun s1 => lt (m1 + (1 : Int32)) fun x2 => f_X8_note_11 n x2 s1
theorem w_X8_note_11 {X : CX} {Z : Option Value × Mem → Prop} (hO : OKX X false 1 MX8_note) (hQ : OKS X Z) : ∀ (n : Nat) (m1 : Int32) (s0 : Mem), SIM X MX8_note wV Z 11 [(0, .ref 183), (1, .int m1)] [] s0 (f_X8_note_11 n m1 s0) := by
  intro n
  induction n with
  | zero => intros; exact S_none
  | succ n ih =>
    intro m1 s0
    rw [f_X8_note_11]
    refine S_ (R_iload_n hO dX8_note_11 rfl) ?_
    refine S_ (R_sipush (v := (667 : Int32)) hO dX8_note_12 (by decide)) ?_
    refine S_icmp_ge (tgt := 39) hO dX8_note_15 (by decide) ?_ ?_
    · refine S_ (R_aload_n hO dX8_note_18 rfl) ?_
      refine S_getR hO dX8_note_19 fl_X8_31 sh_183 rfl ?_
      refine S_ (R_iload_n hO dX8_note_22 rfl) ?_
      refine S_ (R_aload_n hO dX8_note_23 rfl) ?_
      refine S_getR hO dX8_note_24 fl_X8_31 sh_183 rfl ?_
      refine S_ (R_iload_n hO dX8_note_27 rfl) ?_
      refine S_ (R_bipush (v := (29 : Int32)) hO dX8_note_28 (by decide)) ?_
      refine S_ (R_iadd hO dX8_note_30) ?_
      refine S_iald hO dX8_note_31 sh_191 ?_
      refine S_iast hO dX8_note_32 sh_191 (fun s1 => ?_)
      refine S_iinc (L2 := fun x2 => [(1, .int x2), (0, .ref 183)]) (v := (1 : Int32)) hO dX8_note_33 rfl (by decide) (Nat.le_of_ble_eq_true rfl) (fun _ => rfl) (fun x2 => ?_)
      refine S_ (R_goto (tgt := 11) hO dX8_note_36 (by decide)) ?_
      refine S_sub [1, 0] rfl ?_
      exact ih x2 s1
    · refine S_ (R_aload_n hO dX8_note_39 rfl) ?_
      refine S_ (R_dup hO dX8_note_40 rfl) ?_
      refine S_getI hO dX8_note_41 fl_X8_139 sh_183 rfl ?_
      refine S_ (R_iconst (v := (1 : Int32)) hO dX8_note_44 (by decide)) ?_
      refine S_ (R_isub hO dX8_note_45) ?_
      refine S_put hO dX8_note_46 fl_X8_139 sh_183 rfl (fun s3 => ?_)
      refine S_ (R_iconst (v := (0 : Int32)) hO dX8_note_49 (by decide)) ?_
      refine S_istore_n (L2 := fun x4 => [(1, .int x4), (0, .ref 183)]) hO dX8_note_50 (Nat.le_of_ble_eq_true rfl) (fun _ => rfl) (fun x4 => ?_)
      refine S_sub [1, 0] rfl ?_
      exact w_X8_note_51 hO hQ FU x4 s3
def f_X8_note (s0 : Mem) : Option (Mem) := if (s0 183 17) = (24 : Int32) then (lt ((0 : Int32)) fun x1 => f_X8_note_11 FU x1 s0) else lt ((0 : Int32)) fun x2 => f_X8_note_51 FU x2 s0
theorem cs_X8_note (s0 : Mem) : CS 1 MX8_note [.ref 183] s0 ((f_X8_note s0).map wV) := by
  refine CS.of (by decide +kernel) (Nat.le_of_ble_eq_true rfl) (fun X Z hO hQ => ?_)
  show SIM X MX8_note wV Z 0 [(0, .ref 183)] [] s0 _
  unfold f_X8_note
  refine S_ (R_aload_n hO dX8_note_0 rfl) ?_
  refine S_getI hO dX8_note_1 fl_X8_139 sh_183 rfl ?_
  refine S_ (R_bipush (v := (24 : Int32)) hO dX8_note_4 (by decide)) ?_
  refine S_icmp_ne (tgt := 49) hO dX8_note_6 (by decide) ?_ ?_
  · refine S_ (R_iconst (v := (0 : Int32)) hO dX8_note_9 (by decide)) ?_
    refine S_istore_n (L2 := fun x1 => [(1, .int x1), (0, .ref 183)]) hO dX8_note_10 (Nat.le_of_ble_eq_true rfl) (fun _ => rfl) (fun x1 => ?_)
    refine S_sub [1, 0] rfl ?_
    exact w_X8_note_11 hO hQ FU x1 s0
  · refine S_ (R_iconst (v := (0 : Int32)) hO dX8_note_49 (by decide)) ?_
    refine S_istore_n (L2 := fun x2 => [(1, .int x2), (0, .ref 183)]) hO dX8_note_50 (Nat.le_of_ble_eq_true rfl) (fun _ => rfl) (fun x2 => ?_)
    refine S_sub [1, 0] rfl ?_
    exact w_X8_note_51 hO hQ FU x2 s0
def f_X8_undo_22 : Nat → Int32 → Mem → Option (Int32 × Mem)
  | 0, _, _ => none
  | n + 1, m1, s0 => if (29 : Int32) ≤ m1 then (some (s0 183 17, s0)) else ing (((29 : Int32) * (s0 183 17)) + m1) 696 <| ing m1 29 <| lt (st2 s0 187 m1.toNatClampNeg (s0 191 (((29 : Int32) * (s0 183 17)) + m1).toNatClampNeg)) fun s1 => lt (m1 + (1 : Int32)) fun x2 => f_X8_undo_22 n x2 s1
theorem w_X8_undo_22 {X : CX} {Z : Option Value × Mem → Prop} (hO : OKX X false 1 MX8_undo) (hQ : OKS X Z) : ∀ (n : Nat) (m1 : Int32) (s0 : Mem), SIM X MX8_undo wI Z 22 [(0, .ref 183), (1, .int m1)] [] s0 (f_X8_undo_22 n m1 s0) := by
  intro n
  induction n with
  | zero => intros; exact S_none
  | succ n ih =>
    intro m1 s0
    rw [f_X8_undo_22]
    refine S_ (R_iload_n hO dX8_undo_22 rfl) ?_
    refine S_ (R_bipush (v := (29 : Int32)) hO dX8_undo_23 (by decide)) ?_
    refine S_icmp_ge (tgt := 54) hO dX8_undo_25 (by decide) ?_ ?_
    · refine S_ (R_aload_n hO dX8_undo_28 rfl) ?_
      refine S_getR hO dX8_undo_29 fl_X8_19 sh_183 rfl ?_
      refine S_ (R_iload_n hO dX8_undo_32 rfl) ?_
      refine S_ (R_aload_n hO dX8_undo_33 rfl) ?_
      refine S_getR hO dX8_undo_34 fl_X8_31 sh_183 rfl ?_
      refine S_ (R_bipush (v := (29 : Int32)) hO dX8_undo_37 (by decide)) ?_
      refine S_ (R_aload_n hO dX8_undo_39 rfl) ?_
      refine S_getI hO dX8_undo_40 fl_X8_139 sh_183 rfl ?_
      refine S_ (R_imul hO dX8_undo_43) ?_
      refine S_ (R_iload_n hO dX8_undo_44 rfl) ?_
      refine S_ (R_iadd hO dX8_undo_45) ?_
      refine S_iald hO dX8_undo_46 sh_191 ?_
      refine S_iast hO dX8_undo_47 sh_187 (fun s1 => ?_)
      refine S_iinc (L2 := fun x2 => [(1, .int x2), (0, .ref 183)]) (v := (1 : Int32)) hO dX8_undo_48 rfl (by decide) (Nat.le_of_ble_eq_true rfl) (fun _ => rfl) (fun x2 => ?_)
      refine S_ (R_goto (tgt := 22) hO dX8_undo_51 (by decide)) ?_
      refine S_sub [1, 0] rfl ?_
      exact ih x2 s1
    · refine S_ (R_aload_n hO dX8_undo_54 rfl) ?_
      refine S_getI hO dX8_undo_55 fl_X8_139 sh_183 rfl ?_
      exact S_iret rfl hO hQ dX8_undo_58 rfl
def f_X8_undo (s0 : Mem) : Option (Int32 × Mem) := if (s0 183 17) = 0 then (some ((-1000002 : Int32), s0)) else lt (st2 s0 183 17 ((s0 183 17) - (1 : Int32))) fun s1 => lt ((0 : Int32)) fun x2 => f_X8_undo_22 FU x2 s1
theorem cs_X8_undo (s0 : Mem) : CS 1 MX8_undo [.ref 183] s0 ((f_X8_undo s0).map wI) := by
  refine CS.of (by decide +kernel) (Nat.le_of_ble_eq_true rfl) (fun X Z hO hQ => ?_)
  show SIM X MX8_undo wI Z 0 [(0, .ref 183)] [] s0 _
  unfold f_X8_undo
  refine S_ (R_aload_n hO dX8_undo_0 rfl) ?_
  refine S_getI hO dX8_undo_1 fl_X8_139 sh_183 rfl ?_
  refine S_if_ne (tgt := 10) hO dX8_undo_4 (by decide) ?_ ?_
  · refine S_ (R_ldc (v := (-1000002 : Int32)) hO dX8_undo_7 kc_X8_166) ?_
    exact S_iret rfl hO hQ dX8_undo_9 rfl
  · refine S_ (R_aload_n hO dX8_undo_10 rfl) ?_
    refine S_ (R_dup hO dX8_undo_11 rfl) ?_
    refine S_getI hO dX8_undo_12 fl_X8_139 sh_183 rfl ?_
    refine S_ (R_iconst (v := (1 : Int32)) hO dX8_undo_15 (by decide)) ?_
    refine S_ (R_isub hO dX8_undo_16) ?_
    refine S_put hO dX8_undo_17 fl_X8_139 sh_183 rfl (fun s1 => ?_)
    refine S_ (R_iconst (v := (0 : Int32)) hO dX8_undo_20 (by decide)) ?_
    refine S_istore_n (L2 := fun x2 => [(1, .int x2), (0, .ref 183)]) hO dX8_undo_21 (Nat.le_of_ble_eq_true rfl) (fun _ => rfl) (fun x2 => ?_)
    refine S_sub [1, 0] rfl ?_
    exact w_X8_undo_22 hO hQ FU x2 s1
def f_X8_hours_44 (p1 : Int32) : Nat → Int32 → Mem → Option (Int32 × Mem)
  | 0, _, _ => none
  | n + 1, m2, s0 => if p1 ≤ m2 then (bd2 (f_X8_standing s0) fun x6 s7 => some (x6, s7)) else bd (f_X8_note s0) fun s2 => bd (f_X8_oneHour s2) fun s4 => lt (m2 + (1 : Int32)) fun x5 => f_X8_hours_44 p1 n x5 s4
theorem w_X8_hours_44 {X : CX} {Z : Option Value × Mem → Prop} (hO : OKX X false 5 MX8_hours) (hQ : OKS X Z) (p1 : Int32) : ∀ (n : Nat) (m2 : Int32) (s0 : Mem), SIM X MX8_hours wI Z 44 [(0, .ref 183), (1, .int p1), (2, .int m2)] [] s0 (f_X8_hours_44 p1 n m2 s0) := by
  intro n
  induction n with
  | zero => intros; exact S_none
  | succ n ih =>
    intro m2 s0
    rw [f_X8_hours_44]
    refine S_ (R_iload_n hO dX8_hours_44 rfl) ?_
    refine S_ (R_iload_n hO dX8_hours_45 rfl) ?_
    refine S_icmp_ge (tgt := 63) hO dX8_hours_46 (by decide) ?_ ?_
    · refine S_ (R_aload_n hO dX8_hours_49 rfl) ?_
      refine S_callVV (rest := []) hO dX8_hours_50 (cs_X8_note s0) (by omega) lk_X8_169 np_X8_note (rc_183 rfl) rfl (Nat.le_of_ble_eq_true rfl) (fun s2 => ?_)
      refine S_ (R_aload_n hO dX8_hours_53 rfl) ?_
      refine S_callVV (rest := []) hO dX8_hours_54 (cs_X8_oneHour s2) (by omega) lk_X8_172 np_X8_oneHour (rc_183 rfl) rfl (Nat.le_of_ble_eq_true rfl) (fun s4 => ?_)
      refine S_iinc (L2 := fun x5 => [(2, .int x5), (0, .ref 183), (1, .int p1)]) (v := (1 : Int32)) hO dX8_hours_57 rfl (by decide) (Nat.le_of_ble_eq_true rfl) (fun _ => rfl) (fun x5 => ?_)
      refine S_ (R_goto (tgt := 44) hO dX8_hours_60 (by decide)) ?_
      refine S_sub [1, 2, 0] rfl ?_
      exact ih x5 s4
    · refine S_ (R_aload_n hO dX8_hours_63 rfl) ?_
      refine S_callVI (rest := []) hO dX8_hours_64 (cs_X8_standing s0) (by omega) lk_X8_155 np_X8_standing (rc_183 rfl) rfl (Nat.le_of_ble_eq_true rfl) (fun x6 s7 => ?_)
      exact S_iret rfl hO hQ dX8_hours_67 rfl
def f_X8_hours (p1 : Int32) (s0 : Mem) : Option (Int32 × Mem) := if (s0 183 4) = 0 then (some ((-1000002 : Int32), s0)) else bd2 (f_X8_in p1.toInt64 (1 : Int64) (24 : Int64) s0) fun x1 s2 => if x1 = 0 then (some ((-1000001 : Int32), s2)) else ing (3 : Int32) 29 <| if ((s2 187 (3 : Int32).toNatClampNeg) + p1) ≤ (999 : Int32) then (lt ((0 : Int32)) fun x3 => f_X8_hours_44 p1 FU x3 s2) else some ((-1000003 : Int32), s2)
theorem cs_X8_hours (p1 : Int32) (s0 : Mem) : CS 5 MX8_hours [.ref 183, .int p1] s0 ((f_X8_hours p1 s0).map wI) := by
  refine CS.of (by decide +kernel) (Nat.le_of_ble_eq_true rfl) (fun X Z hO hQ => ?_)
  show SIM X MX8_hours wI Z 0 [(0, .ref 183), (1, .int p1)] [] s0 _
  unfold f_X8_hours
  refine S_ (R_aload_n hO dX8_hours_0 rfl) ?_
  refine S_getI hO dX8_hours_1 fl_X8_135 sh_183 rfl ?_
  refine S_if_ne (tgt := 10) hO dX8_hours_4 (by decide) ?_ ?_
  · refine S_ (R_ldc (v := (-1000002 : Int32)) hO dX8_hours_7 kc_X8_166) ?_
    exact S_iret rfl hO hQ dX8_hours_9 rfl
  · refine S_ (R_iload_n hO dX8_hours_10 rfl) ?_
    refine S_ (R_i2l hO dX8_hours_11) ?_
    refine S_ (R_lconst (v := (1 : Int64)) hO dX8_hours_12 (by decide)) ?_
    refine S_ (R_ldc2 (v := (24 : Int64)) hO dX8_hours_13 kl_X8_167) ?_
    refine S_callSI (rest := []) hO dX8_hours_16 (cs_X8_in p1.toInt64 (1 : Int64) (24 : Int64) s0) (by omega) lk_X8_57 np_X8_in rfl (Nat.le_of_ble_eq_true rfl) (fun x1 s2 => ?_)
    refine S_if_ne (tgt := 25) hO dX8_hours_19 (by decide) ?_ ?_
    · refine S_ (R_ldc (v := (-1000001 : Int32)) hO dX8_hours_22 kc_X8_67) ?_
      exact S_iret rfl hO hQ dX8_hours_24 rfl
    · refine S_ (R_aload_n hO dX8_hours_25 rfl) ?_
      refine S_getR hO dX8_hours_26 fl_X8_19 sh_183 rfl ?_
      refine S_ (R_iconst (v := (3 : Int32)) hO dX8_hours_29 (by decide)) ?_
      refine S_iald hO dX8_hours_30 sh_187 ?_
      refine S_ (R_iload_n hO dX8_hours_31 rfl) ?_
      refine S_ (R_iadd hO dX8_hours_32) ?_
      refine S_ (R_sipush (v := (999 : Int32)) hO dX8_hours_33 (by decide)) ?_
      refine S_icmp_le (tgt := 42) hO dX8_hours_36 (by decide) ?_ ?_
      · refine S_ (R_ldc (v := (-1000003 : Int32)) hO dX8_hours_39 kc_X8_84) ?_
        exact S_iret rfl hO hQ dX8_hours_41 rfl
      · refine S_ (R_iconst (v := (0 : Int32)) hO dX8_hours_42 (by decide)) ?_
        refine S_istore_n (L2 := fun x3 => [(2, .int x3), (0, .ref 183), (1, .int p1)]) hO dX8_hours_43 (Nat.le_of_ble_eq_true rfl) (fun _ => rfl) (fun x3 => ?_)
        refine S_sub [1, 2, 0] rfl ?_
        exact w_X8_hours_44 hO hQ p1 FU x3 s2
def f_X8_lash (p1 : Int32) (s0 : Mem) : Option (Int32 × Mem) := bd2 (f_X8_isHouse p1 s0) fun x1 s2 => if x1 = 0 then (some ((-1000001 : Int32), s2)) else bd2 (f_X8_stands p1 s2) fun x3 s4 => if x3 = 0 then (some ((-1000002 : Int32), s4)) else bd (f_X8_note s4) fun s6 => ing (1 : Int32) 29 <| bd (f_X8_lashBy p1 (s6 187 (1 : Int32).toNatClampNeg) s6) fun s8 => ing ((21 : Int32) + p1) 29 <| some (s8 187 ((21 : Int32) + p1).toNatClampNeg, s8)
theorem cs_X8_lash (p1 : Int32) (s0 : Mem) : CS 3 MX8_lash [.ref 183, .int p1] s0 ((f_X8_lash p1 s0).map wI) := by
  refine CS.of (by decide +kernel) (Nat.le_of_ble_eq_true rfl) (fun X Z hO hQ => ?_)
  show SIM X MX8_lash wI Z 0 [(0, .ref 183), (1, .int p1)] [] s0 _
  unfold f_X8_lash
  refine S_ (R_aload_n hO dX8_lash_0 rfl) ?_
  refine S_ (R_iload_n hO dX8_lash_1 rfl) ?_
  refine S_callVI (rest := []) hO dX8_lash_2 (cs_X8_isHouse p1 s0) (by omega) lk_X8_175 np_X8_isHouse (rc_183 rfl) rfl (Nat.le_of_ble_eq_true rfl) (fun x1 s2 => ?_)
  refine S_if_ne (tgt := 11) hO dX8_lash_5 (by decide) ?_ ?_
  · refine S_ (R_ldc (v := (-1000001 : Int32)) hO dX8_lash_8 kc_X8_67) ?_
    exact S_iret rfl hO hQ dX8_lash_10 rfl
  · refine S_ (R_aload_n hO dX8_lash_11 rfl) ?_
    refine S_ (R_iload_n hO dX8_lash_12 rfl) ?_
    refine S_callVI (rest := []) hO dX8_lash_13 (cs_X8_stands p1 s2) (by omega) lk_X8_142 np_X8_stands (rc_183 rfl) rfl (Nat.le_of_ble_eq_true rfl) (fun x3 s4 => ?_)
    refine S_if_ne (tgt := 22) hO dX8_lash_16 (by decide) ?_ ?_
    · refine S_ (R_ldc (v := (-1000002 : Int32)) hO dX8_lash_19 kc_X8_166) ?_
      exact S_iret rfl hO hQ dX8_lash_21 rfl
    · refine S_ (R_aload_n hO dX8_lash_22 rfl) ?_
      refine S_callVV (rest := []) hO dX8_lash_23 (cs_X8_note s4) (by omega) lk_X8_169 np_X8_note (rc_183 rfl) rfl (Nat.le_of_ble_eq_true rfl) (fun s6 => ?_)
      refine S_ (R_aload_n hO dX8_lash_26 rfl) ?_
      refine S_ (R_iload_n hO dX8_lash_27 rfl) ?_
      refine S_ (R_aload_n hO dX8_lash_28 rfl) ?_
      refine S_getR hO dX8_lash_29 fl_X8_19 sh_183 rfl ?_
      refine S_ (R_iconst (v := (1 : Int32)) hO dX8_lash_32 (by decide)) ?_
      refine S_iald hO dX8_lash_33 sh_187 ?_
      refine S_callVV (rest := []) hO dX8_lash_34 (cs_X8_lashBy p1 (s6 187 (1 : Int32).toNatClampNeg) s6) (by omega) lk_X8_178 np_X8_lashBy (rc_183 rfl) rfl (Nat.le_of_ble_eq_true rfl) (fun s8 => ?_)
      refine S_ (R_aload_n hO dX8_lash_37 rfl) ?_
      refine S_getR hO dX8_lash_38 fl_X8_19 sh_183 rfl ?_
      refine S_ (R_bipush (v := (21 : Int32)) hO dX8_lash_41 (by decide)) ?_
      refine S_ (R_iload_n hO dX8_lash_43 rfl) ?_
      refine S_ (R_iadd hO dX8_lash_44) ?_
      refine S_iald hO dX8_lash_45 sh_187 ?_
      exact S_iret rfl hO hQ dX8_lash_46 rfl
def f_X8_touch_51 (p1 : Int32) (p2 : Int32) (t0 : Int32) (t1 : Int32) (s0 : Mem) : Option (Int32 × Mem) := if t1 = t0 then (some ((-1000002 : Int32), s0)) else bd (f_X8_note s0) fun s2 => ing (4 : Int32) 29 <| ing (4 : Int32) 29 <| lt (st2 s2 187 (4 : Int32).toNatClampNeg ((s2 187 (4 : Int32).toNatClampNeg) ^^^ ((1 : Int32) <<< (p1 &&& 31)))) fun s3 => ing (4 : Int32) 29 <| some (s3 187 (4 : Int32).toNatClampNeg, s3)
theorem w_X8_touch_51 {X : CX} {Z : Option Value × Mem → Prop} (hO : OKX X false 2 MX8_touch) (hQ : OKS X Z) (p1 : Int32) (p2 : Int32) (t0 : Int32) (t1 : Int32) (s0 : Mem) : SIM X MX8_touch wI Z 51 [(0, .ref 183), (1, .int p1)] [.int t0, .int t1] s0 (f_X8_touch_51 p1 p2 t0 t1 s0) := by
  unfold f_X8_touch_51
  refine S_icmp_ne (tgt := 57) hO dX8_touch_51 (by decide) ?_ ?_
  · refine S_ (R_ldc (v := (-1000002 : Int32)) hO dX8_touch_54 kc_X8_166) ?_
    exact S_iret rfl hO hQ dX8_touch_56 rfl
  · refine S_ (R_aload_n hO dX8_touch_57 rfl) ?_
    refine S_callVV (rest := []) hO dX8_touch_58 (cs_X8_note s0) (by omega) lk_X8_169 np_X8_note (rc_183 rfl) rfl (Nat.le_of_ble_eq_true rfl) (fun s2 => ?_)
    refine S_ (R_aload_n hO dX8_touch_61 rfl) ?_
    refine S_getR hO dX8_touch_62 fl_X8_19 sh_183 rfl ?_
    refine S_ (R_iconst (v := (4 : Int32)) hO dX8_touch_65 (by decide)) ?_
    refine S_ (R_dup2 hO dX8_touch_66 rfl rfl) ?_
    refine S_iald hO dX8_touch_67 sh_187 ?_
    refine S_ (R_iconst (v := (1 : Int32)) hO dX8_touch_68 (by decide)) ?_
    refine S_ (R_iload_n hO dX8_touch_69 rfl) ?_
    refine S_ (R_ishl hO dX8_touch_70) ?_
    refine S_ (R_ixor hO dX8_touch_71) ?_
    refine S_iast hO dX8_touch_72 sh_187 (fun s3 => ?_)
    refine S_ (R_aload_n hO dX8_touch_73 rfl) ?_
    refine S_getR hO dX8_touch_74 fl_X8_19 sh_183 rfl ?_
    refine S_ (R_iconst (v := (4 : Int32)) hO dX8_touch_77 (by decide)) ?_
    refine S_iald hO dX8_touch_78 sh_187 ?_
    exact S_iret rfl hO hQ dX8_touch_79 rfl
def f_X8_touch (p1 : Int32) (p2 : Int32) (s0 : Mem) : Option (Int32 × Mem) := ing (0 : Int32) 29 <| bd2 (f_X8_in p1.toInt64 (0 : Int64) (((s0 187 (0 : Int32).toNatClampNeg) - (2 : Int32)).toInt64) s0) fun x1 s2 => if x1 = 0 then (some ((-1000001 : Int32), s2)) else bd2 (f_X8_in p2.toInt64 (0 : Int64) (1 : Int64) s2) fun x3 s4 => if x3 = 0 then (some ((-1000001 : Int32), s4)) else ing (4 : Int32) 29 <| bd2 (f_X8_has (s4 187 (4 : Int32).toNatClampNeg) p1 s4) fun x5 s6 => if p2 = (1 : Int32) then (f_X8_touch_51 p1 p2 (1 : Int32) x5 s6) else f_X8_touch_51 p1 p2 (0 : Int32) x5 s6
theorem cs_X8_touch (p1 : Int32) (p2 : Int32) (s0 : Mem) : CS 2 MX8_touch [.ref 183, .int p1, .int p2] s0 ((f_X8_touch p1 p2 s0).map wI) := by
  refine CS.of (by decide +kernel) (Nat.le_of_ble_eq_true rfl) (fun X Z hO hQ => ?_)
  show SIM X MX8_touch wI Z 0 [(0, .ref 183), (1, .int p1), (2, .int p2)] [] s0 _
  unfold f_X8_touch
  refine S_ (R_iload_n hO dX8_touch_0 rfl) ?_
  refine S_ (R_i2l hO dX8_touch_1) ?_
  refine S_ (R_lconst (v := (0 : Int64)) hO dX8_touch_2 (by decide)) ?_
  refine S_ (R_aload_n hO dX8_touch_3 rfl) ?_
  refine S_getR hO dX8_touch_4 fl_X8_19 sh_183 rfl ?_
  refine S_ (R_iconst (v := (0 : Int32)) hO dX8_touch_7 (by decide)) ?_
  refine S_iald hO dX8_touch_8 sh_187 ?_
  refine S_ (R_iconst (v := (2 : Int32)) hO dX8_touch_9 (by decide)) ?_
  refine S_ (R_isub hO dX8_touch_10) ?_
  refine S_ (R_i2l hO dX8_touch_11) ?_
  refine S_callSI (rest := []) hO dX8_touch_12 (cs_X8_in p1.toInt64 (0 : Int64) (((s0 187 (0 : Int32).toNatClampNeg) - (2 : Int32)).toInt64) s0) (by omega) lk_X8_57 np_X8_in rfl (Nat.le_of_ble_eq_true rfl) (fun x1 s2 => ?_)
  refine S_if_eq (tgt := 28) hO dX8_touch_15 (by decide) ?_ ?_
  · refine S_ (R_iload_n hO dX8_touch_18 rfl) ?_
    refine S_ (R_i2l hO dX8_touch_19) ?_
    refine S_ (R_lconst (v := (0 : Int64)) hO dX8_touch_20 (by decide)) ?_
    refine S_ (R_lconst (v := (1 : Int64)) hO dX8_touch_21 (by decide)) ?_
    refine S_callSI (rest := []) hO dX8_touch_22 (cs_X8_in p2.toInt64 (0 : Int64) (1 : Int64) s2) (by omega) lk_X8_57 np_X8_in rfl (Nat.le_of_ble_eq_true rfl) (fun x3 s4 => ?_)
    refine S_if_ne (tgt := 31) hO dX8_touch_25 (by decide) ?_ ?_
    · refine S_ (R_ldc (v := (-1000001 : Int32)) hO dX8_touch_28 kc_X8_67) ?_
      exact S_iret rfl hO hQ dX8_touch_30 rfl
    · refine S_ (R_aload_n hO dX8_touch_31 rfl) ?_
      refine S_getR hO dX8_touch_32 fl_X8_19 sh_183 rfl ?_
      refine S_ (R_iconst (v := (4 : Int32)) hO dX8_touch_35 (by decide)) ?_
      refine S_iald hO dX8_touch_36 sh_187 ?_
      refine S_ (R_iload_n hO dX8_touch_37 rfl) ?_
      refine S_callSI (rest := []) hO dX8_touch_38 (cs_X8_has (s4 187 (4 : Int32).toNatClampNeg) p1 s4) (by omega) lk_X8_145 np_X8_has rfl (Nat.le_of_ble_eq_true rfl) (fun x5 s6 => ?_)
      refine S_ (R_iload_n hO dX8_touch_41 rfl) ?_
      refine S_ (R_iconst (v := (1 : Int32)) hO dX8_touch_42 (by decide)) ?_
      refine S_icmp_ne (tgt := 50) hO dX8_touch_43 (by decide) ?_ ?_
      · refine S_ (R_iconst (v := (1 : Int32)) hO dX8_touch_46 (by decide)) ?_
        refine S_ (R_goto (tgt := 51) hO dX8_touch_47 (by decide)) ?_
        refine S_sub [0, 1] rfl ?_
        exact w_X8_touch_51 hO hQ p1 p2 (1 : Int32) x5 s6
      · refine S_ (R_iconst (v := (0 : Int32)) hO dX8_touch_50 (by decide)) ?_
        refine S_sub [0, 1] rfl ?_
        exact w_X8_touch_51 hO hQ p1 p2 (0 : Int32) x5 s6
  · refine S_ (R_ldc (v := (-1000001 : Int32)) hO dX8_touch_28 kc_X8_67) ?_
    exact S_iret rfl hO hQ dX8_touch_30 rfl
def f_X8_putUp (p1 : Int32) (s0 : Mem) : Option (Int32 × Mem) := bd2 (f_X8_isHouse p1 s0) fun x1 s2 => if x1 = 0 then (some ((-1000001 : Int32), s2)) else bd2 (f_X8_stands p1 s2) fun x3 s4 => if x3 = 0 then (bd (f_X8_note s4) fun s6 => ing ((21 : Int32) + p1) 29 <| lt (st2 s6 187 ((21 : Int32) + p1).toNatClampNeg (50 : Int32)) fun s7 => bd2 (f_X8_standing s7) fun x8 s9 => some (x8, s9)) else some ((-1000002 : Int32), s4)
theorem cs_X8_putUp (p1 : Int32) (s0 : Mem) : CS 3 MX8_putUp [.ref 183, .int p1] s0 ((f_X8_putUp p1 s0).map wI) := by
  refine CS.of (by decide +kernel) (Nat.le_of_ble_eq_true rfl) (fun X Z hO hQ => ?_)
  show SIM X MX8_putUp wI Z 0 [(0, .ref 183), (1, .int p1)] [] s0 _
  unfold f_X8_putUp
  refine S_ (R_aload_n hO dX8_putUp_0 rfl) ?_
  refine S_ (R_iload_n hO dX8_putUp_1 rfl) ?_
  refine S_callVI (rest := []) hO dX8_putUp_2 (cs_X8_isHouse p1 s0) (by omega) lk_X8_175 np_X8_isHouse (rc_183 rfl) rfl (Nat.le_of_ble_eq_true rfl) (fun x1 s2 => ?_)
  refine S_if_ne (tgt := 11) hO dX8_putUp_5 (by decide) ?_ ?_
  · refine S_ (R_ldc (v := (-1000001 : Int32)) hO dX8_putUp_8 kc_X8_67) ?_
    exact S_iret rfl hO hQ dX8_putUp_10 rfl
  · refine S_ (R_aload_n hO dX8_putUp_11 rfl) ?_
    refine S_ (R_iload_n hO dX8_putUp_12 rfl) ?_
    refine S_callVI (rest := []) hO dX8_putUp_13 (cs_X8_stands p1 s2) (by omega) lk_X8_142 np_X8_stands (rc_183 rfl) rfl (Nat.le_of_ble_eq_true rfl) (fun x3 s4 => ?_)
    refine S_if_eq (tgt := 22) hO dX8_putUp_16 (by decide) ?_ ?_
    · refine S_ (R_ldc (v := (-1000002 : Int32)) hO dX8_putUp_19 kc_X8_166) ?_
      exact S_iret rfl hO hQ dX8_putUp_21 rfl
    · refine S_ (R_aload_n hO dX8_putUp_22 rfl) ?_
      refine S_callVV (rest := []) hO dX8_putUp_23 (cs_X8_note s4) (by omega) lk_X8_169 np_X8_note (rc_183 rfl) rfl (Nat.le_of_ble_eq_true rfl) (fun s6 => ?_)
      refine S_ (R_aload_n hO dX8_putUp_26 rfl) ?_
      refine S_getR hO dX8_putUp_27 fl_X8_19 sh_183 rfl ?_
      refine S_ (R_bipush (v := (21 : Int32)) hO dX8_putUp_30 (by decide)) ?_
      refine S_ (R_iload_n hO dX8_putUp_32 rfl) ?_
      refine S_ (R_iadd hO dX8_putUp_33) ?_
      refine S_ (R_bipush (v := (50 : Int32)) hO dX8_putUp_34 (by decide)) ?_
      refine S_iast hO dX8_putUp_36 sh_187 (fun s7 => ?_)
      refine S_ (R_aload_n hO dX8_putUp_37 rfl) ?_
      refine S_callVI (rest := []) hO dX8_putUp_38 (cs_X8_standing s7) (by omega) lk_X8_155 np_X8_standing (rc_183 rfl) rfl (Nat.le_of_ble_eq_true rfl) (fun x8 s9 => ?_)
      exact S_iret rfl hO hQ dX8_putUp_41 rfl
def f_X8_house (p1 : Int32) (p2 : Int32) (s0 : Mem) : Option (Int32 × Mem) := bd2 (f_X8_isHouse p1 s0) fun x1 s2 => if x1 = 0 then (some ((-1000001 : Int32), s2)) else swi p2 0 6 (fun j => match j with | 0 => (ing ((21 : Int32) + p1) 29 <| some (s2 187 ((21 : Int32) + p1).toNatClampNeg, s2)) | 1 => (ing ((13 : Int32) + p1) 29 <| some (s2 187 ((13 : Int32) + p1).toNatClampNeg, s2)) | 2 => (bd2 (f_X8_stands p1 s2) fun x3 s4 => if x3 = 0 then (some ((1 : Int32), s4)) else some ((0 : Int32), s4)) | 3 => (bd2 (f_X8_leans p1 s2) fun x5 s6 => if x5 = 0 then (some ((0 : Int32), s6)) else some ((1 : Int32), s6)) | 4 => (bd2 (f_X8_lossOf p1 s2) fun x7 s8 => some (x7, s8)) | 5 => (bd2 (f_X8_touches p1 s2) fun x9 s10 => some (x9, s10)) | _ => none) (some ((-1000001 : Int32), s2))
theorem cs_X8_house (p1 : Int32) (p2 : Int32) (s0 : Mem) : CS 4 MX8_house [.ref 183, .int p1, .int p2] s0 ((f_X8_house p1 p2 s0).map wI) := by
  refine CS.of (by decide +kernel) (Nat.le_of_ble_eq_true rfl) (fun X Z hO hQ => ?_)
  show SIM X MX8_house wI Z 0 [(0, .ref 183), (1, .int p1), (2, .int p2)] [] s0 _
  unfold f_X8_house
  refine S_ (R_aload_n hO dX8_house_0 rfl) ?_
  refine S_ (R_iload_n hO dX8_house_1 rfl) ?_
  refine S_callVI (rest := []) hO dX8_house_2 (cs_X8_isHouse p1 s0) (by omega) lk_X8_175 np_X8_isHouse (rc_183 rfl) rfl (Nat.le_of_ble_eq_true rfl) (fun x1 s2 => ?_)
  refine S_if_ne (tgt := 11) hO dX8_house_5 (by decide) ?_ ?_
  · refine S_ (R_ldc (v := (-1000001 : Int32)) hO dX8_house_8 kc_X8_67) ?_
    exact S_iret rfl hO hQ dX8_house_10 rfl
  · refine S_ (R_iload_n hO dX8_house_11 rfl) ?_
    refine S_tsw (lo := 0) (n := 6) (tgt := fun j => ([52, 62, 72, 86, 100, 106] : List Nat).getD j 0) (tgd := 112) hO dX8_house_12 (by decide) (by decide) (by decide) ?_ ?_
    · refine S_ (R_ldc (v := (-1000001 : Int32)) hO dX8_house_112 kc_X8_67) ?_
      exact S_iret rfl hO hQ dX8_house_114 rfl
    · intro j hj
      rcases (show j = 0 ∨ j = 1 ∨ j = 2 ∨ j = 3 ∨ j = 4 ∨ j = 5 by omega) with rfl | rfl | rfl | rfl | rfl | rfl
      · refine S_ (R_aload_n hO dX8_house_52 rfl) ?_
        refine S_getR hO dX8_house_53 fl_X8_19 sh_183 rfl ?_
        refine S_ (R_bipush (v := (21 : Int32)) hO dX8_house_56 (by decide)) ?_
        refine S_ (R_iload_n hO dX8_house_58 rfl) ?_
        refine S_ (R_iadd hO dX8_house_59) ?_
        refine S_iald hO dX8_house_60 sh_187 ?_
        exact S_iret rfl hO hQ dX8_house_61 rfl
      · refine S_ (R_aload_n hO dX8_house_62 rfl) ?_
        refine S_getR hO dX8_house_63 fl_X8_19 sh_183 rfl ?_
        refine S_ (R_bipush (v := (13 : Int32)) hO dX8_house_66 (by decide)) ?_
        refine S_ (R_iload_n hO dX8_house_68 rfl) ?_
        refine S_ (R_iadd hO dX8_house_69) ?_
        refine S_iald hO dX8_house_70 sh_187 ?_
        exact S_iret rfl hO hQ dX8_house_71 rfl
      · refine S_ (R_aload_n hO dX8_house_72 rfl) ?_
        refine S_ (R_iload_n hO dX8_house_73 rfl) ?_
        refine S_callVI (rest := []) hO dX8_house_74 (cs_X8_stands p1 s2) (by omega) lk_X8_142 np_X8_stands (rc_183 rfl) rfl (Nat.le_of_ble_eq_true rfl) (fun x3 s4 => ?_)
        refine S_if_eq (tgt := 84) hO dX8_house_77 (by decide) ?_ ?_
        · refine S_ (R_iconst (v := (0 : Int32)) hO dX8_house_80 (by decide)) ?_
          refine S_ (R_goto (tgt := 85) hO dX8_house_81 (by decide)) ?_
          exact S_iret rfl hO hQ dX8_house_85 rfl
        · refine S_ (R_iconst (v := (1 : Int32)) hO dX8_house_84 (by decide)) ?_
          exact S_iret rfl hO hQ dX8_house_85 rfl
      · refine S_ (R_aload_n hO dX8_house_86 rfl) ?_
        refine S_ (R_iload_n hO dX8_house_87 rfl) ?_
        refine S_callVI (rest := []) hO dX8_house_88 (cs_X8_leans p1 s2) (by omega) lk_X8_149 np_X8_leans (rc_183 rfl) rfl (Nat.le_of_ble_eq_true rfl) (fun x5 s6 => ?_)
        refine S_if_eq (tgt := 98) hO dX8_house_91 (by decide) ?_ ?_
        · refine S_ (R_iconst (v := (1 : Int32)) hO dX8_house_94 (by decide)) ?_
          refine S_ (R_goto (tgt := 99) hO dX8_house_95 (by decide)) ?_
          exact S_iret rfl hO hQ dX8_house_99 rfl
        · refine S_ (R_iconst (v := (0 : Int32)) hO dX8_house_98 (by decide)) ?_
          exact S_iret rfl hO hQ dX8_house_99 rfl
      · refine S_ (R_aload_n hO dX8_house_100 rfl) ?_
        refine S_ (R_iload_n hO dX8_house_101 rfl) ?_
        refine S_callVI (rest := []) hO dX8_house_102 (cs_X8_lossOf p1 s2) (by omega) lk_X8_159 np_X8_lossOf (rc_183 rfl) rfl (Nat.le_of_ble_eq_true rfl) (fun x7 s8 => ?_)
        exact S_iret rfl hO hQ dX8_house_105 rfl
      · refine S_ (R_aload_n hO dX8_house_106 rfl) ?_
        refine S_ (R_iload_n hO dX8_house_107 rfl) ?_
        refine S_callVI (rest := []) hO dX8_house_108 (cs_X8_touches p1 s2) (by omega) lk_X8_152 np_X8_touches (rc_183 rfl) rfl (Nat.le_of_ble_eq_true rfl) (fun x9 s10 => ?_)
        exact S_iret rfl hO hQ dX8_house_111 rfl
def f_X8_leaning_4 : Nat → Int32 → Int32 → Mem → Option (Int32 × Mem)
  | 0, _, _, _ => none
  | n + 1, m1, m2, s0 => ing (0 : Int32) 29 <| if (s0 187 (0 : Int32).toNatClampNeg) ≤ m2 then (some (m1, s0)) else bd2 (f_X8_leans m2 s0) fun x1 s2 => if x1 = 0 then (lt (m1 ||| (0 : Int32)) fun x5 => lt (m2 + (1 : Int32)) fun x6 => f_X8_leaning_4 n x5 x6 s2) else lt (m1 ||| ((1 : Int32) <<< (m2 &&& 31))) fun x3 => lt (m2 + (1 : Int32)) fun x4 => f_X8_leaning_4 n x3 x4 s2
theorem w_X8_leaning_4 {X : CX} {Z : Option Value × Mem → Prop} (hO : OKX X false 3 MX8_leaning) (hQ : OKS X Z) : ∀ (n : Nat) (m1 : Int32) (m2 : Int32) (s0 : Mem), SIM X MX8_leaning wI Z 4 [(0, .ref 183), (1, .int m1), (2, .int m2)] [] s0 (f_X8_leaning_4 n m1 m2 s0) := by
  intro n
  induction n with
  | zero => intros; exact S_none
  | succ n ih =>
    intro m1 m2 s0
    rw [f_X8_leaning_4]
    refine S_ (R_iload_n hO dX8_leaning_4 rfl) ?_
    refine S_ (R_aload_n hO dX8_leaning_5 rfl) ?_
    refine S_getR hO dX8_leaning_6 fl_X8_19 sh_183 rfl ?_
    refine S_ (R_iconst (v := (0 : Int32)) hO dX8_leaning_9 (by decide)) ?_
    refine S_iald hO dX8_leaning_10 sh_187 ?_
    refine S_icmp_ge (tgt := 38) hO dX8_leaning_11 (by decide) ?_ ?_
    · refine S_ (R_iload_n hO dX8_leaning_14 rfl) ?_
      refine S_ (R_aload_n hO dX8_leaning_15 rfl) ?_
      refine S_ (R_iload_n hO dX8_leaning_16 rfl) ?_
      refine S_callVI (rest := [.int m1]) hO dX8_leaning_17 (cs_X8_leans m2 s0) (by omega) lk_X8_149 np_X8_leans (rc_183 rfl) rfl (Nat.le_of_ble_eq_true rfl) (fun x1 s2 => ?_)
      refine S_if_eq (tgt := 29) hO dX8_leaning_20 (by decide) ?_ ?_
      · refine S_ (R_iconst (v := (1 : Int32)) hO dX8_leaning_23 (by decide)) ?_
        refine S_ (R_iload_n hO dX8_leaning_24 rfl) ?_
        refine S_ (R_ishl hO dX8_leaning_25) ?_
        refine S_ (R_goto (tgt := 30) hO dX8_leaning_26 (by decide)) ?_
        refine S_ (R_ior hO dX8_leaning_30) ?_
        refine S_istore_n (L2 := fun x3 => [(1, .int x3), (0, .ref 183), (2, .int m2)]) hO dX8_leaning_31 (Nat.le_of_ble_eq_true rfl) (fun _ => rfl) (fun x3 => ?_)
        refine S_iinc (L2 := fun x4 => [(2, .int x4), (1, .int x3), (0, .ref 183)]) (v := (1 : Int32)) hO dX8_leaning_32 rfl (by decide) (Nat.le_of_ble_eq_true rfl) (fun _ => rfl) (fun x4 => ?_)
        refine S_ (R_goto (tgt := 4) hO dX8_leaning_35 (by decide)) ?_
        refine S_sub [2, 1, 0] rfl ?_
        exact ih x3 x4 s2
      · refine S_ (R_iconst (v := (0 : Int32)) hO dX8_leaning_29 (by decide)) ?_
        refine S_ (R_ior hO dX8_leaning_30) ?_
        refine S_istore_n (L2 := fun x5 => [(1, .int x5), (0, .ref 183), (2, .int m2)]) hO dX8_leaning_31 (Nat.le_of_ble_eq_true rfl) (fun _ => rfl) (fun x5 => ?_)
        refine S_iinc (L2 := fun x6 => [(2, .int x6), (1, .int x5), (0, .ref 183)]) (v := (1 : Int32)) hO dX8_leaning_32 rfl (by decide) (Nat.le_of_ble_eq_true rfl) (fun _ => rfl) (fun x6 => ?_)
        refine S_ (R_goto (tgt := 4) hO dX8_leaning_35 (by decide)) ?_
        refine S_sub [2, 1, 0] rfl ?_
        exact ih x5 x6 s2
    · refine S_ (R_iload_n hO dX8_leaning_38 rfl) ?_
      exact S_iret rfl hO hQ dX8_leaning_39 rfl
def f_X8_leaning (s0 : Mem) : Option (Int32 × Mem) := lt ((0 : Int32)) fun x1 => lt ((0 : Int32)) fun x2 => f_X8_leaning_4 FU x1 x2 s0
theorem cs_X8_leaning (s0 : Mem) : CS 3 MX8_leaning [.ref 183] s0 ((f_X8_leaning s0).map wI) := by
  refine CS.of (by decide +kernel) (Nat.le_of_ble_eq_true rfl) (fun X Z hO hQ => ?_)
  show SIM X MX8_leaning wI Z 0 [(0, .ref 183)] [] s0 _
  unfold f_X8_leaning
  refine S_ (R_iconst (v := (0 : Int32)) hO dX8_leaning_0 (by decide)) ?_
  refine S_istore_n (L2 := fun x1 => [(1, .int x1), (0, .ref 183)]) hO dX8_leaning_1 (Nat.le_of_ble_eq_true rfl) (fun _ => rfl) (fun x1 => ?_)
  refine S_ (R_iconst (v := (0 : Int32)) hO dX8_leaning_2 (by decide)) ?_
  refine S_istore_n (L2 := fun x2 => [(2, .int x2), (1, .int x1), (0, .ref 183)]) hO dX8_leaning_3 (Nat.le_of_ble_eq_true rfl) (fun _ => rfl) (fun x2 => ?_)
  refine S_sub [2, 1, 0] rfl ?_
  exact w_X8_leaning_4 hO hQ FU x1 x2 s0
def f_X8_stand (p1 : Int32) (s0 : Mem) : Option (Int32 × Mem) := if (s0 183 4) = 0 then (some ((-1000002 : Int32), s0)) else swi p1 0 6 (fun j => match j with | 0 => (bd2 (f_X8_standing s0) fun x1 s2 => some (x1, s2)) | 1 => (bd2 (f_X8_leaning s0) fun x3 s4 => some (x3, s4)) | 2 => (ing (4 : Int32) 29 <| some (s0 187 (4 : Int32).toNatClampNeg, s0)) | 3 => (bd2 (f_X8_spinOf (0 : Int32) (1 : Int32) s0) fun x5 s6 => some (x5, s6)) | 4 => (ing (1 : Int32) 29 <| some (s0 187 (1 : Int32).toNatClampNeg, s0)) | 5 => (ing (2 : Int32) 29 <| some (s0 187 (2 : Int32).toNatClampNeg, s0)) | _ => none) (some ((-1000001 : Int32), s0))
theorem cs_X8_stand (p1 : Int32) (s0 : Mem) : CS 4 MX8_stand [.ref 183, .int p1] s0 ((f_X8_stand p1 s0).map wI) := by
  refine CS.of (by decide +kernel) (Nat.le_of_ble_eq_true rfl) (fun X Z hO hQ => ?_)
  show SIM X MX8_stand wI Z 0 [(0, .ref 183), (1, .int p1)] [] s0 _
  unfold f_X8_stand
  refine S_ (R_aload_n hO dX8_stand_0 rfl) ?_
  refine S_getI hO dX8_stand_1 fl_X8_135 sh_183 rfl ?_
  refine S_if_ne (tgt := 10) hO dX8_stand_4 (by decide) ?_ ?_
  · refine S_ (R_ldc (v := (-1000002 : Int32)) hO dX8_stand_7 kc_X8_166) ?_
    exact S_iret rfl hO hQ dX8_stand_9 rfl
  · refine S_ (R_iload_n hO dX8_stand_10 rfl) ?_
    refine S_tsw (lo := 0) (n := 6) (tgt := fun j => ([48, 53, 58, 65, 72, 79] : List Nat).getD j 0) (tgd := 86) hO dX8_stand_11 (by decide) (by decide) (by decide) ?_ ?_
    · refine S_ (R_ldc (v := (-1000001 : Int32)) hO dX8_stand_86 kc_X8_67) ?_
      exact S_iret rfl hO hQ dX8_stand_88 rfl
    · intro j hj
      rcases (show j = 0 ∨ j = 1 ∨ j = 2 ∨ j = 3 ∨ j = 4 ∨ j = 5 by omega) with rfl | rfl | rfl | rfl | rfl | rfl
      · refine S_ (R_aload_n hO dX8_stand_48 rfl) ?_
        refine S_callVI (rest := []) hO dX8_stand_49 (cs_X8_standing s0) (by omega) lk_X8_155 np_X8_standing (rc_183 rfl) rfl (Nat.le_of_ble_eq_true rfl) (fun x1 s2 => ?_)
        exact S_iret rfl hO hQ dX8_stand_52 rfl
      · refine S_ (R_aload_n hO dX8_stand_53 rfl) ?_
        refine S_callVI (rest := []) hO dX8_stand_54 (cs_X8_leaning s0) (by omega) lk_X8_181 np_X8_leaning (rc_183 rfl) rfl (Nat.le_of_ble_eq_true rfl) (fun x3 s4 => ?_)
        exact S_iret rfl hO hQ dX8_stand_57 rfl
      · refine S_ (R_aload_n hO dX8_stand_58 rfl) ?_
        refine S_getR hO dX8_stand_59 fl_X8_19 sh_183 rfl ?_
        refine S_ (R_iconst (v := (4 : Int32)) hO dX8_stand_62 (by decide)) ?_
        refine S_iald hO dX8_stand_63 sh_187 ?_
        exact S_iret rfl hO hQ dX8_stand_64 rfl
      · refine S_ (R_aload_n hO dX8_stand_65 rfl) ?_
        refine S_ (R_iconst (v := (0 : Int32)) hO dX8_stand_66 (by decide)) ?_
        refine S_ (R_iconst (v := (1 : Int32)) hO dX8_stand_67 (by decide)) ?_
        refine S_callVI (rest := []) hO dX8_stand_68 (cs_X8_spinOf (0 : Int32) (1 : Int32) s0) (by omega) lk_X8_184 np_X8_spinOf (rc_183 rfl) rfl (Nat.le_of_ble_eq_true rfl) (fun x5 s6 => ?_)
        exact S_iret rfl hO hQ dX8_stand_71 rfl
      · refine S_ (R_aload_n hO dX8_stand_72 rfl) ?_
        refine S_getR hO dX8_stand_73 fl_X8_19 sh_183 rfl ?_
        refine S_ (R_iconst (v := (1 : Int32)) hO dX8_stand_76 (by decide)) ?_
        refine S_iald hO dX8_stand_77 sh_187 ?_
        exact S_iret rfl hO hQ dX8_stand_78 rfl
      · refine S_ (R_aload_n hO dX8_stand_79 rfl) ?_
        refine S_getR hO dX8_stand_80 fl_X8_19 sh_183 rfl ?_
        refine S_ (R_iconst (v := (2 : Int32)) hO dX8_stand_83 (by decide)) ?_
        refine S_iald hO dX8_stand_84 sh_187 ?_
        exact S_iret rfl hO hQ dX8_stand_85 rfl
def f_X8_putAside_2 : Nat → Int32 → Mem → Option (Mem)
  | 0, _, _ => none
  | n + 1, m1, s0 => if (29 : Int32) ≤ m1 then (some s0) else ing m1 29 <| ing m1 29 <| lt (st2 s0 192 m1.toNatClampNeg (s0 187 m1.toNatClampNeg)) fun s1 => lt (m1 + (1 : Int32)) fun x2 => f_X8_putAside_2 n x2 s1
theorem w_X8_putAside_2 {X : CX} {Z : Option Value × Mem → Prop} (hO : OKX X false 1 MX8_putAside) (hQ : OKS X Z) : ∀ (n : Nat) (m1 : Int32) (s0 : Mem), SIM X MX8_putAside wV Z 2 [(0, .ref 183), (1, .int m1)] [] s0 (f_X8_putAside_2 n m1 s0) := by
  intro n
  induction n with
  | zero => intros; exact S_none
  | succ n ih =>
    intro m1 s0
    rw [f_X8_putAside_2]
    refine S_ (R_iload_n hO dX8_putAside_2 rfl) ?_
    refine S_ (R_bipush (v := (29 : Int32)) hO dX8_putAside_3 (by decide)) ?_
    refine S_icmp_ge (tgt := 26) hO dX8_putAside_5 (by decide) ?_ ?_
    · refine S_ (R_aload_n hO dX8_putAside_8 rfl) ?_
      refine S_getR hO dX8_putAside_9 fl_X8_34 sh_183 rfl ?_
      refine S_ (R_iload_n hO dX8_putAside_12 rfl) ?_
      refine S_ (R_aload_n hO dX8_putAside_13 rfl) ?_
      refine S_getR hO dX8_putAside_14 fl_X8_19 sh_183 rfl ?_
      refine S_ (R_iload_n hO dX8_putAside_17 rfl) ?_
      refine S_iald hO dX8_putAside_18 sh_187 ?_
      refine S_iast hO dX8_putAside_19 sh_192 (fun s1 => ?_)
      refine S_iinc (L2 := fun x2 => [(1, .int x2), (0, .ref 183)]) (v := (1 : Int32)) hO dX8_putAside_20 rfl (by decide) (Nat.le_of_ble_eq_true rfl) (fun _ => rfl) (fun x2 => ?_)
      refine S_ (R_goto (tgt := 2) hO dX8_putAside_23 (by decide)) ?_
      refine S_sub [1, 0] rfl ?_
      exact ih x2 s1
    · exact S_vret rfl hO hQ dX8_putAside_26 rfl
def f_X8_putAside (s0 : Mem) : Option (Mem) := lt ((0 : Int32)) fun x1 => f_X8_putAside_2 FU x1 s0
theorem cs_X8_putAside (s0 : Mem) : CS 1 MX8_putAside [.ref 183] s0 ((f_X8_putAside s0).map wV) := by
  refine CS.of (by decide +kernel) (Nat.le_of_ble_eq_true rfl) (fun X Z hO hQ => ?_)
  show SIM X MX8_putAside wV Z 0 [(0, .ref 183)] [] s0 _
  unfold f_X8_putAside
  refine S_ (R_iconst (v := (0 : Int32)) hO dX8_putAside_0 (by decide)) ?_
  refine S_istore_n (L2 := fun x1 => [(1, .int x1), (0, .ref 183)]) hO dX8_putAside_1 (Nat.le_of_ble_eq_true rfl) (fun _ => rfl) (fun x1 => ?_)
  refine S_sub [1, 0] rfl ?_
  exact w_X8_putAside_2 hO hQ FU x1 s0
def f_X8_takeBack_2 : Nat → Int32 → Mem → Option (Mem)
  | 0, _, _ => none
  | n + 1, m1, s0 => if (29 : Int32) ≤ m1 then (some s0) else ing m1 29 <| ing m1 29 <| lt (st2 s0 187 m1.toNatClampNeg (s0 192 m1.toNatClampNeg)) fun s1 => lt (m1 + (1 : Int32)) fun x2 => f_X8_takeBack_2 n x2 s1
theorem w_X8_takeBack_2 {X : CX} {Z : Option Value × Mem → Prop} (hO : OKX X false 1 MX8_takeBack) (hQ : OKS X Z) : ∀ (n : Nat) (m1 : Int32) (s0 : Mem), SIM X MX8_takeBack wV Z 2 [(0, .ref 183), (1, .int m1)] [] s0 (f_X8_takeBack_2 n m1 s0) := by
  intro n
  induction n with
  | zero => intros; exact S_none
  | succ n ih =>
    intro m1 s0
    rw [f_X8_takeBack_2]
    refine S_ (R_iload_n hO dX8_takeBack_2 rfl) ?_
    refine S_ (R_bipush (v := (29 : Int32)) hO dX8_takeBack_3 (by decide)) ?_
    refine S_icmp_ge (tgt := 26) hO dX8_takeBack_5 (by decide) ?_ ?_
    · refine S_ (R_aload_n hO dX8_takeBack_8 rfl) ?_
      refine S_getR hO dX8_takeBack_9 fl_X8_19 sh_183 rfl ?_
      refine S_ (R_iload_n hO dX8_takeBack_12 rfl) ?_
      refine S_ (R_aload_n hO dX8_takeBack_13 rfl) ?_
      refine S_getR hO dX8_takeBack_14 fl_X8_34 sh_183 rfl ?_
      refine S_ (R_iload_n hO dX8_takeBack_17 rfl) ?_
      refine S_iald hO dX8_takeBack_18 sh_192 ?_
      refine S_iast hO dX8_takeBack_19 sh_187 (fun s1 => ?_)
      refine S_iinc (L2 := fun x2 => [(1, .int x2), (0, .ref 183)]) (v := (1 : Int32)) hO dX8_takeBack_20 rfl (by decide) (Nat.le_of_ble_eq_true rfl) (fun _ => rfl) (fun x2 => ?_)
      refine S_ (R_goto (tgt := 2) hO dX8_takeBack_23 (by decide)) ?_
      refine S_sub [1, 0] rfl ?_
      exact ih x2 s1
    · exact S_vret rfl hO hQ dX8_takeBack_26 rfl
def f_X8_takeBack (s0 : Mem) : Option (Mem) := lt ((0 : Int32)) fun x1 => f_X8_takeBack_2 FU x1 s0
theorem cs_X8_takeBack (s0 : Mem) : CS 1 MX8_takeBack [.ref 183] s0 ((f_X8_takeBack s0).map wV) := by
  refine CS.of (by decide +kernel) (Nat.le_of_ble_eq_true rfl) (fun X Z hO hQ => ?_)
  show SIM X MX8_takeBack wV Z 0 [(0, .ref 183)] [] s0 _
  unfold f_X8_takeBack
  refine S_ (R_iconst (v := (0 : Int32)) hO dX8_takeBack_0 (by decide)) ?_
  refine S_istore_n (L2 := fun x1 => [(1, .int x1), (0, .ref 183)]) hO dX8_takeBack_1 (Nat.le_of_ble_eq_true rfl) (fun _ => rfl) (fun x1 => ?_)
  refine S_sub [1, 0] rfl ?_
  exact w_X8_takeBack_2 hO hQ FU x1 s0
def f_X8_goOn_2 (p1 : Int32) : Nat → Int32 → Mem → Option (Mem)
  | 0, _, _ => none
  | n + 1, m2, s0 => if p1 ≤ m2 then (some s0) else bd (f_X8_oneHour s0) fun s2 => lt (m2 + (1 : Int32)) fun x3 => f_X8_goOn_2 p1 n x3 s2
theorem w_X8_goOn_2 {X : CX} {Z : Option Value × Mem → Prop} (hO : OKX X false 5 MX8_goOn) (hQ : OKS X Z) (p1 : Int32) : ∀ (n : Nat) (m2 : Int32) (s0 : Mem), SIM X MX8_goOn wV Z 2 [(0, .ref 183), (1, .int p1), (2, .int m2)] [] s0 (f_X8_goOn_2 p1 n m2 s0) := by
  intro n
  induction n with
  | zero => intros; exact S_none
  | succ n ih =>
    intro m2 s0
    rw [f_X8_goOn_2]
    refine S_ (R_iload_n hO dX8_goOn_2 rfl) ?_
    refine S_ (R_iload_n hO dX8_goOn_3 rfl) ?_
    refine S_icmp_ge (tgt := 17) hO dX8_goOn_4 (by decide) ?_ ?_
    · refine S_ (R_aload_n hO dX8_goOn_7 rfl) ?_
      refine S_callVV (rest := []) hO dX8_goOn_8 (cs_X8_oneHour s0) (by omega) lk_X8_172 np_X8_oneHour (rc_183 rfl) rfl (Nat.le_of_ble_eq_true rfl) (fun s2 => ?_)
      refine S_iinc (L2 := fun x3 => [(2, .int x3), (0, .ref 183), (1, .int p1)]) (v := (1 : Int32)) hO dX8_goOn_11 rfl (by decide) (Nat.le_of_ble_eq_true rfl) (fun _ => rfl) (fun x3 => ?_)
      refine S_ (R_goto (tgt := 2) hO dX8_goOn_14 (by decide)) ?_
      refine S_sub [1, 2, 0] rfl ?_
      exact ih x3 s2
    · exact S_vret rfl hO hQ dX8_goOn_17 rfl
def f_X8_goOn (p1 : Int32) (s0 : Mem) : Option (Mem) := lt ((0 : Int32)) fun x1 => f_X8_goOn_2 p1 FU x1 s0
theorem cs_X8_goOn (p1 : Int32) (s0 : Mem) : CS 5 MX8_goOn [.ref 183, .int p1] s0 ((f_X8_goOn p1 s0).map wV) := by
  refine CS.of (by decide +kernel) (Nat.le_of_ble_eq_true rfl) (fun X Z hO hQ => ?_)
  show SIM X MX8_goOn wV Z 0 [(0, .ref 183), (1, .int p1)] [] s0 _
  unfold f_X8_goOn
  refine S_ (R_iconst (v := (0 : Int32)) hO dX8_goOn_0 (by decide)) ?_
  refine S_istore_n (L2 := fun x1 => [(2, .int x1), (0, .ref 183), (1, .int p1)]) hO dX8_goOn_1 (Nat.le_of_ble_eq_true rfl) (fun _ => rfl) (fun x1 => ?_)
  refine S_sub [1, 2, 0] rfl ?_
  exact w_X8_goOn_2 hO hQ p1 FU x1 s0
def f_X8_leftBehind (p1 : Int32) (s0 : Mem) : Option (Int32 × Mem) := bd (f_X8_goOn p1 s0) fun s2 => bd2 (f_X8_standing s2) fun x3 s4 => lt (x3) fun x5 => bd (f_X8_takeBack s4) fun s7 => some (x5, s7)
theorem cs_X8_leftBehind (p1 : Int32) (s0 : Mem) : CS 6 MX8_leftBehind [.ref 183, .int p1] s0 ((f_X8_leftBehind p1 s0).map wI) := by
  refine CS.of (by decide +kernel) (Nat.le_of_ble_eq_true rfl) (fun X Z hO hQ => ?_)
  show SIM X MX8_leftBehind wI Z 0 [(0, .ref 183), (1, .int p1)] [] s0 _
  unfold f_X8_leftBehind
  refine S_ (R_aload_n hO dX8_leftBehind_0 rfl) ?_
  refine S_ (R_iload_n hO dX8_leftBehind_1 rfl) ?_
  refine S_callVV (rest := []) hO dX8_leftBehind_2 (cs_X8_goOn p1 s0) (by omega) lk_X8_187 np_X8_goOn (rc_183 rfl) rfl (Nat.le_of_ble_eq_true rfl) (fun s2 => ?_)
  refine S_ (R_aload_n hO dX8_leftBehind_5 rfl) ?_
  refine S_callVI (rest := []) hO dX8_leftBehind_6 (cs_X8_standing s2) (by omega) lk_X8_155 np_X8_standing (rc_183 rfl) rfl (Nat.le_of_ble_eq_true rfl) (fun x3 s4 => ?_)
  refine S_istore_n (L2 := fun x5 => [(2, .int x5), (0, .ref 183), (1, .int p1)]) hO dX8_leftBehind_9 (Nat.le_of_ble_eq_true rfl) (fun _ => rfl) (fun x5 => ?_)
  refine S_ (R_aload_n hO dX8_leftBehind_10 rfl) ?_
  refine S_callVV (rest := []) hO dX8_leftBehind_11 (cs_X8_takeBack s4) (by omega) lk_X8_191 np_X8_takeBack (rc_183 rfl) rfl (Nat.le_of_ble_eq_true rfl) (fun s7 => ?_)
  refine S_ (R_iload_n hO dX8_leftBehind_14 rfl) ?_
  exact S_iret rfl hO hQ dX8_leftBehind_15 rfl
def f_X8_isWhat (p0 : Int32) (s0 : Mem) : Option (Int32 × Mem) := bd2 (f_X8_in p0.toInt64 (0 : Int64) (1 : Int64) s0) fun x1 s2 => gd (x1 = 0 ∨ x1 = 1) <| some (x1, s2)
theorem cs_X8_isWhat (p0 : Int32) (s0 : Mem) : CS 2 MX8_isWhat [.int p0] s0 ((f_X8_isWhat p0 s0).map wI) := by
  refine CS.of (by decide +kernel) (Nat.le_of_ble_eq_true rfl) (fun X Z hO hQ => ?_)
  show SIM X MX8_isWhat wI Z 0 [(0, .int p0)] [] s0 _
  unfold f_X8_isWhat
  refine S_ (R_iload_n hO dX8_isWhat_0 rfl) ?_
  refine S_ (R_i2l hO dX8_isWhat_1) ?_
  refine S_ (R_lconst (v := (0 : Int64)) hO dX8_isWhat_2 (by decide)) ?_
  refine S_ (R_lconst (v := (1 : Int64)) hO dX8_isWhat_3 (by decide)) ?_
  refine S_callSI (rest := []) hO dX8_isWhat_4 (cs_X8_in p0.toInt64 (0 : Int64) (1 : Int64) s0) (by omega) lk_X8_57 np_X8_in rfl (Nat.le_of_ble_eq_true rfl) (fun x1 s2 => ?_)
  exact S_zret rfl hO hQ dX8_isWhat_7 rfl
def f_X8_ahead (p1 : Int32) (p2 : Int32) (s0 : Mem) : Option (Int32 × Mem) := bd2 (f_X8_isHouse p1 s0) fun x1 s2 => if x1 = 0 then (some ((-1000001 : Int32), s2)) else bd2 (f_X8_in p2.toInt64 (0 : Int64) (60 : Int64) s2) fun x3 s4 => if x3 = 0 then (some ((-1000001 : Int32), s4)) else bd (f_X8_putAside s4) fun s6 => bd (f_X8_goOn p2 s6) fun s8 => ing ((21 : Int32) + p1) 29 <| lt (s8 187 ((21 : Int32) + p1).toNatClampNeg) fun x9 => bd (f_X8_takeBack s8) fun s11 => some (x9, s11)
theorem cs_X8_ahead (p1 : Int32) (p2 : Int32) (s0 : Mem) : CS 6 MX8_ahead [.ref 183, .int p1, .int p2] s0 ((f_X8_ahead p1 p2 s0).map wI) := by
  refine CS.of (by decide +kernel) (Nat.le_of_ble_eq_true rfl) (fun X Z hO hQ => ?_)
  show SIM X MX8_ahead wI Z 0 [(0, .ref 183), (1, .int p1), (2, .int p2)] [] s0 _
  unfold f_X8_ahead
  refine S_ (R_aload_n hO dX8_ahead_0 rfl) ?_
  refine S_ (R_iload_n hO dX8_ahead_1 rfl) ?_
  refine S_callVI (rest := []) hO dX8_ahead_2 (cs_X8_isHouse p1 s0) (by omega) lk_X8_175 np_X8_isHouse (rc_183 rfl) rfl (Nat.le_of_ble_eq_true rfl) (fun x1 s2 => ?_)
  refine S_if_eq (tgt := 20) hO dX8_ahead_5 (by decide) ?_ ?_
  · refine S_ (R_iload_n hO dX8_ahead_8 rfl) ?_
    refine S_ (R_i2l hO dX8_ahead_9) ?_
    refine S_ (R_lconst (v := (0 : Int64)) hO dX8_ahead_10 (by decide)) ?_
    refine S_ (R_ldc2 (v := (60 : Int64)) hO dX8_ahead_11 kl_X8_194) ?_
    refine S_callSI (rest := []) hO dX8_ahead_14 (cs_X8_in p2.toInt64 (0 : Int64) (60 : Int64) s2) (by omega) lk_X8_57 np_X8_in rfl (Nat.le_of_ble_eq_true rfl) (fun x3 s4 => ?_)
    refine S_if_ne (tgt := 23) hO dX8_ahead_17 (by decide) ?_ ?_
    · refine S_ (R_ldc (v := (-1000001 : Int32)) hO dX8_ahead_20 kc_X8_67) ?_
      exact S_iret rfl hO hQ dX8_ahead_22 rfl
    · refine S_ (R_aload_n hO dX8_ahead_23 rfl) ?_
      refine S_callVV (rest := []) hO dX8_ahead_24 (cs_X8_putAside s4) (by omega) lk_X8_196 np_X8_putAside (rc_183 rfl) rfl (Nat.le_of_ble_eq_true rfl) (fun s6 => ?_)
      refine S_ (R_aload_n hO dX8_ahead_27 rfl) ?_
      refine S_ (R_iload_n hO dX8_ahead_28 rfl) ?_
      refine S_callVV (rest := []) hO dX8_ahead_29 (cs_X8_goOn p2 s6) (by omega) lk_X8_187 np_X8_goOn (rc_183 rfl) rfl (Nat.le_of_ble_eq_true rfl) (fun s8 => ?_)
      refine S_ (R_aload_n hO dX8_ahead_32 rfl) ?_
      refine S_getR hO dX8_ahead_33 fl_X8_19 sh_183 rfl ?_
      refine S_ (R_bipush (v := (21 : Int32)) hO dX8_ahead_36 (by decide)) ?_
      refine S_ (R_iload_n hO dX8_ahead_38 rfl) ?_
      refine S_ (R_iadd hO dX8_ahead_39) ?_
      refine S_iald hO dX8_ahead_40 sh_187 ?_
      refine S_istore_n (L2 := fun x9 => [(3, .int x9), (0, .ref 183), (1, .int p1), (2, .int p2)]) hO dX8_ahead_41 (Nat.le_of_ble_eq_true rfl) (fun _ => rfl) (fun x9 => ?_)
      refine S_ (R_aload_n hO dX8_ahead_42 rfl) ?_
      refine S_callVV (rest := []) hO dX8_ahead_43 (cs_X8_takeBack s8) (by omega) lk_X8_191 np_X8_takeBack (rc_183 rfl) rfl (Nat.le_of_ble_eq_true rfl) (fun s11 => ?_)
      refine S_ (R_iload_n hO dX8_ahead_46 rfl) ?_
      exact S_iret rfl hO hQ dX8_ahead_47 rfl
  · refine S_ (R_ldc (v := (-1000001 : Int32)) hO dX8_ahead_20 kc_X8_67) ?_
    exact S_iret rfl hO hQ dX8_ahead_22 rfl
def f_X8_isHow (p1 : Int32) (p2 : Int32) (s0 : Mem) : Option (Int32 × Mem) := if p2 = 0 then (bd2 (f_X8_stands p1 s0) fun x1 s2 => if x1 = 0 then (some ((1 : Int32), s2)) else some ((0 : Int32), s2)) else bd2 (f_X8_leans p1 s0) fun x3 s4 => gd (x3 = 0 ∨ x3 = 1) <| some (x3, s4)
theorem cs_X8_isHow (p1 : Int32) (p2 : Int32) (s0 : Mem) : CS 3 MX8_isHow [.ref 183, .int p1, .int p2] s0 ((f_X8_isHow p1 p2 s0).map wI) := by
  refine CS.of (by decide +kernel) (Nat.le_of_ble_eq_true rfl) (fun X Z hO hQ => ?_)
  show SIM X MX8_isHow wI Z 0 [(0, .ref 183), (1, .int p1), (2, .int p2)] [] s0 _
  unfold f_X8_isHow
  refine S_ (R_iload_n hO dX8_isHow_0 rfl) ?_
  refine S_if_ne (tgt := 20) hO dX8_isHow_1 (by decide) ?_ ?_
  · refine S_ (R_aload_n hO dX8_isHow_4 rfl) ?_
    refine S_ (R_iload_n hO dX8_isHow_5 rfl) ?_
    refine S_callVI (rest := []) hO dX8_isHow_6 (cs_X8_stands p1 s0) (by omega) lk_X8_142 np_X8_stands (rc_183 rfl) rfl (Nat.le_of_ble_eq_true rfl) (fun x1 s2 => ?_)
    refine S_if_ne (tgt := 16) hO dX8_isHow_9 (by decide) ?_ ?_
    · refine S_ (R_iconst (v := (1 : Int32)) hO dX8_isHow_12 (by decide)) ?_
      refine S_ (R_goto (tgt := 25) hO dX8_isHow_13 (by decide)) ?_
      exact S_zret0 rfl hO hQ dX8_isHow_25 rfl (by decide)
    · refine S_ (R_iconst (v := (0 : Int32)) hO dX8_isHow_16 (by decide)) ?_
      refine S_ (R_goto (tgt := 25) hO dX8_isHow_17 (by decide)) ?_
      exact S_zret0 rfl hO hQ dX8_isHow_25 rfl (by decide)
  · refine S_ (R_aload_n hO dX8_isHow_20 rfl) ?_
    refine S_ (R_iload_n hO dX8_isHow_21 rfl) ?_
    refine S_callVI (rest := []) hO dX8_isHow_22 (cs_X8_leans p1 s0) (by omega) lk_X8_149 np_X8_leans (rc_183 rfl) rfl (Nat.le_of_ble_eq_true rfl) (fun x3 s4 => ?_)
    exact S_zret rfl hO hQ dX8_isHow_25 rfl
def f_X8_when_52 (p1 : Int32) (p2 : Int32) (m3 : Int32) (s0 : Mem) : Option (Int32 × Mem) := bd2 (f_X8_isHow p1 p2 s0) fun x1 s2 => lt (x1) fun x3 => bd (f_X8_takeBack s2) fun s5 => if x3 = 0 then (some ((-1000000 : Int32), s5)) else some (m3, s5)
theorem w_X8_when_52 {X : CX} {Z : Option Value × Mem → Prop} (hO : OKX X false 5 MX8_when) (hQ : OKS X Z) (p1 : Int32) (p2 : Int32) (m3 : Int32) (s0 : Mem) : SIM X MX8_when wI Z 52 [(0, .ref 183), (1, .int p1), (2, .int p2), (3, .int m3)] [] s0 (f_X8_when_52 p1 p2 m3 s0) := by
  unfold f_X8_when_52
  refine S_ (R_aload_n hO dX8_when_52 rfl) ?_
  refine S_ (R_iload_n hO dX8_when_53 rfl) ?_
  refine S_ (R_iload_n hO dX8_when_54 rfl) ?_
  refine S_callVI (rest := []) hO dX8_when_55 (cs_X8_isHow p1 p2 s0) (by omega) lk_X8_199 np_X8_isHow (rc_183 rfl) rfl (Nat.le_of_ble_eq_true rfl) (fun x1 s2 => ?_)
  refine S_istore (L2 := fun x3 => [(4, .int x3), (0, .ref 183), (1, .int p1), (2, .int p2), (3, .int m3)]) hO dX8_when_58 (Nat.le_of_ble_eq_true rfl) (fun _ => rfl) (fun x3 => ?_)
  refine S_ (R_aload_n hO dX8_when_60 rfl) ?_
  refine S_callVV (rest := []) hO dX8_when_61 (cs_X8_takeBack s2) (by omega) lk_X8_191 np_X8_takeBack (rc_183 rfl) rfl (Nat.le_of_ble_eq_true rfl) (fun s5 => ?_)
  refine S_ (R_iload hO dX8_when_64 rfl) ?_
  refine S_if_eq (tgt := 73) hO dX8_when_66 (by decide) ?_ ?_
  · refine S_ (R_iload_n hO dX8_when_69 rfl) ?_
    refine S_ (R_goto (tgt := 75) hO dX8_when_70 (by decide)) ?_
    exact S_iret rfl hO hQ dX8_when_75 rfl
  · refine S_ (R_ldc (v := (-1000000 : Int32)) hO dX8_when_73 kc_X8_202) ?_
    exact S_iret rfl hO hQ dX8_when_75 rfl
def f_X8_when_27 (p1 : Int32) (p2 : Int32) : Nat → Int32 → Mem → Option (Int32 × Mem)
  | 0, _, _ => none
  | n + 1, m3, s0 => bd2 (f_X8_isHow p1 p2 s0) fun x1 s2 => if x1 = 0 then (if (60 : Int32) ≤ m3 then (f_X8_when_52 p1 p2 m3 s2) else bd (f_X8_oneHour s2) fun s4 => lt (m3 + (1 : Int32)) fun x5 => f_X8_when_27 p1 p2 n x5 s4) else f_X8_when_52 p1 p2 m3 s2
theorem w_X8_when_27 {X : CX} {Z : Option Value × Mem → Prop} (hO : OKX X false 5 MX8_when) (hQ : OKS X Z) (p1 : Int32) (p2 : Int32) : ∀ (n : Nat) (m3 : Int32) (s0 : Mem), SIM X MX8_when wI Z 27 [(0, .ref 183), (1, .int p1), (2, .int p2), (3, .int m3)] [] s0 (f_X8_when_27 p1 p2 n m3 s0) := by
  intro n
  induction n with
  | zero => intros; exact S_none
  | succ n ih =>
    intro m3 s0
    rw [f_X8_when_27]
    refine S_ (R_aload_n hO dX8_when_27 rfl) ?_
    refine S_ (R_iload_n hO dX8_when_28 rfl) ?_
    refine S_ (R_iload_n hO dX8_when_29 rfl) ?_
    refine S_callVI (rest := []) hO dX8_when_30 (cs_X8_isHow p1 p2 s0) (by omega) lk_X8_199 np_X8_isHow (rc_183 rfl) rfl (Nat.le_of_ble_eq_true rfl) (fun x1 s2 => ?_)
    refine S_if_ne (tgt := 52) hO dX8_when_33 (by decide) ?_ ?_
    · refine S_ (R_iload_n hO dX8_when_36 rfl) ?_
      refine S_ (R_bipush (v := (60 : Int32)) hO dX8_when_37 (by decide)) ?_
      refine S_icmp_ge (tgt := 52) hO dX8_when_39 (by decide) ?_ ?_
      · refine S_ (R_aload_n hO dX8_when_42 rfl) ?_
        refine S_callVV (rest := []) hO dX8_when_43 (cs_X8_oneHour s2) (by omega) lk_X8_172 np_X8_oneHour (rc_183 rfl) rfl (Nat.le_of_ble_eq_true rfl) (fun s4 => ?_)
        refine S_iinc (L2 := fun x5 => [(3, .int x5), (0, .ref 183), (1, .int p1), (2, .int p2)]) (v := (1 : Int32)) hO dX8_when_46 rfl (by decide) (Nat.le_of_ble_eq_true rfl) (fun _ => rfl) (fun x5 => ?_)
        refine S_ (R_goto (tgt := 27) hO dX8_when_49 (by decide)) ?_
        refine S_sub [1, 2, 3, 0] rfl ?_
        exact ih x5 s4
      · refine S_sub [0, 1, 2, 3] rfl ?_
        exact w_X8_when_52 hO hQ p1 p2 m3 s2
    · refine S_sub [0, 1, 2, 3] rfl ?_
      exact w_X8_when_52 hO hQ p1 p2 m3 s2
def f_X8_when (p1 : Int32) (p2 : Int32) (s0 : Mem) : Option (Int32 × Mem) := bd2 (f_X8_isHouse p1 s0) fun x1 s2 => if x1 = 0 then (some ((-1000001 : Int32), s2)) else bd2 (f_X8_in p2.toInt64 (0 : Int64) (1 : Int64) s2) fun x3 s4 => if x3 = 0 then (some ((-1000001 : Int32), s4)) else bd (f_X8_putAside s4) fun s6 => lt ((0 : Int32)) fun x7 => f_X8_when_27 p1 p2 FU x7 s6
theorem cs_X8_when (p1 : Int32) (p2 : Int32) (s0 : Mem) : CS 5 MX8_when [.ref 183, .int p1, .int p2] s0 ((f_X8_when p1 p2 s0).map wI) := by
  refine CS.of (by decide +kernel) (Nat.le_of_ble_eq_true rfl) (fun X Z hO hQ => ?_)
  show SIM X MX8_when wI Z 0 [(0, .ref 183), (1, .int p1), (2, .int p2)] [] s0 _
  unfold f_X8_when
  refine S_ (R_aload_n hO dX8_when_0 rfl) ?_
  refine S_ (R_iload_n hO dX8_when_1 rfl) ?_
  refine S_callVI (rest := []) hO dX8_when_2 (cs_X8_isHouse p1 s0) (by omega) lk_X8_175 np_X8_isHouse (rc_183 rfl) rfl (Nat.le_of_ble_eq_true rfl) (fun x1 s2 => ?_)
  refine S_if_eq (tgt := 18) hO dX8_when_5 (by decide) ?_ ?_
  · refine S_ (R_iload_n hO dX8_when_8 rfl) ?_
    refine S_ (R_i2l hO dX8_when_9) ?_
    refine S_ (R_lconst (v := (0 : Int64)) hO dX8_when_10 (by decide)) ?_
    refine S_ (R_lconst (v := (1 : Int64)) hO dX8_when_11 (by decide)) ?_
    refine S_callSI (rest := []) hO dX8_when_12 (cs_X8_in p2.toInt64 (0 : Int64) (1 : Int64) s2) (by omega) lk_X8_57 np_X8_in rfl (Nat.le_of_ble_eq_true rfl) (fun x3 s4 => ?_)
    refine S_if_ne (tgt := 21) hO dX8_when_15 (by decide) ?_ ?_
    · refine S_ (R_ldc (v := (-1000001 : Int32)) hO dX8_when_18 kc_X8_67) ?_
      exact S_iret rfl hO hQ dX8_when_20 rfl
    · refine S_ (R_aload_n hO dX8_when_21 rfl) ?_
      refine S_callVV (rest := []) hO dX8_when_22 (cs_X8_putAside s4) (by omega) lk_X8_196 np_X8_putAside (rc_183 rfl) rfl (Nat.le_of_ble_eq_true rfl) (fun s6 => ?_)
      refine S_ (R_iconst (v := (0 : Int32)) hO dX8_when_25 (by decide)) ?_
      refine S_istore_n (L2 := fun x7 => [(3, .int x7), (0, .ref 183), (1, .int p1), (2, .int p2)]) hO dX8_when_26 (Nat.le_of_ble_eq_true rfl) (fun _ => rfl) (fun x7 => ?_)
      refine S_sub [1, 2, 3, 0] rfl ?_
      exact w_X8_when_27 hO hQ p1 p2 FU x7 s6
  · refine S_ (R_ldc (v := (-1000001 : Int32)) hO dX8_when_18 kc_X8_67) ?_
    exact S_iret rfl hO hQ dX8_when_20 rfl
def f_X8_least_2 (p0 : Int32) : Nat → Int32 → Mem → Option (Int32 × Mem)
  | 0, _, _ => none
  | n + 1, m1, s0 => bd2 (f_X8_has p0 m1 s0) fun x1 s2 => if x1 = 0 then (lt (m1 + (1 : Int32)) fun x3 => f_X8_least_2 p0 n x3 s2) else some (m1, s2)
theorem w_X8_least_2 {X : CX} {Z : Option Value × Mem → Prop} (hO : OKX X false 2 MX8_least) (hQ : OKS X Z) (p0 : Int32) : ∀ (n : Nat) (m1 : Int32) (s0 : Mem), SIM X MX8_least wI Z 2 [(0, .int p0), (1, .int m1)] [] s0 (f_X8_least_2 p0 n m1 s0) := by
  intro n
  induction n with
  | zero => intros; exact S_none
  | succ n ih =>
    intro m1 s0
    rw [f_X8_least_2]
    refine S_ (R_iload_n hO dX8_least_2 rfl) ?_
    refine S_ (R_iload_n hO dX8_least_3 rfl) ?_
    refine S_callSI (rest := []) hO dX8_least_4 (cs_X8_has p0 m1 s0) (by omega) lk_X8_145 np_X8_has rfl (Nat.le_of_ble_eq_true rfl) (fun x1 s2 => ?_)
    refine S_if_ne (tgt := 16) hO dX8_least_7 (by decide) ?_ ?_
    · refine S_iinc (L2 := fun x3 => [(1, .int x3), (0, .int p0)]) (v := (1 : Int32)) hO dX8_least_10 rfl (by decide) (Nat.le_of_ble_eq_true rfl) (fun _ => rfl) (fun x3 => ?_)
      refine S_ (R_goto (tgt := 2) hO dX8_least_13 (by decide)) ?_
      refine S_sub [1, 0] rfl ?_
      exact ih x3 s2
    · refine S_ (R_iload_n hO dX8_least_16 rfl) ?_
      exact S_iret rfl hO hQ dX8_least_17 rfl
def f_X8_least (p0 : Int32) (s0 : Mem) : Option (Int32 × Mem) := lt ((0 : Int32)) fun x1 => f_X8_least_2 p0 FU x1 s0
theorem cs_X8_least (p0 : Int32) (s0 : Mem) : CS 2 MX8_least [.int p0] s0 ((f_X8_least p0 s0).map wI) := by
  refine CS.of (by decide +kernel) (Nat.le_of_ble_eq_true rfl) (fun X Z hO hQ => ?_)
  show SIM X MX8_least wI Z 0 [(0, .int p0)] [] s0 _
  unfold f_X8_least
  refine S_ (R_iconst (v := (0 : Int32)) hO dX8_least_0 (by decide)) ?_
  refine S_istore_n (L2 := fun x1 => [(1, .int x1), (0, .int p0)]) hO dX8_least_1 (Nat.le_of_ble_eq_true rfl) (fun _ => rfl) (fun x1 => ?_)
  refine S_sub [1, 0] rfl ?_
  exact w_X8_least_2 hO hQ p0 FU x1 s0
def f_X8_first_55 (p1 : Int32) (m2 : Int32) (m3 : Int32) (s0 : Mem) : Option (Int32 × Mem) := bd2 (f_X8_standing s0) fun x1 s2 => lt (m2 &&& (x1 ^^^ (-1 : Int32))) fun x3 => bd (f_X8_takeBack s2) fun s5 => if x3 = 0 then (some ((-1000000 : Int32), s5)) else if p1 = 0 then (bd2 (f_X8_least x3 s5) fun x6 s7 => some (x6, s7)) else some (m3, s5)
theorem w_X8_first_55 {X : CX} {Z : Option Value × Mem → Prop} (hO : OKX X false 5 MX8_first) (hQ : OKS X Z) (p1 : Int32) (m2 : Int32) (m3 : Int32) (s0 : Mem) : SIM X MX8_first wI Z 55 [(0, .ref 183), (1, .int p1), (2, .int m2), (3, .int m3)] [] s0 (f_X8_first_55 p1 m2 m3 s0) := by
  unfold f_X8_first_55
  refine S_ (R_iload_n hO dX8_first_55 rfl) ?_
  refine S_ (R_aload_n hO dX8_first_56 rfl) ?_
  refine S_callVI (rest := [.int m2]) hO dX8_first_57 (cs_X8_standing s0) (by omega) lk_X8_155 np_X8_standing (rc_183 rfl) rfl (Nat.le_of_ble_eq_true rfl) (fun x1 s2 => ?_)
  refine S_ (R_iconst (v := (-1 : Int32)) hO dX8_first_60 (by decide)) ?_
  refine S_ (R_ixor hO dX8_first_61) ?_
  refine S_ (R_iand hO dX8_first_62) ?_
  refine S_istore (L2 := fun x3 => [(4, .int x3), (0, .ref 183), (1, .int p1), (2, .int m2), (3, .int m3)]) hO dX8_first_63 (Nat.le_of_ble_eq_true rfl) (fun _ => rfl) (fun x3 => ?_)
  refine S_ (R_aload_n hO dX8_first_65 rfl) ?_
  refine S_callVV (rest := []) hO dX8_first_66 (cs_X8_takeBack s2) (by omega) lk_X8_191 np_X8_takeBack (rc_183 rfl) rfl (Nat.le_of_ble_eq_true rfl) (fun s5 => ?_)
  refine S_ (R_iload hO dX8_first_69 rfl) ?_
  refine S_if_ne (tgt := 79) hO dX8_first_71 (by decide) ?_ ?_
  · refine S_ (R_ldc (v := (-1000000 : Int32)) hO dX8_first_74 kc_X8_202) ?_
    refine S_ (R_goto (tgt := 92) hO dX8_first_76 (by decide)) ?_
    exact S_iret rfl hO hQ dX8_first_92 rfl
  · refine S_ (R_iload_n hO dX8_first_79 rfl) ?_
    refine S_if_ne (tgt := 91) hO dX8_first_80 (by decide) ?_ ?_
    · refine S_ (R_iload hO dX8_first_83 rfl) ?_
      refine S_callSI (rest := []) hO dX8_first_85 (cs_X8_least x3 s5) (by omega) lk_X8_206 np_X8_least rfl (Nat.le_of_ble_eq_true rfl) (fun x6 s7 => ?_)
      refine S_ (R_goto (tgt := 92) hO dX8_first_88 (by decide)) ?_
      exact S_iret rfl hO hQ dX8_first_92 rfl
    · refine S_ (R_iload_n hO dX8_first_91 rfl) ?_
      exact S_iret rfl hO hQ dX8_first_92 rfl
def f_X8_first_31 (p1 : Int32) : Nat → Int32 → Int32 → Mem → Option (Int32 × Mem)
  | 0, _, _, _ => none
  | n + 1, m2, m3, s0 => bd2 (f_X8_standing s0) fun x1 s2 => if x1 = m2 then (if (60 : Int32) ≤ m3 then (f_X8_first_55 p1 m2 m3 s2) else bd (f_X8_oneHour s2) fun s4 => lt (m3 + (1 : Int32)) fun x5 => f_X8_first_31 p1 n m2 x5 s4) else f_X8_first_55 p1 m2 m3 s2
theorem w_X8_first_31 {X : CX} {Z : Option Value × Mem → Prop} (hO : OKX X false 5 MX8_first) (hQ : OKS X Z) (p1 : Int32) : ∀ (n : Nat) (m2 : Int32) (m3 : Int32) (s0 : Mem), SIM X MX8_first wI Z 31 [(0, .ref 183), (1, .int p1), (2, .int m2), (3, .int m3)] [] s0 (f_X8_first_31 p1 n m2 m3 s0) := by
  intro n
  induction n with
  | zero => intros; exact S_none
  | succ n ih =>
    intro m2 m3 s0
    rw [f_X8_first_31]
    refine S_ (R_aload_n hO dX8_first_31 rfl) ?_
    refine S_callVI (rest := []) hO dX8_first_32 (cs_X8_standing s0) (by omega) lk_X8_155 np_X8_standing (rc_183 rfl) rfl (Nat.le_of_ble_eq_true rfl) (fun x1 s2 => ?_)
    refine S_ (R_iload_n hO dX8_first_35 rfl) ?_
    refine S_icmp_ne (tgt := 55) hO dX8_first_36 (by decide) ?_ ?_
    · refine S_ (R_iload_n hO dX8_first_39 rfl) ?_
      refine S_ (R_bipush (v := (60 : Int32)) hO dX8_first_40 (by decide)) ?_
      refine S_icmp_ge (tgt := 55) hO dX8_first_42 (by decide) ?_ ?_
      · refine S_ (R_aload_n hO dX8_first_45 rfl) ?_
        refine S_callVV (rest := []) hO dX8_first_46 (cs_X8_oneHour s2) (by omega) lk_X8_172 np_X8_oneHour (rc_183 rfl) rfl (Nat.le_of_ble_eq_true rfl) (fun s4 => ?_)
        refine S_iinc (L2 := fun x5 => [(3, .int x5), (0, .ref 183), (1, .int p1), (2, .int m2)]) (v := (1 : Int32)) hO dX8_first_49 rfl (by decide) (Nat.le_of_ble_eq_true rfl) (fun _ => rfl) (fun x5 => ?_)
        refine S_ (R_goto (tgt := 31) hO dX8_first_52 (by decide)) ?_
        refine S_sub [1, 2, 3, 0] rfl ?_
        exact ih m2 x5 s4
      · refine S_sub [0, 1, 2, 3] rfl ?_
        exact w_X8_first_55 hO hQ p1 m2 m3 s2
    · refine S_sub [0, 1, 2, 3] rfl ?_
      exact w_X8_first_55 hO hQ p1 m2 m3 s2
def f_X8_first (p1 : Int32) (s0 : Mem) : Option (Int32 × Mem) := if (s0 183 4) = 0 then (some ((-1000002 : Int32), s0)) else bd2 (f_X8_isWhat p1 s0) fun x1 s2 => if x1 = 0 then (some ((-1000001 : Int32), s2)) else bd (f_X8_putAside s2) fun s4 => bd2 (f_X8_standing s4) fun x5 s6 => lt (x5) fun x7 => lt ((0 : Int32)) fun x8 => f_X8_first_31 p1 FU x7 x8 s6
theorem cs_X8_first (p1 : Int32) (s0 : Mem) : CS 5 MX8_first [.ref 183, .int p1] s0 ((f_X8_first p1 s0).map wI) := by
  refine CS.of (by decide +kernel) (Nat.le_of_ble_eq_true rfl) (fun X Z hO hQ => ?_)
  show SIM X MX8_first wI Z 0 [(0, .ref 183), (1, .int p1)] [] s0 _
  unfold f_X8_first
  refine S_ (R_aload_n hO dX8_first_0 rfl) ?_
  refine S_getI hO dX8_first_1 fl_X8_135 sh_183 rfl ?_
  refine S_if_ne (tgt := 10) hO dX8_first_4 (by decide) ?_ ?_
  · refine S_ (R_ldc (v := (-1000002 : Int32)) hO dX8_first_7 kc_X8_166) ?_
    exact S_iret rfl hO hQ dX8_first_9 rfl
  · refine S_ (R_iload_n hO dX8_first_10 rfl) ?_
    refine S_callSI (rest := []) hO dX8_first_11 (cs_X8_isWhat p1 s0) (by omega) lk_X8_203 np_X8_isWhat rfl (Nat.le_of_ble_eq_true rfl) (fun x1 s2 => ?_)
    refine S_if_ne (tgt := 20) hO dX8_first_14 (by decide) ?_ ?_
    · refine S_ (R_ldc (v := (-1000001 : Int32)) hO dX8_first_17 kc_X8_67) ?_
      exact S_iret rfl hO hQ dX8_first_19 rfl
    · refine S_ (R_aload_n hO dX8_first_20 rfl) ?_
      refine S_callVV (rest := []) hO dX8_first_21 (cs_X8_putAside s2) (by omega) lk_X8_196 np_X8_putAside (rc_183 rfl) rfl (Nat.le_of_ble_eq_true rfl) (fun s4 => ?_)
      refine S_ (R_aload_n hO dX8_first_24 rfl) ?_
      refine S_callVI (rest := []) hO dX8_first_25 (cs_X8_standing s4) (by omega) lk_X8_155 np_X8_standing (rc_183 rfl) rfl (Nat.le_of_ble_eq_true rfl) (fun x5 s6 => ?_)
      refine S_istore_n (L2 := fun x7 => [(2, .int x7), (0, .ref 183), (1, .int p1)]) hO dX8_first_28 (Nat.le_of_ble_eq_true rfl) (fun _ => rfl) (fun x7 => ?_)
      refine S_ (R_iconst (v := (0 : Int32)) hO dX8_first_29 (by decide)) ?_
      refine S_istore_n (L2 := fun x8 => [(3, .int x8), (2, .int x7), (0, .ref 183), (1, .int p1)]) hO dX8_first_30 (Nat.le_of_ble_eq_true rfl) (fun _ => rfl) (fun x8 => ?_)
      refine S_sub [2, 3, 1, 0] rfl ?_
      exact w_X8_first_31 hO hQ p1 FU x7 x8 s6
def f_X8_left (p1 : Int32) (s0 : Mem) : Option (Int32 × Mem) := if (s0 183 4) = 0 then (some ((-1000002 : Int32), s0)) else bd2 (f_X8_in p1.toInt64 (0 : Int64) (60 : Int64) s0) fun x1 s2 => if x1 = 0 then (some ((-1000001 : Int32), s2)) else bd (f_X8_putAside s2) fun s4 => bd2 (f_X8_leftBehind p1 s4) fun x5 s6 => some (x5, s6)
theorem cs_X8_left (p1 : Int32) (s0 : Mem) : CS 7 MX8_left [.ref 183, .int p1] s0 ((f_X8_left p1 s0).map wI) := by
  refine CS.of (by decide +kernel) (Nat.le_of_ble_eq_true rfl) (fun X Z hO hQ => ?_)
  show SIM X MX8_left wI Z 0 [(0, .ref 183), (1, .int p1)] [] s0 _
  unfold f_X8_left
  refine S_ (R_aload_n hO dX8_left_0 rfl) ?_
  refine S_getI hO dX8_left_1 fl_X8_135 sh_183 rfl ?_
  refine S_if_ne (tgt := 10) hO dX8_left_4 (by decide) ?_ ?_
  · refine S_ (R_ldc (v := (-1000002 : Int32)) hO dX8_left_7 kc_X8_166) ?_
    exact S_iret rfl hO hQ dX8_left_9 rfl
  · refine S_ (R_iload_n hO dX8_left_10 rfl) ?_
    refine S_ (R_i2l hO dX8_left_11) ?_
    refine S_ (R_lconst (v := (0 : Int64)) hO dX8_left_12 (by decide)) ?_
    refine S_ (R_ldc2 (v := (60 : Int64)) hO dX8_left_13 kl_X8_194) ?_
    refine S_callSI (rest := []) hO dX8_left_16 (cs_X8_in p1.toInt64 (0 : Int64) (60 : Int64) s0) (by omega) lk_X8_57 np_X8_in rfl (Nat.le_of_ble_eq_true rfl) (fun x1 s2 => ?_)
    refine S_if_ne (tgt := 25) hO dX8_left_19 (by decide) ?_ ?_
    · refine S_ (R_ldc (v := (-1000001 : Int32)) hO dX8_left_22 kc_X8_67) ?_
      exact S_iret rfl hO hQ dX8_left_24 rfl
    · refine S_ (R_aload_n hO dX8_left_25 rfl) ?_
      refine S_callVV (rest := []) hO dX8_left_26 (cs_X8_putAside s2) (by omega) lk_X8_196 np_X8_putAside (rc_183 rfl) rfl (Nat.le_of_ble_eq_true rfl) (fun s4 => ?_)
      refine S_ (R_aload_n hO dX8_left_29 rfl) ?_
      refine S_ (R_iload_n hO dX8_left_30 rfl) ?_
      refine S_callVI (rest := []) hO dX8_left_31 (cs_X8_leftBehind p1 s4) (by omega) lk_X8_209 np_X8_leftBehind (rc_183 rfl) rfl (Nat.le_of_ble_eq_true rfl) (fun x5 s6 => ?_)
      exact S_iret rfl hO hQ dX8_left_34 rfl
def f_X8_leastSpin_4 : Nat → Int32 → Int32 → Mem → Option (Int32 × Mem)
  | 0, _, _, _ => none
  | n + 1, m1, m2, s0 => ing (0 : Int32) 29 <| if (s0 187 (0 : Int32).toNatClampNeg) ≤ m2 then (some (m1, s0)) else bd2 (f_X8_stands m2 s0) fun x1 s2 => if x1 = 0 then (lt (m1) fun x9 => lt (m2 + (1 : Int32)) fun x10 => f_X8_leastSpin_4 n x9 x10 s2) else if m1 = 0 then (ing ((21 : Int32) + m2) 29 <| lt (s2 187 ((21 : Int32) + m2).toNatClampNeg) fun x7 => lt (m2 + (1 : Int32)) fun x8 => f_X8_leastSpin_4 n x7 x8 s2) else ing ((21 : Int32) + m2) 29 <| if m1 ≤ (s2 187 ((21 : Int32) + m2).toNatClampNeg) then (lt (m1) fun x5 => lt (m2 + (1 : Int32)) fun x6 => f_X8_leastSpin_4 n x5 x6 s2) else ing ((21 : Int32) + m2) 29 <| lt (s2 187 ((21 : Int32) + m2).toNatClampNeg) fun x3 => lt (m2 + (1 : Int32)) fun x4 => f_X8_leastSpin_4 n x3 x4 s2
theorem w_X8_leastSpin_4 {X : CX} {Z : Option Value × Mem → Prop} (hO : OKX X false 2 MX8_leastSpin) (hQ : OKS X Z) : ∀ (n : Nat) (m1 : Int32) (m2 : Int32) (s0 : Mem), SIM X MX8_leastSpin wI Z 4 [(0, .ref 183), (1, .int m1), (2, .int m2)] [] s0 (f_X8_leastSpin_4 n m1 m2 s0) := by
  intro n
  induction n with
  | zero => intros; exact S_none
  | succ n ih =>
    intro m1 m2 s0
    rw [f_X8_leastSpin_4]
    refine S_ (R_iload_n hO dX8_leastSpin_4 rfl) ?_
    refine S_ (R_aload_n hO dX8_leastSpin_5 rfl) ?_
    refine S_getR hO dX8_leastSpin_6 fl_X8_19 sh_183 rfl ?_
    refine S_ (R_iconst (v := (0 : Int32)) hO dX8_leastSpin_9 (by decide)) ?_
    refine S_iald hO dX8_leastSpin_10 sh_187 ?_
    refine S_icmp_ge (tgt := 59) hO dX8_leastSpin_11 (by decide) ?_ ?_
    · refine S_ (R_aload_n hO dX8_leastSpin_14 rfl) ?_
      refine S_ (R_iload_n hO dX8_leastSpin_15 rfl) ?_
      refine S_callVI (rest := []) hO dX8_leastSpin_16 (cs_X8_stands m2 s0) (by omega) lk_X8_142 np_X8_stands (rc_183 rfl) rfl (Nat.le_of_ble_eq_true rfl) (fun x1 s2 => ?_)
      refine S_if_eq (tgt := 51) hO dX8_leastSpin_19 (by decide) ?_ ?_
      · refine S_ (R_iload_n hO dX8_leastSpin_22 rfl) ?_
        refine S_if_eq (tgt := 39) hO dX8_leastSpin_23 (by decide) ?_ ?_
        · refine S_ (R_aload_n hO dX8_leastSpin_26 rfl) ?_
          refine S_getR hO dX8_leastSpin_27 fl_X8_19 sh_183 rfl ?_
          refine S_ (R_bipush (v := (21 : Int32)) hO dX8_leastSpin_30 (by decide)) ?_
          refine S_ (R_iload_n hO dX8_leastSpin_32 rfl) ?_
          refine S_ (R_iadd hO dX8_leastSpin_33) ?_
          refine S_iald hO dX8_leastSpin_34 sh_187 ?_
          refine S_ (R_iload_n hO dX8_leastSpin_35 rfl) ?_
          refine S_icmp_ge (tgt := 51) hO dX8_leastSpin_36 (by decide) ?_ ?_
          · refine S_ (R_aload_n hO dX8_leastSpin_39 rfl) ?_
            refine S_getR hO dX8_leastSpin_40 fl_X8_19 sh_183 rfl ?_
            refine S_ (R_bipush (v := (21 : Int32)) hO dX8_leastSpin_43 (by decide)) ?_
            refine S_ (R_iload_n hO dX8_leastSpin_45 rfl) ?_
            refine S_ (R_iadd hO dX8_leastSpin_46) ?_
            refine S_iald hO dX8_leastSpin_47 sh_187 ?_
            refine S_ (R_goto (tgt := 52) hO dX8_leastSpin_48 (by decide)) ?_
            refine S_istore_n (L2 := fun x3 => [(1, .int x3), (0, .ref 183), (2, .int m2)]) hO dX8_leastSpin_52 (Nat.le_of_ble_eq_true rfl) (fun _ => rfl) (fun x3 => ?_)
            refine S_iinc (L2 := fun x4 => [(2, .int x4), (1, .int x3), (0, .ref 183)]) (v := (1 : Int32)) hO dX8_leastSpin_53 rfl (by decide) (Nat.le_of_ble_eq_true rfl) (fun _ => rfl) (fun x4 => ?_)
            refine S_ (R_goto (tgt := 4) hO dX8_leastSpin_56 (by decide)) ?_
            refine S_sub [2, 1, 0] rfl ?_
            exact ih x3 x4 s2
          · refine S_ (R_iload_n hO dX8_leastSpin_51 rfl) ?_
            refine S_istore_n (L2 := fun x5 => [(1, .int x5), (0, .ref 183), (2, .int m2)]) hO dX8_leastSpin_52 (Nat.le_of_ble_eq_true rfl) (fun _ => rfl) (fun x5 => ?_)
            refine S_iinc (L2 := fun x6 => [(2, .int x6), (1, .int x5), (0, .ref 183)]) (v := (1 : Int32)) hO dX8_leastSpin_53 rfl (by decide) (Nat.le_of_ble_eq_true rfl) (fun _ => rfl) (fun x6 => ?_)
            refine S_ (R_goto (tgt := 4) hO dX8_leastSpin_56 (by decide)) ?_
            refine S_sub [2, 1, 0] rfl ?_
            exact ih x5 x6 s2
        · refine S_ (R_aload_n hO dX8_leastSpin_39 rfl) ?_
          refine S_getR hO dX8_leastSpin_40 fl_X8_19 sh_183 rfl ?_
          refine S_ (R_bipush (v := (21 : Int32)) hO dX8_leastSpin_43 (by decide)) ?_
          refine S_ (R_iload_n hO dX8_leastSpin_45 rfl) ?_
          refine S_ (R_iadd hO dX8_leastSpin_46) ?_
          refine S_iald hO dX8_leastSpin_47 sh_187 ?_
          refine S_ (R_goto (tgt := 52) hO dX8_leastSpin_48 (by decide)) ?_
          refine S_istore_n (L2 := fun x7 => [(1, .int x7), (0, .ref 183), (2, .int m2)]) hO dX8_leastSpin_52 (Nat.le_of_ble_eq_true rfl) (fun _ => rfl) (fun x7 => ?_)
          refine S_iinc (L2 := fun x8 => [(2, .int x8), (1, .int x7), (0, .ref 183)]) (v := (1 : Int32)) hO dX8_leastSpin_53 rfl (by decide) (Nat.le_of_ble_eq_true rfl) (fun _ => rfl) (fun x8 => ?_)
          refine S_ (R_goto (tgt := 4) hO dX8_leastSpin_56 (by decide)) ?_
          refine S_sub [2, 1, 0] rfl ?_
          exact ih x7 x8 s2
      · refine S_ (R_iload_n hO dX8_leastSpin_51 rfl) ?_
        refine S_istore_n (L2 := fun x9 => [(1, .int x9), (0, .ref 183), (2, .int m2)]) hO dX8_leastSpin_52 (Nat.le_of_ble_eq_true rfl) (fun _ => rfl) (fun x9 => ?_)
        refine S_iinc (L2 := fun x10 => [(2, .int x10), (1, .int x9), (0, .ref 183)]) (v := (1 : Int32)) hO dX8_leastSpin_53 rfl (by decide) (Nat.le_of_ble_eq_true rfl) (fun _ => rfl) (fun x10 => ?_)
        refine S_ (R_goto (tgt := 4) hO dX8_leastSpin_56 (by decide)) ?_
        refine S_sub [2, 1, 0] rfl ?_
        exact ih x9 x10 s2
    · refine S_ (R_iload_n hO dX8_leastSpin_59 rfl) ?_
      exact S_iret rfl hO hQ dX8_leastSpin_60 rfl
def f_X8_leastSpin (s0 : Mem) : Option (Int32 × Mem) := lt ((0 : Int32)) fun x1 => lt ((0 : Int32)) fun x2 => f_X8_leastSpin_4 FU x1 x2 s0
theorem cs_X8_leastSpin (s0 : Mem) : CS 2 MX8_leastSpin [.ref 183] s0 ((f_X8_leastSpin s0).map wI) := by
  refine CS.of (by decide +kernel) (Nat.le_of_ble_eq_true rfl) (fun X Z hO hQ => ?_)
  show SIM X MX8_leastSpin wI Z 0 [(0, .ref 183)] [] s0 _
  unfold f_X8_leastSpin
  refine S_ (R_iconst (v := (0 : Int32)) hO dX8_leastSpin_0 (by decide)) ?_
  refine S_istore_n (L2 := fun x1 => [(1, .int x1), (0, .ref 183)]) hO dX8_leastSpin_1 (Nat.le_of_ble_eq_true rfl) (fun _ => rfl) (fun x1 => ?_)
  refine S_ (R_iconst (v := (0 : Int32)) hO dX8_leastSpin_2 (by decide)) ?_
  refine S_istore_n (L2 := fun x2 => [(2, .int x2), (1, .int x1), (0, .ref 183)]) hO dX8_leastSpin_3 (Nat.le_of_ble_eq_true rfl) (fun _ => rfl) (fun x2 => ?_)
  refine S_sub [2, 1, 0] rfl ?_
  exact w_X8_leastSpin_4 hO hQ FU x1 x2 s0
def f_X8_goesRound_76 (p1 : Int32) (p2 : Int32) (p3 : Int32) (p4 : Int32) (K13 : Int32 → Int32 → Int32 → Int32 → Mem → Option (Int32 × Mem)) (m5 : Int32) (m6 : Int32) (m7 : Int32) (m8 : Int32) (s0 : Mem) : Option (Int32 × Mem) := bd (f_X8_oneHour s0) fun s2 => lt (m8 + (1 : Int32)) fun x3 => K13 m5 m6 m7 x3 s2
theorem w_X8_goesRound_76 {X : CX} {Z : Option Value × Mem → Prop} (hO : OKX X false 5 MX8_goesRound) (hQ : OKS X Z) (p1 : Int32) (p2 : Int32) (p3 : Int32) (p4 : Int32) (K13 : Int32 → Int32 → Int32 → Int32 → Mem → Option (Int32 × Mem)) (h13 : ∀ m5 m6 m7 m8 τ, SIM X MX8_goesRound wI Z 13 [(0, .ref 183), (3, .int p3), (5, .int m5), (6, .int m6), (7, .int m7), (8, .int m8)] [] τ (K13 m5 m6 m7 m8 τ)) (m5 : Int32) (m6 : Int32) (m7 : Int32) (m8 : Int32) (s0 : Mem) : SIM X MX8_goesRound wI Z 76 [(0, .ref 183), (3, .int p3), (5, .int m5), (6, .int m6), (7, .int m7), (8, .int m8)] [] s0 (f_X8_goesRound_76 p1 p2 p3 p4 K13 m5 m6 m7 m8 s0) := by
  unfold f_X8_goesRound_76
  refine S_ (R_aload_n hO dX8_goesRound_76 rfl) ?_
  refine S_callVV (rest := []) hO dX8_goesRound_77 (cs_X8_oneHour s0) (by omega) lk_X8_172 np_X8_oneHour (rc_183 rfl) rfl (Nat.le_of_ble_eq_true rfl) (fun s2 => ?_)
  refine S_iinc (L2 := fun x3 => [(8, .int x3), (0, .ref 183), (3, .int p3), (5, .int m5), (6, .int m6), (7, .int m7)]) (v := (1 : Int32)) hO dX8_goesRound_80 rfl (by decide) (Nat.le_of_ble_eq_true rfl) (fun _ => rfl) (fun x3 => ?_)
  refine S_ (R_goto (tgt := 13) hO dX8_goesRound_83 (by decide)) ?_
  refine S_sub [1, 2, 3, 4, 5, 0] rfl ?_
  exact h13 m5 m6 m7 x3 s2
def f_X8_goesRound_13 (p1 : Int32) (p2 : Int32) (p3 : Int32) (p4 : Int32) : Nat → Int32 → Int32 → Int32 → Int32 → Mem → Option (Int32 × Mem)
  | 0, _, _, _, _, _ => none
  | n + 1, m5, m6, m7, m8, s0 => if p3 ≤ m8 then (some ((1 : Int32), s0)) else gd (¬ m7 = 0) <| lt (m5 + ((m6 / m7) - (1 : Int32))) fun x1 => gd (¬ m7 = 0) <| lt (m6 - m6 / m7 * m7) fun x2 => lt (m7 / (3 : Int32)) fun x3 => bd2 (f_X8_isHouse x1 s0) fun x4 s5 => if x4 = 0 then (some ((0 : Int32), s5)) else bd2 (f_X8_stands x1 s5) fun x6 s7 => if x6 = 0 then (f_X8_goesRound_76 p1 p2 p3 p4 (f_X8_goesRound_13 p1 p2 p3 p4 n) x1 x2 x3 m8 s7) else ing (1 : Int32) 29 <| bd (f_X8_lashBy x1 (s7 187 (1 : Int32).toNatClampNeg) s7) fun s9 => f_X8_goesRound_76 p1 p2 p3 p4 (f_X8_goesRound_13 p1 p2 p3 p4 n) x1 x2 x3 m8 s9
theorem w_X8_goesRound_13 {X : CX} {Z : Option Value × Mem → Prop} (hO : OKX X false 5 MX8_goesRound) (hQ : OKS X Z) (p1 : Int32) (p2 : Int32) (p3 : Int32) (p4 : Int32) : ∀ (n : Nat) (m5 : Int32) (m6 : Int32) (m7 : Int32) (m8 : Int32) (s0 : Mem), SIM X MX8_goesRound wI Z 13 [(0, .ref 183), (3, .int p3), (5, .int m5), (6, .int m6), (7, .int m7), (8, .int m8)] [] s0 (f_X8_goesRound_13 p1 p2 p3 p4 n m5 m6 m7 m8 s0) := by
  intro n
  induction n with
  | zero => intros; exact S_none
  | succ n ih =>
    intro m5 m6 m7 m8 s0
    rw [f_X8_goesRound_13]
    refine S_ (R_iload hO dX8_goesRound_13 rfl) ?_
    refine S_ (R_iload_n hO dX8_goesRound_15 rfl) ?_
    refine S_icmp_ge (tgt := 86) hO dX8_goesRound_16 (by decide) ?_ ?_
    · refine S_ (R_iload hO dX8_goesRound_19 rfl) ?_
      refine S_ (R_iload hO dX8_goesRound_21 rfl) ?_
      refine S_ (R_iload hO dX8_goesRound_23 rfl) ?_
      refine S_idiv hO dX8_goesRound_25 ?_
      refine S_ (R_iconst (v := (1 : Int32)) hO dX8_goesRound_26 (by decide)) ?_
      refine S_ (R_isub hO dX8_goesRound_27) ?_
      refine S_ (R_iadd hO dX8_goesRound_28) ?_
      refine S_istore (L2 := fun x1 => [(5, .int x1), (0, .ref 183), (3, .int p3), (6, .int m6), (7, .int m7), (8, .int m8)]) hO dX8_goesRound_29 (Nat.le_of_ble_eq_true rfl) (fun _ => rfl) (fun x1 => ?_)
      refine S_ (R_iload hO dX8_goesRound_31 rfl) ?_
      refine S_ (R_iload hO dX8_goesRound_33 rfl) ?_
      refine S_irem hO dX8_goesRound_35 ?_
      refine S_istore (L2 := fun x2 => [(6, .int x2), (5, .int x1), (0, .ref 183), (3, .int p3), (7, .int m7), (8, .int m8)]) hO dX8_goesRound_36 (Nat.le_of_ble_eq_true rfl) (fun _ => rfl) (fun x2 => ?_)
      refine S_ (R_iload hO dX8_goesRound_38 rfl) ?_
      refine S_ (R_iconst (v := (3 : Int32)) hO dX8_goesRound_40 (by decide)) ?_
      refine S_ (R_idiv hO dX8_goesRound_41 (by decide)) ?_
      refine S_istore (L2 := fun x3 => [(7, .int x3), (6, .int x2), (5, .int x1), (0, .ref 183), (3, .int p3), (8, .int m8)]) hO dX8_goesRound_42 (Nat.le_of_ble_eq_true rfl) (fun _ => rfl) (fun x3 => ?_)
      refine S_ (R_aload_n hO dX8_goesRound_44 rfl) ?_
      refine S_ (R_iload hO dX8_goesRound_45 rfl) ?_
      refine S_callVI (rest := []) hO dX8_goesRound_47 (cs_X8_isHouse x1 s0) (by omega) lk_X8_175 np_X8_isHouse (rc_183 rfl) rfl (Nat.le_of_ble_eq_true rfl) (fun x4 s5 => ?_)
      refine S_if_ne (tgt := 55) hO dX8_goesRound_50 (by decide) ?_ ?_
      · refine S_ (R_iconst (v := (0 : Int32)) hO dX8_goesRound_53 (by decide)) ?_
        exact S_zret0 rfl hO hQ dX8_goesRound_54 rfl (by decide)
      · refine S_ (R_aload_n hO dX8_goesRound_55 rfl) ?_
        refine S_ (R_iload hO dX8_goesRound_56 rfl) ?_
        refine S_callVI (rest := []) hO dX8_goesRound_58 (cs_X8_stands x1 s5) (by omega) lk_X8_142 np_X8_stands (rc_183 rfl) rfl (Nat.le_of_ble_eq_true rfl) (fun x6 s7 => ?_)
        refine S_if_eq (tgt := 76) hO dX8_goesRound_61 (by decide) ?_ ?_
        · refine S_ (R_aload_n hO dX8_goesRound_64 rfl) ?_
          refine S_ (R_iload hO dX8_goesRound_65 rfl) ?_
          refine S_ (R_aload_n hO dX8_goesRound_67 rfl) ?_
          refine S_getR hO dX8_goesRound_68 fl_X8_19 sh_183 rfl ?_
          refine S_ (R_iconst (v := (1 : Int32)) hO dX8_goesRound_71 (by decide)) ?_
          refine S_iald hO dX8_goesRound_72 sh_187 ?_
          refine S_callVV (rest := []) hO dX8_goesRound_73 (cs_X8_lashBy x1 (s7 187 (1 : Int32).toNatClampNeg) s7) (by omega) lk_X8_178 np_X8_lashBy (rc_183 rfl) rfl (Nat.le_of_ble_eq_true rfl) (fun s9 => ?_)
          refine S_sub [3, 4, 2, 1, 0, 5] rfl ?_
          exact w_X8_goesRound_76 hO hQ p1 p2 p3 p4 (f_X8_goesRound_13 p1 p2 p3 p4 n) ih x1 x2 x3 m8 s9
        · refine S_sub [3, 4, 2, 1, 0, 5] rfl ?_
          exact w_X8_goesRound_76 hO hQ p1 p2 p3 p4 (f_X8_goesRound_13 p1 p2 p3 p4 n) ih x1 x2 x3 m8 s7
    · refine S_ (R_iconst (v := (1 : Int32)) hO dX8_goesRound_86 (by decide)) ?_
      exact S_zret0 rfl hO hQ dX8_goesRound_87 rfl (by decide)
def f_X8_goesRound (p1 : Int32) (p2 : Int32) (p3 : Int32) (p4 : Int32) (s0 : Mem) : Option (Int32 × Mem) := lt (p1) fun x1 => lt (p2) fun x2 => lt (p4) fun x3 => lt ((0 : Int32)) fun x4 => f_X8_goesRound_13 p1 p2 p3 p4 FU x1 x2 x3 x4 s0
theorem cs_X8_goesRound (p1 : Int32) (p2 : Int32) (p3 : Int32) (p4 : Int32) (s0 : Mem) : CS 5 MX8_goesRound [.ref 183, .int p1, .int p2, .int p3, .int p4] s0 ((f_X8_goesRound p1 p2 p3 p4 s0).map wI) := by
  refine CS.of (by decide +kernel) (Nat.le_of_ble_eq_true rfl) (fun X Z hO hQ => ?_)
  show SIM X MX8_goesRound wI Z 0 [(0, .ref 183), (1, .int p1), (2, .int p2), (3, .int p3), (4, .int p4)] [] s0 _
  unfold f_X8_goesRound
  refine S_ (R_iload_n hO dX8_goesRound_0 rfl) ?_
  refine S_istore (L2 := fun x1 => [(5, .int x1), (0, .ref 183), (1, .int p1), (2, .int p2), (3, .int p3), (4, .int p4)]) hO dX8_goesRound_1 (Nat.le_of_ble_eq_true rfl) (fun _ => rfl) (fun x1 => ?_)
  refine S_ (R_iload_n hO dX8_goesRound_3 rfl) ?_
  refine S_istore (L2 := fun x2 => [(6, .int x2), (5, .int x1), (0, .ref 183), (1, .int p1), (2, .int p2), (3, .int p3), (4, .int p4)]) hO dX8_goesRound_4 (Nat.le_of_ble_eq_true rfl) (fun _ => rfl) (fun x2 => ?_)
  refine S_ (R_iload hO dX8_goesRound_6 rfl) ?_
  refine S_istore (L2 := fun x3 => [(7, .int x3), (6, .int x2), (5, .int x1), (0, .ref 183), (1, .int p1), (2, .int p2), (3, .int p3), (4, .int p4)]) hO dX8_goesRound_8 (Nat.le_of_ble_eq_true rfl) (fun _ => rfl) (fun x3 => ?_)
  refine S_ (R_iconst (v := (0 : Int32)) hO dX8_goesRound_10 (by decide)) ?_
  refine S_istore (L2 := fun x4 => [(8, .int x4), (7, .int x3), (6, .int x2), (5, .int x1), (0, .ref 183), (1, .int p1), (2, .int p2), (3, .int p3), (4, .int p4)]) hO dX8_goesRound_11 (Nat.le_of_ble_eq_true rfl) (fun _ => rfl) (fun x4 => ?_)
  refine S_sub [4, 7, 3, 2, 1, 0] rfl ?_
  exact w_X8_goesRound_13 hO hQ p1 p2 p3 p4 FU x1 x2 x3 x4 s0
def f_X8_round_210 (p1 : Int32) (p2 : Int32) (p3 : Int32) (m5 : Int32) (m8 : Int32) (s0 : Mem) : Option (Int32 × Mem) := if p2 ≤ p3 then (some ((-1000000 : Int32), s0)) else gd (¬ m8 = 0) <| some (m5 / m8, s0)
theorem w_X8_round_210 {X : CX} {Z : Option Value × Mem → Prop} (hO : OKX X false 6 MX8_round) (hQ : OKS X Z) (p1 : Int32) (p2 : Int32) (p3 : Int32) (m5 : Int32) (m8 : Int32) (s0 : Mem) : SIM X MX8_round wI Z 210 [(2, .int p2), (3, .int p3), (5, .int m5), (8, .int m8)] [] s0 (f_X8_round_210 p1 p2 p3 m5 m8 s0) := by
  unfold f_X8_round_210
  refine S_ (R_iload_n hO dX8_round_210 rfl) ?_
  refine S_ (R_iload_n hO dX8_round_211 rfl) ?_
  refine S_icmp_ge (tgt := 223) hO dX8_round_212 (by decide) ?_ ?_
  · refine S_ (R_iload hO dX8_round_215 rfl) ?_
    refine S_ (R_iload hO dX8_round_217 rfl) ?_
    refine S_idiv hO dX8_round_219 ?_
    refine S_ (R_goto (tgt := 225) hO dX8_round_220 (by decide)) ?_
    exact S_iret rfl hO hQ dX8_round_225 rfl
  · refine S_ (R_ldc (v := (-1000000 : Int32)) hO dX8_round_223 kc_X8_202) ?_
    exact S_iret rfl hO hQ dX8_round_225 rfl
def f_X8_round_179 (p1 : Int32) (p2 : Int32) (p3 : Int32) : Nat → Int32 → Int32 → Int32 → Mem → Option (Int32 × Mem)
  | 0, _, _, _, _ => none
  | n + 1, m5, m8, m9, s0 => if p3 ≤ m9 then (f_X8_round_210 p1 p2 p3 m5 m8 s0) else if p2 ≤ m9 then (f_X8_round_210 p1 p2 p3 m5 m8 s0) else gd (¬ m8 = 0) <| lt (m5 - m5 / m8 * m8) fun x1 => lt (m8 / (3 : Int32)) fun x2 => lt (m9 + (1 : Int32)) fun x3 => f_X8_round_179 p1 p2 p3 n x1 x2 x3 s0
theorem w_X8_round_179 {X : CX} {Z : Option Value × Mem → Prop} (hO : OKX X false 6 MX8_round) (hQ : OKS X Z) (p1 : Int32) (p2 : Int32) (p3 : Int32) : ∀ (n : Nat) (m5 : Int32) (m8 : Int32) (m9 : Int32) (s0 : Mem), SIM X MX8_round wI Z 179 [(2, .int p2), (3, .int p3), (5, .int m5), (8, .int m8), (9, .int m9)] [] s0 (f_X8_round_179 p1 p2 p3 n m5 m8 m9 s0) := by
  intro n
  induction n with
  | zero => intros; exact S_none
  | succ n ih =>
    intro m5 m8 m9 s0
    rw [f_X8_round_179]
    refine S_ (R_iload hO dX8_round_179 rfl) ?_
    refine S_ (R_iload_n hO dX8_round_181 rfl) ?_
    refine S_icmp_ge (tgt := 210) hO dX8_round_182 (by decide) ?_ ?_
    · refine S_ (R_iload hO dX8_round_185 rfl) ?_
      refine S_ (R_iload_n hO dX8_round_187 rfl) ?_
      refine S_icmp_ge (tgt := 210) hO dX8_round_188 (by decide) ?_ ?_
      · refine S_ (R_iload hO dX8_round_191 rfl) ?_
        refine S_ (R_iload hO dX8_round_193 rfl) ?_
        refine S_irem hO dX8_round_195 ?_
        refine S_istore (L2 := fun x1 => [(5, .int x1), (2, .int p2), (3, .int p3), (8, .int m8), (9, .int m9)]) hO dX8_round_196 (Nat.le_of_ble_eq_true rfl) (fun _ => rfl) (fun x1 => ?_)
        refine S_ (R_iload hO dX8_round_198 rfl) ?_
        refine S_ (R_iconst (v := (3 : Int32)) hO dX8_round_200 (by decide)) ?_
        refine S_ (R_idiv hO dX8_round_201 (by decide)) ?_
        refine S_istore (L2 := fun x2 => [(8, .int x2), (5, .int x1), (2, .int p2), (3, .int p3), (9, .int m9)]) hO dX8_round_202 (Nat.le_of_ble_eq_true rfl) (fun _ => rfl) (fun x2 => ?_)
        refine S_iinc (L2 := fun x3 => [(9, .int x3), (8, .int x2), (5, .int x1), (2, .int p2), (3, .int p3)]) (v := (1 : Int32)) hO dX8_round_204 rfl (by decide) (Nat.le_of_ble_eq_true rfl) (fun _ => rfl) (fun x3 => ?_)
        refine S_ (R_goto (tgt := 179) hO dX8_round_207 (by decide)) ?_
        refine S_sub [3, 4, 2, 1, 0] rfl ?_
        exact ih x1 x2 x3 s0
      · refine S_sub [0, 1, 2, 3] rfl ?_
        exact w_X8_round_210 hO hQ p1 p2 p3 m5 m8 s0
    · refine S_sub [0, 1, 2, 3] rfl ?_
      exact w_X8_round_210 hO hQ p1 p2 p3 m5 m8 s0
def f_X8_round_69 (p1 : Int32) (p2 : Int32) (p3 : Int32) : Nat → Int32 → Int32 → Int32 → Int32 → Int32 → Mem → Option (Int32 × Mem)
  | 0, _, _, _, _, _, _ => none
  | n + 1, m4, m5, m6, m7, m8, s0 => if m4 ≤ m8 then (if 0 ≤ p3 then (lt (m4 / (3 : Int32)) fun x25 => lt ((0 : Int32)) fun x26 => f_X8_round_179 p1 p2 p3 FU m5 x25 x26 s0) else if p3 = (-1 : Int32) then (some (m6, s0)) else some (m7, s0)) else bd2 (f_X8_goesRound p1 m8 p2 (m4 / (3 : Int32)) s0) fun x1 s2 => lt (x1) fun x3 => bd2 (f_X8_standing s2) fun x4 s5 => bd2 (f_X8_ones x4 s5) fun x6 s7 => lt (x6) fun x8 => bd2 (f_X8_leastSpin s7) fun x9 s10 => lt (x9) fun x11 => bd (f_X8_takeBack s10) fun s13 => if x3 = 0 then (lt (m8 + (1 : Int32)) fun x24 => f_X8_round_69 p1 p2 p3 n m4 m5 m6 m7 x24 s13) else if m6 < x8 then (lt (m8) fun x20 => lt (x8) fun x21 => lt (x11) fun x22 => lt (m8 + (1 : Int32)) fun x23 => f_X8_round_69 p1 p2 p3 n m4 x20 x21 x22 x23 s13) else if x8 = m6 then (if x11 ≤ m7 then (lt (m8 + (1 : Int32)) fun x18 => f_X8_round_69 p1 p2 p3 n m4 m5 m6 m7 x18 s13) else lt (m8) fun x14 => lt (x8) fun x15 => lt (x11) fun x16 => lt (m8 + (1 : Int32)) fun x17 => f_X8_round_69 p1 p2 p3 n m4 x14 x15 x16 x17 s13) else lt (m8 + (1 : Int32)) fun x19 => f_X8_round_69 p1 p2 p3 n m4 m5 m6 m7 x19 s13
theorem w_X8_round_69 {X : CX} {Z : Option Value × Mem → Prop} (hO : OKX X false 6 MX8_round) (hQ : OKS X Z) (p1 : Int32) (p2 : Int32) (p3 : Int32) : ∀ (n : Nat) (m4 : Int32) (m5 : Int32) (m6 : Int32) (m7 : Int32) (m8 : Int32) (s0 : Mem), SIM X MX8_round wI Z 69 [(0, .ref 183), (1, .int p1), (2, .int p2), (3, .int p3), (4, .int m4), (5, .int m5), (6, .int m6), (7, .int m7), (8, .int m8)] [] s0 (f_X8_round_69 p1 p2 p3 n m4 m5 m6 m7 m8 s0) := by
  intro n
  induction n with
  | zero => intros; exact S_none
  | succ n ih =>
    intro m4 m5 m6 m7 m8 s0
    rw [f_X8_round_69]
    refine S_ (R_iload hO dX8_round_69 rfl) ?_
    refine S_ (R_iload hO dX8_round_71 rfl) ?_
    refine S_icmp_ge (tgt := 153) hO dX8_round_73 (by decide) ?_ ?_
    · refine S_ (R_aload_n hO dX8_round_76 rfl) ?_
      refine S_ (R_iload_n hO dX8_round_77 rfl) ?_
      refine S_ (R_iload hO dX8_round_78 rfl) ?_
      refine S_ (R_iload_n hO dX8_round_80 rfl) ?_
      refine S_ (R_iload hO dX8_round_81 rfl) ?_
      refine S_ (R_iconst (v := (3 : Int32)) hO dX8_round_83 (by decide)) ?_
      refine S_ (R_idiv hO dX8_round_84 (by decide)) ?_
      refine S_callVI (rest := []) hO dX8_round_85 (cs_X8_goesRound p1 m8 p2 (m4 / (3 : Int32)) s0) (by omega) lk_X8_212 np_X8_goesRound (rc_183 rfl) rfl (Nat.le_of_ble_eq_true rfl) (fun x1 s2 => ?_)
      refine S_istore (L2 := fun x3 => [(9, .int x3), (0, .ref 183), (1, .int p1), (2, .int p2), (3, .int p3), (4, .int m4), (5, .int m5), (6, .int m6), (7, .int m7), (8, .int m8)]) hO dX8_round_88 (Nat.le_of_ble_eq_true rfl) (fun _ => rfl) (fun x3 => ?_)
      refine S_ (R_aload_n hO dX8_round_90 rfl) ?_
      refine S_callVI (rest := []) hO dX8_round_91 (cs_X8_standing s2) (by omega) lk_X8_155 np_X8_standing (rc_183 rfl) rfl (Nat.le_of_ble_eq_true rfl) (fun x4 s5 => ?_)
      refine S_callSI (rest := []) hO dX8_round_94 (cs_X8_ones x4 s5) (by omega) lk_X8_215 np_X8_ones rfl (Nat.le_of_ble_eq_true rfl) (fun x6 s7 => ?_)
      refine S_istore (L2 := fun x8 => [(10, .int x8), (9, .int x3), (0, .ref 183), (1, .int p1), (2, .int p2), (3, .int p3), (4, .int m4), (5, .int m5), (6, .int m6), (7, .int m7), (8, .int m8)]) hO dX8_round_97 (Nat.le_of_ble_eq_true rfl) (fun _ => rfl) (fun x8 => ?_)
      refine S_ (R_aload_n hO dX8_round_99 rfl) ?_
      refine S_callVI (rest := []) hO dX8_round_100 (cs_X8_leastSpin s7) (by omega) lk_X8_218 np_X8_leastSpin (rc_183 rfl) rfl (Nat.le_of_ble_eq_true rfl) (fun x9 s10 => ?_)
      refine S_istore (L2 := fun x11 => [(11, .int x11), (10, .int x8), (9, .int x3), (0, .ref 183), (1, .int p1), (2, .int p2), (3, .int p3), (4, .int m4), (5, .int m5), (6, .int m6), (7, .int m7), (8, .int m8)]) hO dX8_round_103 (Nat.le_of_ble_eq_true rfl) (fun _ => rfl) (fun x11 => ?_)
      refine S_ (R_aload_n hO dX8_round_105 rfl) ?_
      refine S_callVV (rest := []) hO dX8_round_106 (cs_X8_takeBack s10) (by omega) lk_X8_191 np_X8_takeBack (rc_183 rfl) rfl (Nat.le_of_ble_eq_true rfl) (fun s13 => ?_)
      refine S_ (R_iload hO dX8_round_109 rfl) ?_
      refine S_if_eq (tgt := 147) hO dX8_round_111 (by decide) ?_ ?_
      · refine S_ (R_iload hO dX8_round_114 rfl) ?_
        refine S_ (R_iload hO dX8_round_116 rfl) ?_
        refine S_icmp_gt (tgt := 135) hO dX8_round_118 (by decide) ?_ ?_
        · refine S_ (R_iload hO dX8_round_121 rfl) ?_
          refine S_ (R_iload hO dX8_round_123 rfl) ?_
          refine S_icmp_ne (tgt := 147) hO dX8_round_125 (by decide) ?_ ?_
          · refine S_ (R_iload hO dX8_round_128 rfl) ?_
            refine S_ (R_iload hO dX8_round_130 rfl) ?_
            refine S_icmp_le (tgt := 147) hO dX8_round_132 (by decide) ?_ ?_
            · refine S_ (R_iload hO dX8_round_135 rfl) ?_
              refine S_istore (L2 := fun x14 => [(5, .int x14), (11, .int x11), (10, .int x8), (9, .int x3), (0, .ref 183), (1, .int p1), (2, .int p2), (3, .int p3), (4, .int m4), (6, .int m6), (7, .int m7), (8, .int m8)]) hO dX8_round_137 (Nat.le_of_ble_eq_true rfl) (fun _ => rfl) (fun x14 => ?_)
              refine S_ (R_iload hO dX8_round_139 rfl) ?_
              refine S_istore (L2 := fun x15 => [(6, .int x15), (5, .int x14), (11, .int x11), (10, .int x8), (9, .int x3), (0, .ref 183), (1, .int p1), (2, .int p2), (3, .int p3), (4, .int m4), (7, .int m7), (8, .int m8)]) hO dX8_round_141 (Nat.le_of_ble_eq_true rfl) (fun _ => rfl) (fun x15 => ?_)
              refine S_ (R_iload hO dX8_round_143 rfl) ?_
              refine S_istore (L2 := fun x16 => [(7, .int x16), (6, .int x15), (5, .int x14), (11, .int x11), (10, .int x8), (9, .int x3), (0, .ref 183), (1, .int p1), (2, .int p2), (3, .int p3), (4, .int m4), (8, .int m8)]) hO dX8_round_145 (Nat.le_of_ble_eq_true rfl) (fun _ => rfl) (fun x16 => ?_)
              refine S_iinc (L2 := fun x17 => [(8, .int x17), (7, .int x16), (6, .int x15), (5, .int x14), (11, .int x11), (10, .int x8), (9, .int x3), (0, .ref 183), (1, .int p1), (2, .int p2), (3, .int p3), (4, .int m4)]) (v := (1 : Int32)) hO dX8_round_147 rfl (by decide) (Nat.le_of_ble_eq_true rfl) (fun _ => rfl) (fun x17 => ?_)
              refine S_ (R_goto (tgt := 69) hO dX8_round_150 (by decide)) ?_
              refine S_sub [7, 8, 9, 10, 11, 3, 2, 1, 0] rfl ?_
              exact ih m4 x14 x15 x16 x17 s13
            · refine S_iinc (L2 := fun x18 => [(8, .int x18), (11, .int x11), (10, .int x8), (9, .int x3), (0, .ref 183), (1, .int p1), (2, .int p2), (3, .int p3), (4, .int m4), (5, .int m5), (6, .int m6), (7, .int m7)]) (v := (1 : Int32)) hO dX8_round_147 rfl (by decide) (Nat.le_of_ble_eq_true rfl) (fun _ => rfl) (fun x18 => ?_)
              refine S_ (R_goto (tgt := 69) hO dX8_round_150 (by decide)) ?_
              refine S_sub [4, 5, 6, 7, 8, 9, 10, 11, 0] rfl ?_
              exact ih m4 m5 m6 m7 x18 s13
          · refine S_iinc (L2 := fun x19 => [(8, .int x19), (11, .int x11), (10, .int x8), (9, .int x3), (0, .ref 183), (1, .int p1), (2, .int p2), (3, .int p3), (4, .int m4), (5, .int m5), (6, .int m6), (7, .int m7)]) (v := (1 : Int32)) hO dX8_round_147 rfl (by decide) (Nat.le_of_ble_eq_true rfl) (fun _ => rfl) (fun x19 => ?_)
            refine S_ (R_goto (tgt := 69) hO dX8_round_150 (by decide)) ?_
            refine S_sub [4, 5, 6, 7, 8, 9, 10, 11, 0] rfl ?_
            exact ih m4 m5 m6 m7 x19 s13
        · refine S_ (R_iload hO dX8_round_135 rfl) ?_
          refine S_istore (L2 := fun x20 => [(5, .int x20), (11, .int x11), (10, .int x8), (9, .int x3), (0, .ref 183), (1, .int p1), (2, .int p2), (3, .int p3), (4, .int m4), (6, .int m6), (7, .int m7), (8, .int m8)]) hO dX8_round_137 (Nat.le_of_ble_eq_true rfl) (fun _ => rfl) (fun x20 => ?_)
          refine S_ (R_iload hO dX8_round_139 rfl) ?_
          refine S_istore (L2 := fun x21 => [(6, .int x21), (5, .int x20), (11, .int x11), (10, .int x8), (9, .int x3), (0, .ref 183), (1, .int p1), (2, .int p2), (3, .int p3), (4, .int m4), (7, .int m7), (8, .int m8)]) hO dX8_round_141 (Nat.le_of_ble_eq_true rfl) (fun _ => rfl) (fun x21 => ?_)
          refine S_ (R_iload hO dX8_round_143 rfl) ?_
          refine S_istore (L2 := fun x22 => [(7, .int x22), (6, .int x21), (5, .int x20), (11, .int x11), (10, .int x8), (9, .int x3), (0, .ref 183), (1, .int p1), (2, .int p2), (3, .int p3), (4, .int m4), (8, .int m8)]) hO dX8_round_145 (Nat.le_of_ble_eq_true rfl) (fun _ => rfl) (fun x22 => ?_)
          refine S_iinc (L2 := fun x23 => [(8, .int x23), (7, .int x22), (6, .int x21), (5, .int x20), (11, .int x11), (10, .int x8), (9, .int x3), (0, .ref 183), (1, .int p1), (2, .int p2), (3, .int p3), (4, .int m4)]) (v := (1 : Int32)) hO dX8_round_147 rfl (by decide) (Nat.le_of_ble_eq_true rfl) (fun _ => rfl) (fun x23 => ?_)
          refine S_ (R_goto (tgt := 69) hO dX8_round_150 (by decide)) ?_
          refine S_sub [7, 8, 9, 10, 11, 3, 2, 1, 0] rfl ?_
          exact ih m4 x20 x21 x22 x23 s13
      · refine S_iinc (L2 := fun x24 => [(8, .int x24), (11, .int x11), (10, .int x8), (9, .int x3), (0, .ref 183), (1, .int p1), (2, .int p2), (3, .int p3), (4, .int m4), (5, .int m5), (6, .int m6), (7, .int m7)]) (v := (1 : Int32)) hO dX8_round_147 rfl (by decide) (Nat.le_of_ble_eq_true rfl) (fun _ => rfl) (fun x24 => ?_)
        refine S_ (R_goto (tgt := 69) hO dX8_round_150 (by decide)) ?_
        refine S_sub [4, 5, 6, 7, 8, 9, 10, 11, 0] rfl ?_
        exact ih m4 m5 m6 m7 x24 s13
    · refine S_ (R_iload_n hO dX8_round_153 rfl) ?_
      refine S_if_ge (tgt := 170) hO dX8_round_154 (by decide) ?_ ?_
      · refine S_ (R_iload_n hO dX8_round_157 rfl) ?_
        refine S_ (R_iconst (v := (-1 : Int32)) hO dX8_round_158 (by decide)) ?_
        refine S_icmp_ne (tgt := 167) hO dX8_round_159 (by decide) ?_ ?_
        · refine S_ (R_iload hO dX8_round_162 rfl) ?_
          refine S_ (R_goto (tgt := 169) hO dX8_round_164 (by decide)) ?_
          exact S_iret rfl hO hQ dX8_round_169 rfl
        · refine S_ (R_iload hO dX8_round_167 rfl) ?_
          exact S_iret rfl hO hQ dX8_round_169 rfl
      · refine S_ (R_iload hO dX8_round_170 rfl) ?_
        refine S_ (R_iconst (v := (3 : Int32)) hO dX8_round_172 (by decide)) ?_
        refine S_ (R_idiv hO dX8_round_173 (by decide)) ?_
        refine S_istore (L2 := fun x25 => [(8, .int x25), (0, .ref 183), (1, .int p1), (2, .int p2), (3, .int p3), (4, .int m4), (5, .int m5), (6, .int m6), (7, .int m7)]) hO dX8_round_174 (Nat.le_of_ble_eq_true rfl) (fun _ => rfl) (fun x25 => ?_)
        refine S_ (R_iconst (v := (0 : Int32)) hO dX8_round_176 (by decide)) ?_
        refine S_istore (L2 := fun x26 => [(9, .int x26), (8, .int x25), (0, .ref 183), (1, .int p1), (2, .int p2), (3, .int p3), (4, .int m4), (5, .int m5), (6, .int m6), (7, .int m7)]) hO dX8_round_177 (Nat.le_of_ble_eq_true rfl) (fun _ => rfl) (fun x26 => ?_)
        refine S_sub [4, 5, 7, 1, 0] rfl ?_
        exact w_X8_round_179 hO hQ p1 p2 p3 FU m5 x25 x26 s0
def f_X8_round_35 (p1 : Int32) (p2 : Int32) (p3 : Int32) : Nat → Int32 → Int32 → Mem → Option (Int32 × Mem)
  | 0, _, _, _ => none
  | n + 1, m4, m5, s0 => if p2 ≤ m5 then (bd (f_X8_putAside s0) fun s4 => lt ((0 : Int32)) fun x5 => lt ((-1 : Int32)) fun x6 => lt ((0 : Int32)) fun x7 => lt ((0 : Int32)) fun x8 => f_X8_round_69 p1 p2 p3 FU m4 x5 x6 x7 x8 s4) else lt (m4 * (3 : Int32)) fun x1 => lt (m5 + (1 : Int32)) fun x2 => f_X8_round_35 p1 p2 p3 n x1 x2 s0
theorem w_X8_round_35 {X : CX} {Z : Option Value × Mem → Prop} (hO : OKX X false 6 MX8_round) (hQ : OKS X Z) (p1 : Int32) (p2 : Int32) (p3 : Int32) : ∀ (n : Nat) (m4 : Int32) (m5 : Int32) (s0 : Mem), SIM X MX8_round wI Z 35 [(0, .ref 183), (1, .int p1), (2, .int p2), (3, .int p3), (4, .int m4), (5, .int m5)] [] s0 (f_X8_round_35 p1 p2 p3 n m4 m5 s0) := by
  intro n
  induction n with
  | zero => intros; exact S_none
  | succ n ih =>
    intro m4 m5 s0
    rw [f_X8_round_35]
    refine S_ (R_iload hO dX8_round_35 rfl) ?_
    refine S_ (R_iload_n hO dX8_round_37 rfl) ?_
    refine S_icmp_ge (tgt := 53) hO dX8_round_38 (by decide) ?_ ?_
    · refine S_ (R_iload hO dX8_round_41 rfl) ?_
      refine S_ (R_iconst (v := (3 : Int32)) hO dX8_round_43 (by decide)) ?_
      refine S_ (R_imul hO dX8_round_44) ?_
      refine S_istore (L2 := fun x1 => [(4, .int x1), (0, .ref 183), (1, .int p1), (2, .int p2), (3, .int p3), (5, .int m5)]) hO dX8_round_45 (Nat.le_of_ble_eq_true rfl) (fun _ => rfl) (fun x1 => ?_)
      refine S_iinc (L2 := fun x2 => [(5, .int x2), (4, .int x1), (0, .ref 183), (1, .int p1), (2, .int p2), (3, .int p3)]) (v := (1 : Int32)) hO dX8_round_47 rfl (by decide) (Nat.le_of_ble_eq_true rfl) (fun _ => rfl) (fun x2 => ?_)
      refine S_ (R_goto (tgt := 35) hO dX8_round_50 (by decide)) ?_
      refine S_sub [2, 3, 4, 5, 1, 0] rfl ?_
      exact ih x1 x2 s0
    · refine S_ (R_aload_n hO dX8_round_53 rfl) ?_
      refine S_callVV (rest := []) hO dX8_round_54 (cs_X8_putAside s0) (by omega) lk_X8_196 np_X8_putAside (rc_183 rfl) rfl (Nat.le_of_ble_eq_true rfl) (fun s4 => ?_)
      refine S_ (R_iconst (v := (0 : Int32)) hO dX8_round_57 (by decide)) ?_
      refine S_istore (L2 := fun x5 => [(5, .int x5), (0, .ref 183), (1, .int p1), (2, .int p2), (3, .int p3), (4, .int m4)]) hO dX8_round_58 (Nat.le_of_ble_eq_true rfl) (fun _ => rfl) (fun x5 => ?_)
      refine S_ (R_iconst (v := (-1 : Int32)) hO dX8_round_60 (by decide)) ?_
      refine S_istore (L2 := fun x6 => [(6, .int x6), (5, .int x5), (0, .ref 183), (1, .int p1), (2, .int p2), (3, .int p3), (4, .int m4)]) hO dX8_round_61 (Nat.le_of_ble_eq_true rfl) (fun _ => rfl) (fun x6 => ?_)
      refine S_ (R_iconst (v := (0 : Int32)) hO dX8_round_63 (by decide)) ?_
      refine S_istore (L2 := fun x7 => [(7, .int x7), (6, .int x6), (5, .int x5), (0, .ref 183), (1, .int p1), (2, .int p2), (3, .int p3), (4, .int m4)]) hO dX8_round_64 (Nat.le_of_ble_eq_true rfl) (fun _ => rfl) (fun x7 => ?_)
      refine S_ (R_iconst (v := (0 : Int32)) hO dX8_round_66 (by decide)) ?_
      refine S_istore (L2 := fun x8 => [(8, .int x8), (7, .int x7), (6, .int x6), (5, .int x5), (0, .ref 183), (1, .int p1), (2, .int p2), (3, .int p3), (4, .int m4)]) hO dX8_round_67 (Nat.le_of_ble_eq_true rfl) (fun _ => rfl) (fun x8 => ?_)
      refine S_sub [4, 5, 6, 7, 8, 3, 2, 1, 0] rfl ?_
      exact w_X8_round_69 hO hQ p1 p2 p3 FU m4 x5 x6 x7 x8 s4
def f_X8_round (p1 : Int32) (p2 : Int32) (p3 : Int32) (s0 : Mem) : Option (Int32 × Mem) := bd2 (f_X8_isHouse p1 s0) fun x1 s2 => if x1 = 0 then (some ((-1000001 : Int32), s2)) else bd2 (f_X8_in p2.toInt64 (1 : Int64) (7 : Int64) s2) fun x3 s4 => if x3 = 0 then (some ((-1000001 : Int32), s4)) else if (-2 : Int32) ≤ p3 then (lt ((1 : Int32)) fun x5 => lt ((0 : Int32)) fun x6 => f_X8_round_35 p1 p2 p3 FU x5 x6 s4) else some ((-1000001 : Int32), s4)
theorem cs_X8_round (p1 : Int32) (p2 : Int32) (p3 : Int32) (s0 : Mem) : CS 6 MX8_round [.ref 183, .int p1, .int p2, .int p3] s0 ((f_X8_round p1 p2 p3 s0).map wI) := by
  refine CS.of (by decide +kernel) (Nat.le_of_ble_eq_true rfl) (fun X Z hO hQ => ?_)
  show SIM X MX8_round wI Z 0 [(0, .ref 183), (1, .int p1), (2, .int p2), (3, .int p3)] [] s0 _
  unfold f_X8_round
  refine S_ (R_aload_n hO dX8_round_0 rfl) ?_
  refine S_ (R_iload_n hO dX8_round_1 rfl) ?_
  refine S_callVI (rest := []) hO dX8_round_2 (cs_X8_isHouse p1 s0) (by omega) lk_X8_175 np_X8_isHouse (rc_183 rfl) rfl (Nat.le_of_ble_eq_true rfl) (fun x1 s2 => ?_)
  refine S_if_eq (tgt := 26) hO dX8_round_5 (by decide) ?_ ?_
  · refine S_ (R_iload_n hO dX8_round_8 rfl) ?_
    refine S_ (R_i2l hO dX8_round_9) ?_
    refine S_ (R_lconst (v := (1 : Int64)) hO dX8_round_10 (by decide)) ?_
    refine S_ (R_ldc2 (v := (7 : Int64)) hO dX8_round_11 kl_X8_55) ?_
    refine S_callSI (rest := []) hO dX8_round_14 (cs_X8_in p2.toInt64 (1 : Int64) (7 : Int64) s2) (by omega) lk_X8_57 np_X8_in rfl (Nat.le_of_ble_eq_true rfl) (fun x3 s4 => ?_)
    refine S_if_eq (tgt := 26) hO dX8_round_17 (by decide) ?_ ?_
    · refine S_ (R_iload_n hO dX8_round_20 rfl) ?_
      refine S_ (R_bipush (v := (-2 : Int32)) hO dX8_round_21 (by decide)) ?_
      refine S_icmp_ge (tgt := 29) hO dX8_round_23 (by decide) ?_ ?_
      · refine S_ (R_ldc (v := (-1000001 : Int32)) hO dX8_round_26 kc_X8_67) ?_
        exact S_iret rfl hO hQ dX8_round_28 rfl
      · refine S_ (R_iconst (v := (1 : Int32)) hO dX8_round_29 (by decide)) ?_
        refine S_istore (L2 := fun x5 => [(4, .int x5), (0, .ref 183), (1, .int p1), (2, .int p2), (3, .int p3)]) hO dX8_round_30 (Nat.le_of_ble_eq_true rfl) (fun _ => rfl) (fun x5 => ?_)
        refine S_ (R_iconst (v := (0 : Int32)) hO dX8_round_32 (by decide)) ?_
        refine S_istore (L2 := fun x6 => [(5, .int x6), (4, .int x5), (0, .ref 183), (1, .int p1), (2, .int p2), (3, .int p3)]) hO dX8_round_33 (Nat.le_of_ble_eq_true rfl) (fun _ => rfl) (fun x6 => ?_)
        refine S_sub [2, 3, 4, 5, 1, 0] rfl ?_
        exact w_X8_round_35 hO hQ p1 p2 p3 FU x5 x6 s4
    · refine S_ (R_ldc (v := (-1000001 : Int32)) hO dX8_round_26 kc_X8_67) ?_
      exact S_iret rfl hO hQ dX8_round_28 rfl
  · refine S_ (R_ldc (v := (-1000001 : Int32)) hO dX8_round_26 kc_X8_67) ?_
    exact S_iret rfl hO hQ dX8_round_28 rfl
def f_X8_walls_44 (p1 : Int32) (p2 : Int32) : Nat → Int32 → Int32 → Int32 → Mem → Option (Int32 × Mem)
  | 0, _, _, _, _ => none
  | n + 1, m3, m4, m5, s0 => ing (0 : Int32) 29 <| if ((1 : Int32) <<< (((s0 187 (0 : Int32).toNatClampNeg) - (1 : Int32)) &&& 31)) ≤ m5 then (if p2 = 0 then (some (m3, s0)) else some (m4, s0)) else ing (4 : Int32) 29 <| lt (st2 s0 187 (4 : Int32).toNatClampNeg m5) fun s1 => bd2 (f_X8_leftBehind p1 s1) fun x2 s3 => bd2 (f_X8_ones x2 s3) fun x4 s5 => lt (x4) fun x6 => if m4 < x6 then (lt (m5) fun x16 => lt (x6) fun x17 => lt (m5 + (1 : Int32)) fun x18 => f_X8_walls_44 p1 p2 n x16 x17 x18 s5) else if x6 = m4 then (bd2 (f_X8_ones m5 s5) fun x7 s8 => bd2 (f_X8_ones m3 s8) fun x9 s10 => if x9 ≤ x7 then (lt (m5 + (1 : Int32)) fun x14 => f_X8_walls_44 p1 p2 n m3 m4 x14 s10) else lt (m5) fun x11 => lt (x6) fun x12 => lt (m5 + (1 : Int32)) fun x13 => f_X8_walls_44 p1 p2 n x11 x12 x13 s10) else lt (m5 + (1 : Int32)) fun x15 => f_X8_walls_44 p1 p2 n m3 m4 x15 s5
theorem w_X8_walls_44 {X : CX} {Z : Option Value × Mem → Prop} (hO : OKX X false 7 MX8_walls) (hQ : OKS X Z) (p1 : Int32) (p2 : Int32) : ∀ (n : Nat) (m3 : Int32) (m4 : Int32) (m5 : Int32) (s0 : Mem), SIM X MX8_walls wI Z 44 [(0, .ref 183), (1, .int p1), (2, .int p2), (3, .int m3), (4, .int m4), (5, .int m5)] [] s0 (f_X8_walls_44 p1 p2 n m3 m4 m5 s0) := by
  intro n
  induction n with
  | zero => intros; exact S_none
  | succ n ih =>
    intro m3 m4 m5 s0
    rw [f_X8_walls_44]
    refine S_ (R_iload hO dX8_walls_44 rfl) ?_
    refine S_ (R_iconst (v := (1 : Int32)) hO dX8_walls_46 (by decide)) ?_
    refine S_ (R_aload_n hO dX8_walls_47 rfl) ?_
    refine S_getR hO dX8_walls_48 fl_X8_19 sh_183 rfl ?_
    refine S_ (R_iconst (v := (0 : Int32)) hO dX8_walls_51 (by decide)) ?_
    refine S_iald hO dX8_walls_52 sh_187 ?_
    refine S_ (R_iconst (v := (1 : Int32)) hO dX8_walls_53 (by decide)) ?_
    refine S_ (R_isub hO dX8_walls_54) ?_
    refine S_ (R_ishl hO dX8_walls_55) ?_
    refine S_icmp_ge (tgt := 116) hO dX8_walls_56 (by decide) ?_ ?_
    · refine S_ (R_aload_n hO dX8_walls_59 rfl) ?_
      refine S_getR hO dX8_walls_60 fl_X8_19 sh_183 rfl ?_
      refine S_ (R_iconst (v := (4 : Int32)) hO dX8_walls_63 (by decide)) ?_
      refine S_ (R_iload hO dX8_walls_64 rfl) ?_
      refine S_iast hO dX8_walls_66 sh_187 (fun s1 => ?_)
      refine S_ (R_aload_n hO dX8_walls_67 rfl) ?_
      refine S_ (R_iload_n hO dX8_walls_68 rfl) ?_
      refine S_callVI (rest := []) hO dX8_walls_69 (cs_X8_leftBehind p1 s1) (by omega) lk_X8_209 np_X8_leftBehind (rc_183 rfl) rfl (Nat.le_of_ble_eq_true rfl) (fun x2 s3 => ?_)
      refine S_callSI (rest := []) hO dX8_walls_72 (cs_X8_ones x2 s3) (by omega) lk_X8_215 np_X8_ones rfl (Nat.le_of_ble_eq_true rfl) (fun x4 s5 => ?_)
      refine S_istore (L2 := fun x6 => [(6, .int x6), (0, .ref 183), (1, .int p1), (2, .int p2), (3, .int m3), (4, .int m4), (5, .int m5)]) hO dX8_walls_75 (Nat.le_of_ble_eq_true rfl) (fun _ => rfl) (fun x6 => ?_)
      refine S_ (R_iload hO dX8_walls_77 rfl) ?_
      refine S_ (R_iload hO dX8_walls_79 rfl) ?_
      refine S_icmp_gt (tgt := 103) hO dX8_walls_81 (by decide) ?_ ?_
      · refine S_ (R_iload hO dX8_walls_84 rfl) ?_
        refine S_ (R_iload hO dX8_walls_86 rfl) ?_
        refine S_icmp_ne (tgt := 110) hO dX8_walls_88 (by decide) ?_ ?_
        · refine S_ (R_iload hO dX8_walls_91 rfl) ?_
          refine S_callSI (rest := []) hO dX8_walls_93 (cs_X8_ones m5 s5) (by omega) lk_X8_215 np_X8_ones rfl (Nat.le_of_ble_eq_true rfl) (fun x7 s8 => ?_)
          refine S_ (R_iload_n hO dX8_walls_96 rfl) ?_
          refine S_callSI (rest := [.int x7]) hO dX8_walls_97 (cs_X8_ones m3 s8) (by omega) lk_X8_215 np_X8_ones rfl (Nat.le_of_ble_eq_true rfl) (fun x9 s10 => ?_)
          refine S_icmp_ge (tgt := 110) hO dX8_walls_100 (by decide) ?_ ?_
          · refine S_ (R_iload hO dX8_walls_103 rfl) ?_
            refine S_istore_n (L2 := fun x11 => [(3, .int x11), (6, .int x6), (0, .ref 183), (1, .int p1), (2, .int p2), (4, .int m4), (5, .int m5)]) hO dX8_walls_105 (Nat.le_of_ble_eq_true rfl) (fun _ => rfl) (fun x11 => ?_)
            refine S_ (R_iload hO dX8_walls_106 rfl) ?_
            refine S_istore (L2 := fun x12 => [(4, .int x12), (3, .int x11), (6, .int x6), (0, .ref 183), (1, .int p1), (2, .int p2), (5, .int m5)]) hO dX8_walls_108 (Nat.le_of_ble_eq_true rfl) (fun _ => rfl) (fun x12 => ?_)
            refine S_iinc (L2 := fun x13 => [(5, .int x13), (4, .int x12), (3, .int x11), (6, .int x6), (0, .ref 183), (1, .int p1), (2, .int p2)]) (v := (1 : Int32)) hO dX8_walls_110 rfl (by decide) (Nat.le_of_ble_eq_true rfl) (fun _ => rfl) (fun x13 => ?_)
            refine S_ (R_goto (tgt := 44) hO dX8_walls_113 (by decide)) ?_
            refine S_sub [4, 5, 6, 2, 1, 0] rfl ?_
            exact ih x11 x12 x13 s10
          · refine S_iinc (L2 := fun x14 => [(5, .int x14), (6, .int x6), (0, .ref 183), (1, .int p1), (2, .int p2), (3, .int m3), (4, .int m4)]) (v := (1 : Int32)) hO dX8_walls_110 rfl (by decide) (Nat.le_of_ble_eq_true rfl) (fun _ => rfl) (fun x14 => ?_)
            refine S_ (R_goto (tgt := 44) hO dX8_walls_113 (by decide)) ?_
            refine S_sub [2, 3, 4, 5, 6, 0] rfl ?_
            exact ih m3 m4 x14 s10
        · refine S_iinc (L2 := fun x15 => [(5, .int x15), (6, .int x6), (0, .ref 183), (1, .int p1), (2, .int p2), (3, .int m3), (4, .int m4)]) (v := (1 : Int32)) hO dX8_walls_110 rfl (by decide) (Nat.le_of_ble_eq_true rfl) (fun _ => rfl) (fun x15 => ?_)
          refine S_ (R_goto (tgt := 44) hO dX8_walls_113 (by decide)) ?_
          refine S_sub [2, 3, 4, 5, 6, 0] rfl ?_
          exact ih m3 m4 x15 s5
      · refine S_ (R_iload hO dX8_walls_103 rfl) ?_
        refine S_istore_n (L2 := fun x16 => [(3, .int x16), (6, .int x6), (0, .ref 183), (1, .int p1), (2, .int p2), (4, .int m4), (5, .int m5)]) hO dX8_walls_105 (Nat.le_of_ble_eq_true rfl) (fun _ => rfl) (fun x16 => ?_)
        refine S_ (R_iload hO dX8_walls_106 rfl) ?_
        refine S_istore (L2 := fun x17 => [(4, .int x17), (3, .int x16), (6, .int x6), (0, .ref 183), (1, .int p1), (2, .int p2), (5, .int m5)]) hO dX8_walls_108 (Nat.le_of_ble_eq_true rfl) (fun _ => rfl) (fun x17 => ?_)
        refine S_iinc (L2 := fun x18 => [(5, .int x18), (4, .int x17), (3, .int x16), (6, .int x6), (0, .ref 183), (1, .int p1), (2, .int p2)]) (v := (1 : Int32)) hO dX8_walls_110 rfl (by decide) (Nat.le_of_ble_eq_true rfl) (fun _ => rfl) (fun x18 => ?_)
        refine S_ (R_goto (tgt := 44) hO dX8_walls_113 (by decide)) ?_
        refine S_sub [4, 5, 6, 2, 1, 0] rfl ?_
        exact ih x16 x17 x18 s5
    · refine S_ (R_iload_n hO dX8_walls_116 rfl) ?_
      refine S_if_ne (tgt := 124) hO dX8_walls_117 (by decide) ?_ ?_
      · refine S_ (R_iload_n hO dX8_walls_120 rfl) ?_
        refine S_ (R_goto (tgt := 126) hO dX8_walls_121 (by decide)) ?_
        exact S_iret rfl hO hQ dX8_walls_126 rfl
      · refine S_ (R_iload hO dX8_walls_124 rfl) ?_
        exact S_iret rfl hO hQ dX8_walls_126 rfl
def f_X8_walls (p1 : Int32) (p2 : Int32) (s0 : Mem) : Option (Int32 × Mem) := if (s0 183 4) = 0 then (some ((-1000002 : Int32), s0)) else bd2 (f_X8_in p1.toInt64 (1 : Int64) (60 : Int64) s0) fun x1 s2 => if x1 = 0 then (some ((-1000001 : Int32), s2)) else bd2 (f_X8_isWhat p2 s2) fun x3 s4 => if x3 = 0 then (some ((-1000001 : Int32), s4)) else bd (f_X8_putAside s4) fun s6 => lt ((0 : Int32)) fun x7 => lt ((-1 : Int32)) fun x8 => lt ((0 : Int32)) fun x9 => f_X8_walls_44 p1 p2 FU x7 x8 x9 s6
theorem cs_X8_walls (p1 : Int32) (p2 : Int32) (s0 : Mem) : CS 7 MX8_walls [.ref 183, .int p1, .int p2] s0 ((f_X8_walls p1 p2 s0).map wI) := by
  refine CS.of (by decide +kernel) (Nat.le_of_ble_eq_true rfl) (fun X Z hO hQ => ?_)
  show SIM X MX8_walls wI Z 0 [(0, .ref 183), (1, .int p1), (2, .int p2)] [] s0 _
  unfold f_X8_walls
  refine S_ (R_aload_n hO dX8_walls_0 rfl) ?_
  refine S_getI hO dX8_walls_1 fl_X8_135 sh_183 rfl ?_
  refine S_if_ne (tgt := 10) hO dX8_walls_4 (by decide) ?_ ?_
  · refine S_ (R_ldc (v := (-1000002 : Int32)) hO dX8_walls_7 kc_X8_166) ?_
    exact S_iret rfl hO hQ dX8_walls_9 rfl
  · refine S_ (R_iload_n hO dX8_walls_10 rfl) ?_
    refine S_ (R_i2l hO dX8_walls_11) ?_
    refine S_ (R_lconst (v := (1 : Int64)) hO dX8_walls_12 (by decide)) ?_
    refine S_ (R_ldc2 (v := (60 : Int64)) hO dX8_walls_13 kl_X8_194) ?_
    refine S_callSI (rest := []) hO dX8_walls_16 (cs_X8_in p1.toInt64 (1 : Int64) (60 : Int64) s0) (by omega) lk_X8_57 np_X8_in rfl (Nat.le_of_ble_eq_true rfl) (fun x1 s2 => ?_)
    refine S_if_eq (tgt := 29) hO dX8_walls_19 (by decide) ?_ ?_
    · refine S_ (R_iload_n hO dX8_walls_22 rfl) ?_
      refine S_callSI (rest := []) hO dX8_walls_23 (cs_X8_isWhat p2 s2) (by omega) lk_X8_203 np_X8_isWhat rfl (Nat.le_of_ble_eq_true rfl) (fun x3 s4 => ?_)
      refine S_if_ne (tgt := 32) hO dX8_walls_26 (by decide) ?_ ?_
      · refine S_ (R_ldc (v := (-1000001 : Int32)) hO dX8_walls_29 kc_X8_67) ?_
        exact S_iret rfl hO hQ dX8_walls_31 rfl
      · refine S_ (R_aload_n hO dX8_walls_32 rfl) ?_
        refine S_callVV (rest := []) hO dX8_walls_33 (cs_X8_putAside s4) (by omega) lk_X8_196 np_X8_putAside (rc_183 rfl) rfl (Nat.le_of_ble_eq_true rfl) (fun s6 => ?_)
        refine S_ (R_iconst (v := (0 : Int32)) hO dX8_walls_36 (by decide)) ?_
        refine S_istore_n (L2 := fun x7 => [(3, .int x7), (0, .ref 183), (1, .int p1), (2, .int p2)]) hO dX8_walls_37 (Nat.le_of_ble_eq_true rfl) (fun _ => rfl) (fun x7 => ?_)
        refine S_ (R_iconst (v := (-1 : Int32)) hO dX8_walls_38 (by decide)) ?_
        refine S_istore (L2 := fun x8 => [(4, .int x8), (3, .int x7), (0, .ref 183), (1, .int p1), (2, .int p2)]) hO dX8_walls_39 (Nat.le_of_ble_eq_true rfl) (fun _ => rfl) (fun x8 => ?_)
        refine S_ (R_iconst (v := (0 : Int32)) hO dX8_walls_41 (by decide)) ?_
        refine S_istore (L2 := fun x9 => [(5, .int x9), (4, .int x8), (3, .int x7), (0, .ref 183), (1, .int p1), (2, .int p2)]) hO dX8_walls_42 (Nat.le_of_ble_eq_true rfl) (fun _ => rfl) (fun x9 => ?_)
        refine S_sub [3, 4, 5, 2, 1, 0] rfl ?_
        exact w_X8_walls_44 hO hQ p1 p2 FU x7 x8 x9 s6
    · refine S_ (R_ldc (v := (-1000001 : Int32)) hO dX8_walls_29 kc_X8_67) ?_
      exact S_iret rfl hO hQ dX8_walls_31 rfl
def f_X8_steady_101 (p1 : Int32) (p2 : Int32) (K46 : Int32 → Int32 → Int32 → Mem → Option (Int32 × Mem)) (m4 : Int32) (m5 : Int32) (m6 : Int32) (t0 : Int32) (s0 : Mem) : Option (Int32 × Mem) := lt (t0) fun x1 => if m6 ≤ m4 then (lt (m4) fun x4 => lt (m5 + (1 : Int32)) fun x5 => K46 x1 x4 x5 s0) else lt (m6) fun x2 => lt (m5 + (1 : Int32)) fun x3 => K46 x1 x2 x3 s0
theorem w_X8_steady_101 {X : CX} {Z : Option Value × Mem → Prop} (hO : OKX X false 7 MX8_steady) (hQ : OKS X Z) (p1 : Int32) (p2 : Int32) (K46 : Int32 → Int32 → Int32 → Mem → Option (Int32 × Mem)) (h46 : ∀ m3 m4 m5 τ, SIM X MX8_steady wI Z 46 [(0, .ref 183), (1, .int p1), (2, .int p2), (3, .int m3), (4, .int m4), (5, .int m5)] [] τ (K46 m3 m4 m5 τ)) (m4 : Int32) (m5 : Int32) (m6 : Int32) (t0 : Int32) (s0 : Mem) : SIM X MX8_steady wI Z 101 [(0, .ref 183), (1, .int p1), (2, .int p2), (4, .int m4), (5, .int m5), (6, .int m6)] [.int t0] s0 (f_X8_steady_101 p1 p2 K46 m4 m5 m6 t0 s0) := by
  unfold f_X8_steady_101
  refine S_istore_n (L2 := fun x1 => [(3, .int x1), (0, .ref 183), (1, .int p1), (2, .int p2), (4, .int m4), (5, .int m5), (6, .int m6)]) hO dX8_steady_101 (Nat.le_of_ble_eq_true rfl) (fun _ => rfl) (fun x1 => ?_)
  refine S_ (R_iload hO dX8_steady_102 rfl) ?_
  refine S_ (R_iload hO dX8_steady_104 rfl) ?_
  refine S_icmp_le (tgt := 114) hO dX8_steady_106 (by decide) ?_ ?_
  · refine S_ (R_iload hO dX8_steady_109 rfl) ?_
    refine S_ (R_goto (tgt := 116) hO dX8_steady_111 (by decide)) ?_
    refine S_istore (L2 := fun x2 => [(4, .int x2), (3, .int x1), (0, .ref 183), (1, .int p1), (2, .int p2), (5, .int m5), (6, .int m6)]) hO dX8_steady_116 (Nat.le_of_ble_eq_true rfl) (fun _ => rfl) (fun x2 => ?_)
    refine S_iinc (L2 := fun x3 => [(5, .int x3), (4, .int x2), (3, .int x1), (0, .ref 183), (1, .int p1), (2, .int p2), (6, .int m6)]) (v := (1 : Int32)) hO dX8_steady_118 rfl (by decide) (Nat.le_of_ble_eq_true rfl) (fun _ => rfl) (fun x3 => ?_)
    refine S_ (R_goto (tgt := 46) hO dX8_steady_121 (by decide)) ?_
    refine S_sub [3, 4, 5, 2, 1, 0] rfl ?_
    exact h46 x1 x2 x3 s0
  · refine S_ (R_iload hO dX8_steady_114 rfl) ?_
    refine S_istore (L2 := fun x4 => [(4, .int x4), (3, .int x1), (0, .ref 183), (1, .int p1), (2, .int p2), (5, .int m5), (6, .int m6)]) hO dX8_steady_116 (Nat.le_of_ble_eq_true rfl) (fun _ => rfl) (fun x4 => ?_)
    refine S_iinc (L2 := fun x5 => [(5, .int x5), (4, .int x4), (3, .int x1), (0, .ref 183), (1, .int p1), (2, .int p2), (6, .int m6)]) (v := (1 : Int32)) hO dX8_steady_118 rfl (by decide) (Nat.le_of_ble_eq_true rfl) (fun _ => rfl) (fun x5 => ?_)
    refine S_ (R_goto (tgt := 46) hO dX8_steady_121 (by decide)) ?_
    refine S_sub [3, 4, 5, 2, 1, 0] rfl ?_
    exact h46 x1 x4 x5 s0
def f_X8_steady_46 (p1 : Int32) (p2 : Int32) : Nat → Int32 → Int32 → Int32 → Mem → Option (Int32 × Mem)
  | 0, _, _, _, _ => none
  | n + 1, m3, m4, m5, s0 => ing (0 : Int32) 29 <| if (s0 187 (0 : Int32).toNatClampNeg) ≤ m5 then (if p2 = 0 then (some (m3, s0)) else some (m4, s0)) else bd2 (f_X8_stands m5 s0) fun x1 s2 => if x1 = 0 then (lt (m5 + (1 : Int32)) fun x9 => f_X8_steady_46 p1 p2 n m3 m4 x9 s2) else ing ((21 : Int32) + m5) 29 <| lt (st2 s2 187 ((21 : Int32) + m5).toNatClampNeg (99 : Int32)) fun s3 => bd2 (f_X8_leftBehind p1 s3) fun x4 s5 => bd2 (f_X8_ones x4 s5) fun x6 s7 => lt (x6) fun x8 => if x8 ≤ m4 then (f_X8_steady_101 p1 p2 (f_X8_steady_46 p1 p2 n) m4 m5 x8 m3 s7) else f_X8_steady_101 p1 p2 (f_X8_steady_46 p1 p2 n) m4 m5 x8 m5 s7
theorem w_X8_steady_46 {X : CX} {Z : Option Value × Mem → Prop} (hO : OKX X false 7 MX8_steady) (hQ : OKS X Z) (p1 : Int32) (p2 : Int32) : ∀ (n : Nat) (m3 : Int32) (m4 : Int32) (m5 : Int32) (s0 : Mem), SIM X MX8_steady wI Z 46 [(0, .ref 183), (1, .int p1), (2, .int p2), (3, .int m3), (4, .int m4), (5, .int m5)] [] s0 (f_X8_steady_46 p1 p2 n m3 m4 m5 s0) := by
  intro n
  induction n with
  | zero => intros; exact S_none
  | succ n ih =>
    intro m3 m4 m5 s0
    rw [f_X8_steady_46]
    refine S_ (R_iload hO dX8_steady_46 rfl) ?_
    refine S_ (R_aload_n hO dX8_steady_48 rfl) ?_
    refine S_getR hO dX8_steady_49 fl_X8_19 sh_183 rfl ?_
    refine S_ (R_iconst (v := (0 : Int32)) hO dX8_steady_52 (by decide)) ?_
    refine S_iald hO dX8_steady_53 sh_187 ?_
    refine S_icmp_ge (tgt := 124) hO dX8_steady_54 (by decide) ?_ ?_
    · refine S_ (R_aload_n hO dX8_steady_57 rfl) ?_
      refine S_ (R_iload hO dX8_steady_58 rfl) ?_
      refine S_callVI (rest := []) hO dX8_steady_60 (cs_X8_stands m5 s0) (by omega) lk_X8_142 np_X8_stands (rc_183 rfl) rfl (Nat.le_of_ble_eq_true rfl) (fun x1 s2 => ?_)
      refine S_if_eq (tgt := 118) hO dX8_steady_63 (by decide) ?_ ?_
      · refine S_ (R_aload_n hO dX8_steady_66 rfl) ?_
        refine S_getR hO dX8_steady_67 fl_X8_19 sh_183 rfl ?_
        refine S_ (R_bipush (v := (21 : Int32)) hO dX8_steady_70 (by decide)) ?_
        refine S_ (R_iload hO dX8_steady_72 rfl) ?_
        refine S_ (R_iadd hO dX8_steady_74) ?_
        refine S_ (R_bipush (v := (99 : Int32)) hO dX8_steady_75 (by decide)) ?_
        refine S_iast hO dX8_steady_77 sh_187 (fun s3 => ?_)
        refine S_ (R_aload_n hO dX8_steady_78 rfl) ?_
        refine S_ (R_iload_n hO dX8_steady_79 rfl) ?_
        refine S_callVI (rest := []) hO dX8_steady_80 (cs_X8_leftBehind p1 s3) (by omega) lk_X8_209 np_X8_leftBehind (rc_183 rfl) rfl (Nat.le_of_ble_eq_true rfl) (fun x4 s5 => ?_)
        refine S_callSI (rest := []) hO dX8_steady_83 (cs_X8_ones x4 s5) (by omega) lk_X8_215 np_X8_ones rfl (Nat.le_of_ble_eq_true rfl) (fun x6 s7 => ?_)
        refine S_istore (L2 := fun x8 => [(6, .int x8), (0, .ref 183), (1, .int p1), (2, .int p2), (3, .int m3), (4, .int m4), (5, .int m5)]) hO dX8_steady_86 (Nat.le_of_ble_eq_true rfl) (fun _ => rfl) (fun x8 => ?_)
        refine S_ (R_iload hO dX8_steady_88 rfl) ?_
        refine S_ (R_iload hO dX8_steady_90 rfl) ?_
        refine S_icmp_le (tgt := 100) hO dX8_steady_92 (by decide) ?_ ?_
        · refine S_ (R_iload hO dX8_steady_95 rfl) ?_
          refine S_ (R_goto (tgt := 101) hO dX8_steady_97 (by decide)) ?_
          refine S_sub [1, 2, 3, 5, 6, 0] rfl ?_
          exact w_X8_steady_101 hO hQ p1 p2 (f_X8_steady_46 p1 p2 n) ih m4 m5 x8 m5 s7
        · refine S_ (R_iload_n hO dX8_steady_100 rfl) ?_
          refine S_sub [1, 2, 3, 5, 6, 0] rfl ?_
          exact w_X8_steady_101 hO hQ p1 p2 (f_X8_steady_46 p1 p2 n) ih m4 m5 x8 m3 s7
      · refine S_iinc (L2 := fun x9 => [(5, .int x9), (0, .ref 183), (1, .int p1), (2, .int p2), (3, .int m3), (4, .int m4)]) (v := (1 : Int32)) hO dX8_steady_118 rfl (by decide) (Nat.le_of_ble_eq_true rfl) (fun _ => rfl) (fun x9 => ?_)
        refine S_ (R_goto (tgt := 46) hO dX8_steady_121 (by decide)) ?_
        refine S_sub [1, 2, 3, 4, 5, 0] rfl ?_
        exact ih m3 m4 x9 s2
    · refine S_ (R_iload_n hO dX8_steady_124 rfl) ?_
      refine S_if_ne (tgt := 132) hO dX8_steady_125 (by decide) ?_ ?_
      · refine S_ (R_iload_n hO dX8_steady_128 rfl) ?_
        refine S_ (R_goto (tgt := 134) hO dX8_steady_129 (by decide)) ?_
        exact S_iret rfl hO hQ dX8_steady_134 rfl
      · refine S_ (R_iload hO dX8_steady_132 rfl) ?_
        exact S_iret rfl hO hQ dX8_steady_134 rfl
def f_X8_steady (p1 : Int32) (p2 : Int32) (s0 : Mem) : Option (Int32 × Mem) := if (s0 183 4) = 0 then (some ((-1000002 : Int32), s0)) else bd2 (f_X8_in p1.toInt64 (1 : Int64) (60 : Int64) s0) fun x1 s2 => if x1 = 0 then (some ((-1000001 : Int32), s2)) else bd2 (f_X8_isWhat p2 s2) fun x3 s4 => if x3 = 0 then (some ((-1000001 : Int32), s4)) else bd (f_X8_putAside s4) fun s6 => lt ((-1000000 : Int32)) fun x7 => lt ((-1000000 : Int32)) fun x8 => lt ((0 : Int32)) fun x9 => f_X8_steady_46 p1 p2 FU x7 x8 x9 s6
theorem cs_X8_steady (p1 : Int32) (p2 : Int32) (s0 : Mem) : CS 7 MX8_steady [.ref 183, .int p1, .int p2] s0 ((f_X8_steady p1 p2 s0).map wI) := by
  refine CS.of (by decide +kernel) (Nat.le_of_ble_eq_true rfl) (fun X Z hO hQ => ?_)
  show SIM X MX8_steady wI Z 0 [(0, .ref 183), (1, .int p1), (2, .int p2)] [] s0 _
  unfold f_X8_steady
  refine S_ (R_aload_n hO dX8_steady_0 rfl) ?_
  refine S_getI hO dX8_steady_1 fl_X8_135 sh_183 rfl ?_
  refine S_if_ne (tgt := 10) hO dX8_steady_4 (by decide) ?_ ?_
  · refine S_ (R_ldc (v := (-1000002 : Int32)) hO dX8_steady_7 kc_X8_166) ?_
    exact S_iret rfl hO hQ dX8_steady_9 rfl
  · refine S_ (R_iload_n hO dX8_steady_10 rfl) ?_
    refine S_ (R_i2l hO dX8_steady_11) ?_
    refine S_ (R_lconst (v := (1 : Int64)) hO dX8_steady_12 (by decide)) ?_
    refine S_ (R_ldc2 (v := (60 : Int64)) hO dX8_steady_13 kl_X8_194) ?_
    refine S_callSI (rest := []) hO dX8_steady_16 (cs_X8_in p1.toInt64 (1 : Int64) (60 : Int64) s0) (by omega) lk_X8_57 np_X8_in rfl (Nat.le_of_ble_eq_true rfl) (fun x1 s2 => ?_)
    refine S_if_eq (tgt := 29) hO dX8_steady_19 (by decide) ?_ ?_
    · refine S_ (R_iload_n hO dX8_steady_22 rfl) ?_
      refine S_callSI (rest := []) hO dX8_steady_23 (cs_X8_isWhat p2 s2) (by omega) lk_X8_203 np_X8_isWhat rfl (Nat.le_of_ble_eq_true rfl) (fun x3 s4 => ?_)
      refine S_if_ne (tgt := 32) hO dX8_steady_26 (by decide) ?_ ?_
      · refine S_ (R_ldc (v := (-1000001 : Int32)) hO dX8_steady_29 kc_X8_67) ?_
        exact S_iret rfl hO hQ dX8_steady_31 rfl
      · refine S_ (R_aload_n hO dX8_steady_32 rfl) ?_
        refine S_callVV (rest := []) hO dX8_steady_33 (cs_X8_putAside s4) (by omega) lk_X8_196 np_X8_putAside (rc_183 rfl) rfl (Nat.le_of_ble_eq_true rfl) (fun s6 => ?_)
        refine S_ (R_ldc (v := (-1000000 : Int32)) hO dX8_steady_36 kc_X8_202) ?_
        refine S_istore_n (L2 := fun x7 => [(3, .int x7), (0, .ref 183), (1, .int p1), (2, .int p2)]) hO dX8_steady_38 (Nat.le_of_ble_eq_true rfl) (fun _ => rfl) (fun x7 => ?_)
        refine S_ (R_ldc (v := (-1000000 : Int32)) hO dX8_steady_39 kc_X8_202) ?_
        refine S_istore (L2 := fun x8 => [(4, .int x8), (3, .int x7), (0, .ref 183), (1, .int p1), (2, .int p2)]) hO dX8_steady_41 (Nat.le_of_ble_eq_true rfl) (fun _ => rfl) (fun x8 => ?_)
        refine S_ (R_iconst (v := (0 : Int32)) hO dX8_steady_43 (by decide)) ?_
        refine S_istore (L2 := fun x9 => [(5, .int x9), (4, .int x8), (3, .int x7), (0, .ref 183), (1, .int p1), (2, .int p2)]) hO dX8_steady_44 (Nat.le_of_ble_eq_true rfl) (fun _ => rfl) (fun x9 => ?_)
        refine S_sub [3, 4, 5, 2, 1, 0] rfl ?_
        exact w_X8_steady_46 hO hQ p1 p2 FU x7 x8 x9 s6
    · refine S_ (R_ldc (v := (-1000001 : Int32)) hO dX8_steady_29 kc_X8_67) ?_
      exact S_iret rfl hO hQ dX8_steady_31 rfl
def f_X8_lashTurns_7 (p1 : Int32) (p2 : Int32) : Nat → Int32 → Int32 → Mem → Option (Mem)
  | 0, _, _, _ => none
  | n + 1, m3, m4, s0 => if m4 < 0 then (some s0) else lt ((((m3 - m3 / (5 : Int32) * (5 : Int32)) * (2 : Int32)) - (2 : Int32)) + (m4 - m4 / (2 : Int32) * (2 : Int32))) fun x1 => lt (m3 / (5 : Int32)) fun x2 => bd2 (f_X8_isHouse x1 s0) fun x3 s4 => if x3 = 0 then (lt (m4 + (-1 : Int32)) fun x11 => f_X8_lashTurns_7 p1 p2 n x2 x11 s4) else bd2 (f_X8_stands x1 s4) fun x5 s6 => if x5 = 0 then (lt (m4 + (-1 : Int32)) fun x10 => f_X8_lashTurns_7 p1 p2 n x2 x10 s6) else ing (1 : Int32) 29 <| bd (f_X8_lashBy x1 (s6 187 (1 : Int32).toNatClampNeg) s6) fun s8 => lt (m4 + (-1 : Int32)) fun x9 => f_X8_lashTurns_7 p1 p2 n x2 x9 s8
theorem w_X8_lashTurns_7 {X : CX} {Z : Option Value × Mem → Prop} (hO : OKX X false 3 MX8_lashTurns) (hQ : OKS X Z) (p1 : Int32) (p2 : Int32) : ∀ (n : Nat) (m3 : Int32) (m4 : Int32) (s0 : Mem), SIM X MX8_lashTurns wV Z 7 [(0, .ref 183), (3, .int m3), (4, .int m4)] [] s0 (f_X8_lashTurns_7 p1 p2 n m3 m4 s0) := by
  intro n
  induction n with
  | zero => intros; exact S_none
  | succ n ih =>
    intro m3 m4 s0
    rw [f_X8_lashTurns_7]
    refine S_ (R_iload hO dX8_lashTurns_7 rfl) ?_
    refine S_if_lt (tgt := 66) hO dX8_lashTurns_9 (by decide) ?_ ?_
    · refine S_ (R_iload_n hO dX8_lashTurns_12 rfl) ?_
      refine S_ (R_iconst (v := (5 : Int32)) hO dX8_lashTurns_13 (by decide)) ?_
      refine S_ (R_irem hO dX8_lashTurns_14 (by decide)) ?_
      refine S_ (R_iconst (v := (2 : Int32)) hO dX8_lashTurns_15 (by decide)) ?_
      refine S_ (R_imul hO dX8_lashTurns_16) ?_
      refine S_ (R_iconst (v := (2 : Int32)) hO dX8_lashTurns_17 (by decide)) ?_
      refine S_ (R_isub hO dX8_lashTurns_18) ?_
      refine S_ (R_iload hO dX8_lashTurns_19 rfl) ?_
      refine S_ (R_iconst (v := (2 : Int32)) hO dX8_lashTurns_21 (by decide)) ?_
      refine S_ (R_irem hO dX8_lashTurns_22 (by decide)) ?_
      refine S_ (R_iadd hO dX8_lashTurns_23) ?_
      refine S_istore (L2 := fun x1 => [(5, .int x1), (0, .ref 183), (3, .int m3), (4, .int m4)]) hO dX8_lashTurns_24 (Nat.le_of_ble_eq_true rfl) (fun _ => rfl) (fun x1 => ?_)
      refine S_ (R_iload_n hO dX8_lashTurns_26 rfl) ?_
      refine S_ (R_iconst (v := (5 : Int32)) hO dX8_lashTurns_27 (by decide)) ?_
      refine S_ (R_idiv hO dX8_lashTurns_28 (by decide)) ?_
      refine S_istore_n (L2 := fun x2 => [(3, .int x2), (5, .int x1), (0, .ref 183), (4, .int m4)]) hO dX8_lashTurns_29 (Nat.le_of_ble_eq_true rfl) (fun _ => rfl) (fun x2 => ?_)
      refine S_ (R_aload_n hO dX8_lashTurns_30 rfl) ?_
      refine S_ (R_iload hO dX8_lashTurns_31 rfl) ?_
      refine S_callVI (rest := []) hO dX8_lashTurns_33 (cs_X8_isHouse x1 s0) (by omega) lk_X8_175 np_X8_isHouse (rc_183 rfl) rfl (Nat.le_of_ble_eq_true rfl) (fun x3 s4 => ?_)
      refine S_if_eq (tgt := 60) hO dX8_lashTurns_36 (by decide) ?_ ?_
      · refine S_ (R_aload_n hO dX8_lashTurns_39 rfl) ?_
        refine S_ (R_iload hO dX8_lashTurns_40 rfl) ?_
        refine S_callVI (rest := []) hO dX8_lashTurns_42 (cs_X8_stands x1 s4) (by omega) lk_X8_142 np_X8_stands (rc_183 rfl) rfl (Nat.le_of_ble_eq_true rfl) (fun x5 s6 => ?_)
        refine S_if_eq (tgt := 60) hO dX8_lashTurns_45 (by decide) ?_ ?_
        · refine S_ (R_aload_n hO dX8_lashTurns_48 rfl) ?_
          refine S_ (R_iload hO dX8_lashTurns_49 rfl) ?_
          refine S_ (R_aload_n hO dX8_lashTurns_51 rfl) ?_
          refine S_getR hO dX8_lashTurns_52 fl_X8_19 sh_183 rfl ?_
          refine S_ (R_iconst (v := (1 : Int32)) hO dX8_lashTurns_55 (by decide)) ?_
          refine S_iald hO dX8_lashTurns_56 sh_187 ?_
          refine S_callVV (rest := []) hO dX8_lashTurns_57 (cs_X8_lashBy x1 (s6 187 (1 : Int32).toNatClampNeg) s6) (by omega) lk_X8_178 np_X8_lashBy (rc_183 rfl) rfl (Nat.le_of_ble_eq_true rfl) (fun s8 => ?_)
          refine S_iinc (L2 := fun x9 => [(4, .int x9), (3, .int x2), (5, .int x1), (0, .ref 183)]) (v := (-1 : Int32)) hO dX8_lashTurns_60 rfl (by decide) (Nat.le_of_ble_eq_true rfl) (fun _ => rfl) (fun x9 => ?_)
          refine S_ (R_goto (tgt := 7) hO dX8_lashTurns_63 (by decide)) ?_
          refine S_sub [3, 1, 0] rfl ?_
          exact ih x2 x9 s8
        · refine S_iinc (L2 := fun x10 => [(4, .int x10), (3, .int x2), (5, .int x1), (0, .ref 183)]) (v := (-1 : Int32)) hO dX8_lashTurns_60 rfl (by decide) (Nat.le_of_ble_eq_true rfl) (fun _ => rfl) (fun x10 => ?_)
          refine S_ (R_goto (tgt := 7) hO dX8_lashTurns_63 (by decide)) ?_
          refine S_sub [3, 1, 0] rfl ?_
          exact ih x2 x10 s6
      · refine S_iinc (L2 := fun x11 => [(4, .int x11), (3, .int x2), (5, .int x1), (0, .ref 183)]) (v := (-1 : Int32)) hO dX8_lashTurns_60 rfl (by decide) (Nat.le_of_ble_eq_true rfl) (fun _ => rfl) (fun x11 => ?_)
        refine S_ (R_goto (tgt := 7) hO dX8_lashTurns_63 (by decide)) ?_
        refine S_sub [3, 1, 0] rfl ?_
        exact ih x2 x11 s4
    · exact S_vret rfl hO hQ dX8_lashTurns_66 rfl
def f_X8_lashTurns (p1 : Int32) (p2 : Int32) (s0 : Mem) : Option (Mem) := lt (p1) fun x1 => lt (p2 - (1 : Int32)) fun x2 => f_X8_lashTurns_7 p1 p2 FU x1 x2 s0
theorem cs_X8_lashTurns (p1 : Int32) (p2 : Int32) (s0 : Mem) : CS 3 MX8_lashTurns [.ref 183, .int p1, .int p2] s0 ((f_X8_lashTurns p1 p2 s0).map wV) := by
  refine CS.of (by decide +kernel) (Nat.le_of_ble_eq_true rfl) (fun X Z hO hQ => ?_)
  show SIM X MX8_lashTurns wV Z 0 [(0, .ref 183), (1, .int p1), (2, .int p2)] [] s0 _
  unfold f_X8_lashTurns
  refine S_ (R_iload_n hO dX8_lashTurns_0 rfl) ?_
  refine S_istore_n (L2 := fun x1 => [(3, .int x1), (0, .ref 183), (1, .int p1), (2, .int p2)]) hO dX8_lashTurns_1 (Nat.le_of_ble_eq_true rfl) (fun _ => rfl) (fun x1 => ?_)
  refine S_ (R_iload_n hO dX8_lashTurns_2 rfl) ?_
  refine S_ (R_iconst (v := (1 : Int32)) hO dX8_lashTurns_3 (by decide)) ?_
  refine S_ (R_isub hO dX8_lashTurns_4) ?_
  refine S_istore (L2 := fun x2 => [(4, .int x2), (3, .int x1), (0, .ref 183), (1, .int p1), (2, .int p2)]) hO dX8_lashTurns_5 (Nat.le_of_ble_eq_true rfl) (fun _ => rfl) (fun x2 => ?_)
  refine S_sub [2, 1, 0] rfl ?_
  exact w_X8_lashTurns_7 hO hQ p1 p2 FU x1 x2 s0
def f_X8_boys_194 (p1 : Int32) (p2 : Int32) (K118 : Int32 → Int32 → Mem → Option (Int32 × Mem)) (K130 : Int32 → Int32 → Int32 → Mem → Option (Int32 × Mem)) (K150 : Int32 → Int32 → Int32 → Int32 → Int32 → Mem → Option (Int32 × Mem)) (m3 : Int32) (m4 : Int32) (m5 : Int32) (m6 : Int32) (m7 : Int32) (m8 : Int32) (t0 : Int32) (t1 : Int32) (s0 : Mem) : Option (Int32 × Mem) := if t1 = t0 then (lt (m8) fun x1 => lt (m7 + (1 : Int32)) fun x2 => K150 m3 m4 m5 x1 x2 s0) else lt (m6) fun x3 => lt (m7 + (1 : Int32)) fun x4 => K150 m3 m4 m5 x3 x4 s0
theorem w_X8_boys_194 {X : CX} {Z : Option Value × Mem → Prop} (hO : OKX X false 6 MX8_boys) (hQ : OKS X Z) (p1 : Int32) (p2 : Int32) (K118 : Int32 → Int32 → Mem → Option (Int32 × Mem)) (h118 : ∀ m3 m4 τ, SIM X MX8_boys wI Z 118 [(0, .ref 183), (3, .int m3), (4, .int m4)] [] τ (K118 m3 m4 τ)) (K130 : Int32 → Int32 → Int32 → Mem → Option (Int32 × Mem)) (h130 : ∀ m3 m4 m5 τ, SIM X MX8_boys wI Z 130 [(0, .ref 183), (3, .int m3), (4, .int m4), (5, .int m5)] [] τ (K130 m3 m4 m5 τ)) (K150 : Int32 → Int32 → Int32 → Int32 → Int32 → Mem → Option (Int32 × Mem)) (h150 : ∀ m3 m4 m5 m6 m7 τ, SIM X MX8_boys wI Z 150 [(0, .ref 183), (3, .int m3), (4, .int m4), (5, .int m5), (6, .int m6), (7, .int m7)] [] τ (K150 m3 m4 m5 m6 m7 τ)) (m3 : Int32) (m4 : Int32) (m5 : Int32) (m6 : Int32) (m7 : Int32) (m8 : Int32) (t0 : Int32) (t1 : Int32) (s0 : Mem) : SIM X MX8_boys wI Z 194 [(0, .ref 183), (3, .int m3), (4, .int m4), (5, .int m5), (6, .int m6), (7, .int m7), (8, .int m8)] [.int t0, .int t1] s0 (f_X8_boys_194 p1 p2 K118 K130 K150 m3 m4 m5 m6 m7 m8 t0 t1 s0) := by
  unfold f_X8_boys_194
  refine S_icmp_ne (tgt := 202) hO dX8_boys_194 (by decide) ?_ ?_
  · refine S_ (R_iload hO dX8_boys_197 rfl) ?_
    refine S_ (R_goto (tgt := 204) hO dX8_boys_199 (by decide)) ?_
    refine S_istore (L2 := fun x1 => [(6, .int x1), (0, .ref 183), (3, .int m3), (4, .int m4), (5, .int m5), (7, .int m7), (8, .int m8)]) hO dX8_boys_204 (Nat.le_of_ble_eq_true rfl) (fun _ => rfl) (fun x1 => ?_)
    refine S_iinc (L2 := fun x2 => [(7, .int x2), (6, .int x1), (0, .ref 183), (3, .int m3), (4, .int m4), (5, .int m5), (8, .int m8)]) (v := (1 : Int32)) hO dX8_boys_206 rfl (by decide) (Nat.le_of_ble_eq_true rfl) (fun _ => rfl) (fun x2 => ?_)
    refine S_ (R_goto (tgt := 150) hO dX8_boys_209 (by decide)) ?_
    refine S_sub [2, 3, 4, 5, 1, 0] rfl ?_
    exact h150 m3 m4 m5 x1 x2 s0
  · refine S_ (R_iload hO dX8_boys_202 rfl) ?_
    refine S_istore (L2 := fun x3 => [(6, .int x3), (0, .ref 183), (3, .int m3), (4, .int m4), (5, .int m5), (7, .int m7), (8, .int m8)]) hO dX8_boys_204 (Nat.le_of_ble_eq_true rfl) (fun _ => rfl) (fun x3 => ?_)
    refine S_iinc (L2 := fun x4 => [(7, .int x4), (6, .int x3), (0, .ref 183), (3, .int m3), (4, .int m4), (5, .int m5), (8, .int m8)]) (v := (1 : Int32)) hO dX8_boys_206 rfl (by decide) (Nat.le_of_ble_eq_true rfl) (fun _ => rfl) (fun x4 => ?_)
    refine S_ (R_goto (tgt := 150) hO dX8_boys_209 (by decide)) ?_
    refine S_sub [2, 3, 4, 5, 1, 0] rfl ?_
    exact h150 m3 m4 m5 x3 x4 s0
def f_X8_boys_182 (p1 : Int32) (p2 : Int32) (K118 : Int32 → Int32 → Mem → Option (Int32 × Mem)) (K130 : Int32 → Int32 → Int32 → Mem → Option (Int32 × Mem)) (K150 : Int32 → Int32 → Int32 → Int32 → Int32 → Mem → Option (Int32 × Mem)) (m3 : Int32) (m4 : Int32) (m5 : Int32) (m6 : Int32) (m7 : Int32) (m8 : Int32) (t0 : Int32) (s0 : Mem) : Option (Int32 × Mem) := if m8 ≤ m6 then (f_X8_boys_194 p1 p2 K118 K130 K150 m3 m4 m5 m6 m7 m8 (0 : Int32) t0 s0) else f_X8_boys_194 p1 p2 K118 K130 K150 m3 m4 m5 m6 m7 m8 (1 : Int32) t0 s0
theorem w_X8_boys_182 {X : CX} {Z : Option Value × Mem → Prop} (hO : OKX X false 6 MX8_boys) (hQ : OKS X Z) (p1 : Int32) (p2 : Int32) (K118 : Int32 → Int32 → Mem → Option (Int32 × Mem)) (h118 : ∀ m3 m4 τ, SIM X MX8_boys wI Z 118 [(0, .ref 183), (3, .int m3), (4, .int m4)] [] τ (K118 m3 m4 τ)) (K130 : Int32 → Int32 → Int32 → Mem → Option (Int32 × Mem)) (h130 : ∀ m3 m4 m5 τ, SIM X MX8_boys wI Z 130 [(0, .ref 183), (3, .int m3), (4, .int m4), (5, .int m5)] [] τ (K130 m3 m4 m5 τ)) (K150 : Int32 → Int32 → Int32 → Int32 → Int32 → Mem → Option (Int32 × Mem)) (h150 : ∀ m3 m4 m5 m6 m7 τ, SIM X MX8_boys wI Z 150 [(0, .ref 183), (3, .int m3), (4, .int m4), (5, .int m5), (6, .int m6), (7, .int m7)] [] τ (K150 m3 m4 m5 m6 m7 τ)) (m3 : Int32) (m4 : Int32) (m5 : Int32) (m6 : Int32) (m7 : Int32) (m8 : Int32) (t0 : Int32) (s0 : Mem) : SIM X MX8_boys wI Z 182 [(0, .ref 183), (3, .int m3), (4, .int m4), (5, .int m5), (6, .int m6), (7, .int m7), (8, .int m8)] [.int t0] s0 (f_X8_boys_182 p1 p2 K118 K130 K150 m3 m4 m5 m6 m7 m8 t0 s0) := by
  unfold f_X8_boys_182
  refine S_ (R_iload hO dX8_boys_182 rfl) ?_
  refine S_ (R_iload hO dX8_boys_184 rfl) ?_
  refine S_icmp_le (tgt := 193) hO dX8_boys_186 (by decide) ?_ ?_
  · refine S_ (R_iconst (v := (1 : Int32)) hO dX8_boys_189 (by decide)) ?_
    refine S_ (R_goto (tgt := 194) hO dX8_boys_190 (by decide)) ?_
    refine S_sub [0, 1, 2, 3, 4, 5, 6] rfl ?_
    exact w_X8_boys_194 hO hQ p1 p2 K118 h118 K130 h130 K150 h150 m3 m4 m5 m6 m7 m8 (1 : Int32) t0 s0
  · refine S_ (R_iconst (v := (0 : Int32)) hO dX8_boys_193 (by decide)) ?_
    refine S_sub [0, 1, 2, 3, 4, 5, 6] rfl ?_
    exact w_X8_boys_194 hO hQ p1 p2 K118 h118 K130 h130 K150 h150 m3 m4 m5 m6 m7 m8 (0 : Int32) t0 s0
def f_X8_boys_150 (p1 : Int32) (p2 : Int32) (K118 : Int32 → Int32 → Mem → Option (Int32 × Mem)) (K130 : Int32 → Int32 → Int32 → Mem → Option (Int32 × Mem)) : Nat → Int32 → Int32 → Int32 → Int32 → Int32 → Mem → Option (Int32 × Mem)
  | 0, _, _, _, _, _, _ => none
  | n + 1, m3, m4, m5, m6, m7, s0 => if (5 : Int32) ≤ m7 then (ing m5 625 <| lt (st2 s0 193 m5.toNatClampNeg m6) fun s2 => lt (m5 + (1 : Int32)) fun x3 => K130 m3 m4 x3 s2) else ing (((5 : Int32) * m5) + m7) 625 <| lt (s0 193 (((5 : Int32) * m5) + m7).toNatClampNeg) fun x1 => if (m4 - m4 / (2 : Int32) * (2 : Int32)) = 0 then (f_X8_boys_182 p1 p2 K118 K130 (f_X8_boys_150 p1 p2 K118 K130 n) m3 m4 m5 m6 m7 x1 (1 : Int32) s0) else f_X8_boys_182 p1 p2 K118 K130 (f_X8_boys_150 p1 p2 K118 K130 n) m3 m4 m5 m6 m7 x1 (0 : Int32) s0
theorem w_X8_boys_150 {X : CX} {Z : Option Value × Mem → Prop} (hO : OKX X false 6 MX8_boys) (hQ : OKS X Z) (p1 : Int32) (p2 : Int32) (K118 : Int32 → Int32 → Mem → Option (Int32 × Mem)) (h118 : ∀ m3 m4 τ, SIM X MX8_boys wI Z 118 [(0, .ref 183), (3, .int m3), (4, .int m4)] [] τ (K118 m3 m4 τ)) (K130 : Int32 → Int32 → Int32 → Mem → Option (Int32 × Mem)) (h130 : ∀ m3 m4 m5 τ, SIM X MX8_boys wI Z 130 [(0, .ref 183), (3, .int m3), (4, .int m4), (5, .int m5)] [] τ (K130 m3 m4 m5 τ)) : ∀ (n : Nat) (m3 : Int32) (m4 : Int32) (m5 : Int32) (m6 : Int32) (m7 : Int32) (s0 : Mem), SIM X MX8_boys wI Z 150 [(0, .ref 183), (3, .int m3), (4, .int m4), (5, .int m5), (6, .int m6), (7, .int m7)] [] s0 (f_X8_boys_150 p1 p2 K118 K130 n m3 m4 m5 m6 m7 s0) := by
  intro n
  induction n with
  | zero => intros; exact S_none
  | succ n ih =>
    intro m3 m4 m5 m6 m7 s0
    rw [f_X8_boys_150]
    refine S_ (R_iload hO dX8_boys_150 rfl) ?_
    refine S_ (R_iconst (v := (5 : Int32)) hO dX8_boys_152 (by decide)) ?_
    refine S_icmp_ge (tgt := 212) hO dX8_boys_153 (by decide) ?_ ?_
    · refine S_ (R_aload_n hO dX8_boys_156 rfl) ?_
      refine S_getR hO dX8_boys_157 fl_X8_37 sh_183 rfl ?_
      refine S_ (R_iconst (v := (5 : Int32)) hO dX8_boys_160 (by decide)) ?_
      refine S_ (R_iload hO dX8_boys_161 rfl) ?_
      refine S_ (R_imul hO dX8_boys_163) ?_
      refine S_ (R_iload hO dX8_boys_164 rfl) ?_
      refine S_ (R_iadd hO dX8_boys_166) ?_
      refine S_iald hO dX8_boys_167 sh_193 ?_
      refine S_istore (L2 := fun x1 => [(8, .int x1), (0, .ref 183), (3, .int m3), (4, .int m4), (5, .int m5), (6, .int m6), (7, .int m7)]) hO dX8_boys_168 (Nat.le_of_ble_eq_true rfl) (fun _ => rfl) (fun x1 => ?_)
      refine S_ (R_iload hO dX8_boys_170 rfl) ?_
      refine S_ (R_iconst (v := (2 : Int32)) hO dX8_boys_172 (by decide)) ?_
      refine S_ (R_irem hO dX8_boys_173 (by decide)) ?_
      refine S_if_ne (tgt := 181) hO dX8_boys_174 (by decide) ?_ ?_
      · refine S_ (R_iconst (v := (1 : Int32)) hO dX8_boys_177 (by decide)) ?_
        refine S_ (R_goto (tgt := 182) hO dX8_boys_178 (by decide)) ?_
        refine S_sub [1, 2, 3, 4, 5, 6, 0] rfl ?_
        exact w_X8_boys_182 hO hQ p1 p2 K118 h118 K130 h130 (f_X8_boys_150 p1 p2 K118 K130 n) ih m3 m4 m5 m6 m7 x1 (1 : Int32) s0
      · refine S_ (R_iconst (v := (0 : Int32)) hO dX8_boys_181 (by decide)) ?_
        refine S_sub [1, 2, 3, 4, 5, 6, 0] rfl ?_
        exact w_X8_boys_182 hO hQ p1 p2 K118 h118 K130 h130 (f_X8_boys_150 p1 p2 K118 K130 n) ih m3 m4 m5 m6 m7 x1 (0 : Int32) s0
    · refine S_ (R_aload_n hO dX8_boys_212 rfl) ?_
      refine S_getR hO dX8_boys_213 fl_X8_37 sh_183 rfl ?_
      refine S_ (R_iload hO dX8_boys_216 rfl) ?_
      refine S_ (R_iload hO dX8_boys_218 rfl) ?_
      refine S_iast hO dX8_boys_220 sh_193 (fun s2 => ?_)
      refine S_iinc (L2 := fun x3 => [(5, .int x3), (0, .ref 183), (3, .int m3), (4, .int m4), (6, .int m6), (7, .int m7)]) (v := (1 : Int32)) hO dX8_boys_221 rfl (by decide) (Nat.le_of_ble_eq_true rfl) (fun _ => rfl) (fun x3 => ?_)
      refine S_ (R_goto (tgt := 130) hO dX8_boys_224 (by decide)) ?_
      refine S_sub [1, 2, 3, 0] rfl ?_
      exact h130 m3 m4 x3 s2
def f_X8_boys_130 (p1 : Int32) (p2 : Int32) (K118 : Int32 → Int32 → Mem → Option (Int32 × Mem)) : Nat → Int32 → Int32 → Int32 → Mem → Option (Int32 × Mem)
  | 0, _, _, _, _ => none
  | n + 1, m3, m4, m5, s0 => if m3 ≤ m5 then (lt (m4 + (-1 : Int32)) fun x3 => K118 m3 x3 s0) else ing ((5 : Int32) * m5) 625 <| lt (s0 193 ((5 : Int32) * m5).toNatClampNeg) fun x1 => lt ((1 : Int32)) fun x2 => f_X8_boys_150 p1 p2 K118 (f_X8_boys_130 p1 p2 K118 n) FU m3 m4 m5 x1 x2 s0
theorem w_X8_boys_130 {X : CX} {Z : Option Value × Mem → Prop} (hO : OKX X false 6 MX8_boys) (hQ : OKS X Z) (p1 : Int32) (p2 : Int32) (K118 : Int32 → Int32 → Mem → Option (Int32 × Mem)) (h118 : ∀ m3 m4 τ, SIM X MX8_boys wI Z 118 [(0, .ref 183), (3, .int m3), (4, .int m4)] [] τ (K118 m3 m4 τ)) : ∀ (n : Nat) (m3 : Int32) (m4 : Int32) (m5 : Int32) (s0 : Mem), SIM X MX8_boys wI Z 130 [(0, .ref 183), (3, .int m3), (4, .int m4), (5, .int m5)] [] s0 (f_X8_boys_130 p1 p2 K118 n m3 m4 m5 s0) := by
  intro n
  induction n with
  | zero => intros; exact S_none
  | succ n ih =>
    intro m3 m4 m5 s0
    rw [f_X8_boys_130]
    refine S_ (R_iload hO dX8_boys_130 rfl) ?_
    refine S_ (R_iload_n hO dX8_boys_132 rfl) ?_
    refine S_icmp_ge (tgt := 227) hO dX8_boys_133 (by decide) ?_ ?_
    · refine S_ (R_aload_n hO dX8_boys_136 rfl) ?_
      refine S_getR hO dX8_boys_137 fl_X8_37 sh_183 rfl ?_
      refine S_ (R_iconst (v := (5 : Int32)) hO dX8_boys_140 (by decide)) ?_
      refine S_ (R_iload hO dX8_boys_141 rfl) ?_
      refine S_ (R_imul hO dX8_boys_143) ?_
      refine S_iald hO dX8_boys_144 sh_193 ?_
      refine S_istore (L2 := fun x1 => [(6, .int x1), (0, .ref 183), (3, .int m3), (4, .int m4), (5, .int m5)]) hO dX8_boys_145 (Nat.le_of_ble_eq_true rfl) (fun _ => rfl) (fun x1 => ?_)
      refine S_ (R_iconst (v := (1 : Int32)) hO dX8_boys_147 (by decide)) ?_
      refine S_istore (L2 := fun x2 => [(7, .int x2), (6, .int x1), (0, .ref 183), (3, .int m3), (4, .int m4), (5, .int m5)]) hO dX8_boys_148 (Nat.le_of_ble_eq_true rfl) (fun _ => rfl) (fun x2 => ?_)
      refine S_sub [2, 3, 4, 5, 1, 0] rfl ?_
      exact w_X8_boys_150 hO hQ p1 p2 K118 h118 (f_X8_boys_130 p1 p2 K118 n) ih FU m3 m4 m5 x1 x2 s0
    · refine S_iinc (L2 := fun x3 => [(4, .int x3), (0, .ref 183), (3, .int m3), (5, .int m5)]) (v := (-1 : Int32)) hO dX8_boys_227 rfl (by decide) (Nat.le_of_ble_eq_true rfl) (fun _ => rfl) (fun x3 => ?_)
      refine S_ (R_goto (tgt := 118) hO dX8_boys_230 (by decide)) ?_
      refine S_sub [1, 2, 0] rfl ?_
      exact h118 m3 x3 s0
def f_X8_boys_118 (p1 : Int32) (p2 : Int32) : Nat → Int32 → Int32 → Mem → Option (Int32 × Mem)
  | 0, _, _, _ => none
  | n + 1, m3, m4, s0 => if m4 < 0 then (ing (0 : Int32) 625 <| some (s0 193 (0 : Int32).toNatClampNeg, s0)) else lt (m3 / (5 : Int32)) fun x1 => lt ((0 : Int32)) fun x2 => f_X8_boys_130 p1 p2 (f_X8_boys_118 p1 p2 n) FU x1 m4 x2 s0
theorem w_X8_boys_118 {X : CX} {Z : Option Value × Mem → Prop} (hO : OKX X false 6 MX8_boys) (hQ : OKS X Z) (p1 : Int32) (p2 : Int32) : ∀ (n : Nat) (m3 : Int32) (m4 : Int32) (s0 : Mem), SIM X MX8_boys wI Z 118 [(0, .ref 183), (3, .int m3), (4, .int m4)] [] s0 (f_X8_boys_118 p1 p2 n m3 m4 s0) := by
  intro n
  induction n with
  | zero => intros; exact S_none
  | succ n ih =>
    intro m3 m4 s0
    rw [f_X8_boys_118]
    refine S_ (R_iload hO dX8_boys_118 rfl) ?_
    refine S_if_lt (tgt := 233) hO dX8_boys_120 (by decide) ?_ ?_
    · refine S_ (R_iload_n hO dX8_boys_123 rfl) ?_
      refine S_ (R_iconst (v := (5 : Int32)) hO dX8_boys_124 (by decide)) ?_
      refine S_ (R_idiv hO dX8_boys_125 (by decide)) ?_
      refine S_istore_n (L2 := fun x1 => [(3, .int x1), (0, .ref 183), (4, .int m4)]) hO dX8_boys_126 (Nat.le_of_ble_eq_true rfl) (fun _ => rfl) (fun x1 => ?_)
      refine S_ (R_iconst (v := (0 : Int32)) hO dX8_boys_127 (by decide)) ?_
      refine S_istore (L2 := fun x2 => [(5, .int x2), (3, .int x1), (0, .ref 183), (4, .int m4)]) hO dX8_boys_128 (Nat.le_of_ble_eq_true rfl) (fun _ => rfl) (fun x2 => ?_)
      refine S_sub [2, 1, 3, 0] rfl ?_
      exact w_X8_boys_130 hO hQ p1 p2 (f_X8_boys_118 p1 p2 n) ih FU x1 m4 x2 s0
    · refine S_ (R_aload_n hO dX8_boys_233 rfl) ?_
      refine S_getR hO dX8_boys_234 fl_X8_37 sh_183 rfl ?_
      refine S_ (R_iconst (v := (0 : Int32)) hO dX8_boys_237 (by decide)) ?_
      refine S_iald hO dX8_boys_238 sh_193 ?_
      exact S_iret rfl hO hQ dX8_boys_239 rfl
def f_X8_boys_65 (p1 : Int32) (p2 : Int32) : Nat → Int32 → Int32 → Mem → Option (Int32 × Mem)
  | 0, _, _, _ => none
  | n + 1, m3, m4, s0 => if m3 ≤ m4 then (lt (p1 - (1 : Int32)) fun x13 => f_X8_boys_118 p1 p2 FU m3 x13 s0) else bd (f_X8_lashTurns m4 p1 s0) fun s2 => bd (f_X8_goOn p2 s2) fun s4 => bd2 (f_X8_spinOf (0 : Int32) (2 : Int32) s4) fun x5 s6 => bd2 (f_X8_spinOf (1 : Int32) (2 : Int32) s6) fun x7 s8 => ing m4 625 <| lt (st2 s8 193 m4.toNatClampNeg (x5 - x7)) fun s9 => bd (f_X8_takeBack s9) fun s11 => lt (m4 + (1 : Int32)) fun x12 => f_X8_boys_65 p1 p2 n m3 x12 s11
theorem w_X8_boys_65 {X : CX} {Z : Option Value × Mem → Prop} (hO : OKX X false 6 MX8_boys) (hQ : OKS X Z) (p1 : Int32) (p2 : Int32) : ∀ (n : Nat) (m3 : Int32) (m4 : Int32) (s0 : Mem), SIM X MX8_boys wI Z 65 [(0, .ref 183), (1, .int p1), (2, .int p2), (3, .int m3), (4, .int m4)] [] s0 (f_X8_boys_65 p1 p2 n m3 m4 s0) := by
  intro n
  induction n with
  | zero => intros; exact S_none
  | succ n ih =>
    intro m3 m4 s0
    rw [f_X8_boys_65]
    refine S_ (R_iload hO dX8_boys_65 rfl) ?_
    refine S_ (R_iload_n hO dX8_boys_67 rfl) ?_
    refine S_icmp_ge (tgt := 113) hO dX8_boys_68 (by decide) ?_ ?_
    · refine S_ (R_aload_n hO dX8_boys_71 rfl) ?_
      refine S_ (R_iload hO dX8_boys_72 rfl) ?_
      refine S_ (R_iload_n hO dX8_boys_74 rfl) ?_
      refine S_callVV (rest := []) hO dX8_boys_75 (cs_X8_lashTurns m4 p1 s0) (by omega) lk_X8_225 np_X8_lashTurns (rc_183 rfl) rfl (Nat.le_of_ble_eq_true rfl) (fun s2 => ?_)
      refine S_ (R_aload_n hO dX8_boys_78 rfl) ?_
      refine S_ (R_iload_n hO dX8_boys_79 rfl) ?_
      refine S_callVV (rest := []) hO dX8_boys_80 (cs_X8_goOn p2 s2) (by omega) lk_X8_187 np_X8_goOn (rc_183 rfl) rfl (Nat.le_of_ble_eq_true rfl) (fun s4 => ?_)
      refine S_ (R_aload_n hO dX8_boys_83 rfl) ?_
      refine S_getR hO dX8_boys_84 fl_X8_37 sh_183 rfl ?_
      refine S_ (R_iload hO dX8_boys_87 rfl) ?_
      refine S_ (R_aload_n hO dX8_boys_89 rfl) ?_
      refine S_ (R_iconst (v := (0 : Int32)) hO dX8_boys_90 (by decide)) ?_
      refine S_ (R_iconst (v := (2 : Int32)) hO dX8_boys_91 (by decide)) ?_
      refine S_callVI (rest := [.int m4, .ref 193]) hO dX8_boys_92 (cs_X8_spinOf (0 : Int32) (2 : Int32) s4) (by omega) lk_X8_184 np_X8_spinOf (rc_183 rfl) rfl (Nat.le_of_ble_eq_true rfl) (fun x5 s6 => ?_)
      refine S_ (R_aload_n hO dX8_boys_95 rfl) ?_
      refine S_ (R_iconst (v := (1 : Int32)) hO dX8_boys_96 (by decide)) ?_
      refine S_ (R_iconst (v := (2 : Int32)) hO dX8_boys_97 (by decide)) ?_
      refine S_callVI (rest := [.int x5, .int m4, .ref 193]) hO dX8_boys_98 (cs_X8_spinOf (1 : Int32) (2 : Int32) s6) (by omega) lk_X8_184 np_X8_spinOf (rc_183 rfl) rfl (Nat.le_of_ble_eq_true rfl) (fun x7 s8 => ?_)
      refine S_ (R_isub hO dX8_boys_101) ?_
      refine S_iast hO dX8_boys_102 sh_193 (fun s9 => ?_)
      refine S_ (R_aload_n hO dX8_boys_103 rfl) ?_
      refine S_callVV (rest := []) hO dX8_boys_104 (cs_X8_takeBack s9) (by omega) lk_X8_191 np_X8_takeBack (rc_183 rfl) rfl (Nat.le_of_ble_eq_true rfl) (fun s11 => ?_)
      refine S_iinc (L2 := fun x12 => [(4, .int x12), (0, .ref 183), (1, .int p1), (2, .int p2), (3, .int m3)]) (v := (1 : Int32)) hO dX8_boys_107 rfl (by decide) (Nat.le_of_ble_eq_true rfl) (fun _ => rfl) (fun x12 => ?_)
      refine S_ (R_goto (tgt := 65) hO dX8_boys_110 (by decide)) ?_
      refine S_sub [1, 2, 3, 4, 0] rfl ?_
      exact ih m3 x12 s11
    · refine S_ (R_iload_n hO dX8_boys_113 rfl) ?_
      refine S_ (R_iconst (v := (1 : Int32)) hO dX8_boys_114 (by decide)) ?_
      refine S_ (R_isub hO dX8_boys_115) ?_
      refine S_istore (L2 := fun x13 => [(4, .int x13), (0, .ref 183), (1, .int p1), (2, .int p2), (3, .int m3)]) hO dX8_boys_116 (Nat.le_of_ble_eq_true rfl) (fun _ => rfl) (fun x13 => ?_)
      refine S_sub [1, 4, 0] rfl ?_
      exact w_X8_boys_118 hO hQ p1 p2 FU m3 x13 s0
def f_X8_boys_46 (p1 : Int32) (p2 : Int32) : Nat → Int32 → Int32 → Mem → Option (Int32 × Mem)
  | 0, _, _, _ => none
  | n + 1, m3, m4, s0 => if p1 ≤ m4 then (lt ((0 : Int32)) fun x3 => f_X8_boys_65 p1 p2 FU m3 x3 s0) else lt (m3 * (5 : Int32)) fun x1 => lt (m4 + (1 : Int32)) fun x2 => f_X8_boys_46 p1 p2 n x1 x2 s0
theorem w_X8_boys_46 {X : CX} {Z : Option Value × Mem → Prop} (hO : OKX X false 6 MX8_boys) (hQ : OKS X Z) (p1 : Int32) (p2 : Int32) : ∀ (n : Nat) (m3 : Int32) (m4 : Int32) (s0 : Mem), SIM X MX8_boys wI Z 46 [(0, .ref 183), (1, .int p1), (2, .int p2), (3, .int m3), (4, .int m4)] [] s0 (f_X8_boys_46 p1 p2 n m3 m4 s0) := by
  intro n
  induction n with
  | zero => intros; exact S_none
  | succ n ih =>
    intro m3 m4 s0
    rw [f_X8_boys_46]
    refine S_ (R_iload hO dX8_boys_46 rfl) ?_
    refine S_ (R_iload_n hO dX8_boys_48 rfl) ?_
    refine S_icmp_ge (tgt := 62) hO dX8_boys_49 (by decide) ?_ ?_
    · refine S_ (R_iload_n hO dX8_boys_52 rfl) ?_
      refine S_ (R_iconst (v := (5 : Int32)) hO dX8_boys_53 (by decide)) ?_
      refine S_ (R_imul hO dX8_boys_54) ?_
      refine S_istore_n (L2 := fun x1 => [(3, .int x1), (0, .ref 183), (1, .int p1), (2, .int p2), (4, .int m4)]) hO dX8_boys_55 (Nat.le_of_ble_eq_true rfl) (fun _ => rfl) (fun x1 => ?_)
      refine S_iinc (L2 := fun x2 => [(4, .int x2), (3, .int x1), (0, .ref 183), (1, .int p1), (2, .int p2)]) (v := (1 : Int32)) hO dX8_boys_56 rfl (by decide) (Nat.le_of_ble_eq_true rfl) (fun _ => rfl) (fun x2 => ?_)
      refine S_ (R_goto (tgt := 46) hO dX8_boys_59 (by decide)) ?_
      refine S_sub [2, 3, 4, 1, 0] rfl ?_
      exact ih x1 x2 s0
    · refine S_ (R_iconst (v := (0 : Int32)) hO dX8_boys_62 (by decide)) ?_
      refine S_istore (L2 := fun x3 => [(4, .int x3), (0, .ref 183), (1, .int p1), (2, .int p2), (3, .int m3)]) hO dX8_boys_63 (Nat.le_of_ble_eq_true rfl) (fun _ => rfl) (fun x3 => ?_)
      refine S_sub [1, 2, 3, 4, 0] rfl ?_
      exact w_X8_boys_65 hO hQ p1 p2 FU m3 x3 s0
def f_X8_boys (p1 : Int32) (p2 : Int32) (s0 : Mem) : Option (Int32 × Mem) := if (s0 183 4) = 0 then (some ((-1000002 : Int32), s0)) else bd2 (f_X8_in p1.toInt64 (0 : Int64) (4 : Int64) s0) fun x1 s2 => if x1 = 0 then (some ((-1000001 : Int32), s2)) else bd2 (f_X8_in p2.toInt64 (1 : Int64) (20 : Int64) s2) fun x3 s4 => if x3 = 0 then (some ((-1000001 : Int32), s4)) else bd (f_X8_putAside s4) fun s6 => lt ((1 : Int32)) fun x7 => lt ((0 : Int32)) fun x8 => f_X8_boys_46 p1 p2 FU x7 x8 s6
theorem cs_X8_boys (p1 : Int32) (p2 : Int32) (s0 : Mem) : CS 6 MX8_boys [.ref 183, .int p1, .int p2] s0 ((f_X8_boys p1 p2 s0).map wI) := by
  refine CS.of (by decide +kernel) (Nat.le_of_ble_eq_true rfl) (fun X Z hO hQ => ?_)
  show SIM X MX8_boys wI Z 0 [(0, .ref 183), (1, .int p1), (2, .int p2)] [] s0 _
  unfold f_X8_boys
  refine S_ (R_aload_n hO dX8_boys_0 rfl) ?_
  refine S_getI hO dX8_boys_1 fl_X8_135 sh_183 rfl ?_
  refine S_if_ne (tgt := 10) hO dX8_boys_4 (by decide) ?_ ?_
  · refine S_ (R_ldc (v := (-1000002 : Int32)) hO dX8_boys_7 kc_X8_166) ?_
    exact S_iret rfl hO hQ dX8_boys_9 rfl
  · refine S_ (R_iload_n hO dX8_boys_10 rfl) ?_
    refine S_ (R_i2l hO dX8_boys_11) ?_
    refine S_ (R_lconst (v := (0 : Int64)) hO dX8_boys_12 (by decide)) ?_
    refine S_ (R_ldc2 (v := (4 : Int64)) hO dX8_boys_13 kl_X8_221) ?_
    refine S_callSI (rest := []) hO dX8_boys_16 (cs_X8_in p1.toInt64 (0 : Int64) (4 : Int64) s0) (by omega) lk_X8_57 np_X8_in rfl (Nat.le_of_ble_eq_true rfl) (fun x1 s2 => ?_)
    refine S_if_eq (tgt := 34) hO dX8_boys_19 (by decide) ?_ ?_
    · refine S_ (R_iload_n hO dX8_boys_22 rfl) ?_
      refine S_ (R_i2l hO dX8_boys_23) ?_
      refine S_ (R_lconst (v := (1 : Int64)) hO dX8_boys_24 (by decide)) ?_
      refine S_ (R_ldc2 (v := (20 : Int64)) hO dX8_boys_25 kl_X8_223) ?_
      refine S_callSI (rest := []) hO dX8_boys_28 (cs_X8_in p2.toInt64 (1 : Int64) (20 : Int64) s2) (by omega) lk_X8_57 np_X8_in rfl (Nat.le_of_ble_eq_true rfl) (fun x3 s4 => ?_)
      refine S_if_ne (tgt := 37) hO dX8_boys_31 (by decide) ?_ ?_
      · refine S_ (R_ldc (v := (-1000001 : Int32)) hO dX8_boys_34 kc_X8_67) ?_
        exact S_iret rfl hO hQ dX8_boys_36 rfl
      · refine S_ (R_aload_n hO dX8_boys_37 rfl) ?_
        refine S_callVV (rest := []) hO dX8_boys_38 (cs_X8_putAside s4) (by omega) lk_X8_196 np_X8_putAside (rc_183 rfl) rfl (Nat.le_of_ble_eq_true rfl) (fun s6 => ?_)
        refine S_ (R_iconst (v := (1 : Int32)) hO dX8_boys_41 (by decide)) ?_
        refine S_istore_n (L2 := fun x7 => [(3, .int x7), (0, .ref 183), (1, .int p1), (2, .int p2)]) hO dX8_boys_42 (Nat.le_of_ble_eq_true rfl) (fun _ => rfl) (fun x7 => ?_)
        refine S_ (R_iconst (v := (0 : Int32)) hO dX8_boys_43 (by decide)) ?_
        refine S_istore (L2 := fun x8 => [(4, .int x8), (3, .int x7), (0, .ref 183), (1, .int p1), (2, .int p2)]) hO dX8_boys_44 (Nat.le_of_ble_eq_true rfl) (fun _ => rfl) (fun x8 => ?_)
        refine S_sub [2, 3, 4, 1, 0] rfl ?_
        exact w_X8_boys_46 hO hQ p1 p2 FU x7 x8 s6
    · refine S_ (R_ldc (v := (-1000001 : Int32)) hO dX8_boys_34 kc_X8_67) ?_
      exact S_iret rfl hO hQ dX8_boys_36 rfl
def f_X8_lackOf (p1 : Int32) (s0 : Mem) : Option (Int32 × Mem) := bd2 (f_X8_stands p1 s0) fun x1 s2 => if x1 = 0 then (some ((0 : Int32), s2)) else ing ((21 : Int32) + p1) 29 <| some ((99 : Int32) - (s2 187 ((21 : Int32) + p1).toNatClampNeg), s2)
theorem cs_X8_lackOf (p1 : Int32) (s0 : Mem) : CS 2 MX8_lackOf [.ref 183, .int p1] s0 ((f_X8_lackOf p1 s0).map wI) := by
  refine CS.of (by decide +kernel) (Nat.le_of_ble_eq_true rfl) (fun X Z hO hQ => ?_)
  show SIM X MX8_lackOf wI Z 0 [(0, .ref 183), (1, .int p1)] [] s0 _
  unfold f_X8_lackOf
  refine S_ (R_aload_n hO dX8_lackOf_0 rfl) ?_
  refine S_ (R_iload_n hO dX8_lackOf_1 rfl) ?_
  refine S_callVI (rest := []) hO dX8_lackOf_2 (cs_X8_stands p1 s0) (by omega) lk_X8_142 np_X8_stands (rc_183 rfl) rfl (Nat.le_of_ble_eq_true rfl) (fun x1 s2 => ?_)
  refine S_if_eq (tgt := 23) hO dX8_lackOf_5 (by decide) ?_ ?_
  · refine S_ (R_bipush (v := (99 : Int32)) hO dX8_lackOf_8 (by decide)) ?_
    refine S_ (R_aload_n hO dX8_lackOf_10 rfl) ?_
    refine S_getR hO dX8_lackOf_11 fl_X8_19 sh_183 rfl ?_
    refine S_ (R_bipush (v := (21 : Int32)) hO dX8_lackOf_14 (by decide)) ?_
    refine S_ (R_iload_n hO dX8_lackOf_16 rfl) ?_
    refine S_ (R_iadd hO dX8_lackOf_17) ?_
    refine S_iald hO dX8_lackOf_18 sh_187 ?_
    refine S_ (R_isub hO dX8_lackOf_19) ?_
    refine S_ (R_goto (tgt := 24) hO dX8_lackOf_20 (by decide)) ?_
    exact S_iret rfl hO hQ dX8_lackOf_24 rfl
  · refine S_ (R_iconst (v := (0 : Int32)) hO dX8_lackOf_23 (by decide)) ?_
    exact S_iret rfl hO hQ dX8_lackOf_24 rfl
def f_X8_string_104 (p1 : Int32) (p2 : Int32) : Nat → Int32 → Int32 → Int32 → Int32 → Mem → Option (Int32 × Mem)
  | 0, _, _, _, _, _ => none
  | n + 1, m3, m4, m5, m6, s0 => if p1 ≤ m6 then (bd2 (f_X8_lackOf p1 s0) fun x7 s8 => gd (¬ m3 = 0) <| bd2 (f_X8_lackOf p1 s8) fun x9 s10 => if x9 ≤ 0 then (some (((p2 * x7) / m3) + (0 : Int32), s10)) else if m4 ≤ m5 then (some (((p2 * x7) / m3) + (0 : Int32), s10)) else some (((p2 * x7) / m3) + (1 : Int32), s10)) else bd2 (f_X8_lackOf m6 s0) fun x1 s2 => if x1 ≤ 0 then (lt (m5 + (0 : Int32)) fun x5 => lt (m6 + (1 : Int32)) fun x6 => f_X8_string_104 p1 p2 n m3 m4 x5 x6 s2) else lt (m5 + (1 : Int32)) fun x3 => lt (m6 + (1 : Int32)) fun x4 => f_X8_string_104 p1 p2 n m3 m4 x3 x4 s2
theorem w_X8_string_104 {X : CX} {Z : Option Value × Mem → Prop} (hO : OKX X false 3 MX8_string) (hQ : OKS X Z) (p1 : Int32) (p2 : Int32) : ∀ (n : Nat) (m3 : Int32) (m4 : Int32) (m5 : Int32) (m6 : Int32) (s0 : Mem), SIM X MX8_string wI Z 104 [(0, .ref 183), (1, .int p1), (2, .int p2), (3, .int m3), (4, .int m4), (5, .int m5), (6, .int m6)] [] s0 (f_X8_string_104 p1 p2 n m3 m4 m5 m6 s0) := by
  intro n
  induction n with
  | zero => intros; exact S_none
  | succ n ih =>
    intro m3 m4 m5 m6 s0
    rw [f_X8_string_104]
    refine S_ (R_iload hO dX8_string_104 rfl) ?_
    refine S_ (R_iload_n hO dX8_string_106 rfl) ?_
    refine S_icmp_ge (tgt := 135) hO dX8_string_107 (by decide) ?_ ?_
    · refine S_ (R_iload hO dX8_string_110 rfl) ?_
      refine S_ (R_aload_n hO dX8_string_112 rfl) ?_
      refine S_ (R_iload hO dX8_string_113 rfl) ?_
      refine S_callVI (rest := [.int m5]) hO dX8_string_115 (cs_X8_lackOf m6 s0) (by omega) lk_X8_230 np_X8_lackOf (rc_183 rfl) rfl (Nat.le_of_ble_eq_true rfl) (fun x1 s2 => ?_)
      refine S_if_le (tgt := 125) hO dX8_string_118 (by decide) ?_ ?_
      · refine S_ (R_iconst (v := (1 : Int32)) hO dX8_string_121 (by decide)) ?_
        refine S_ (R_goto (tgt := 126) hO dX8_string_122 (by decide)) ?_
        refine S_ (R_iadd hO dX8_string_126) ?_
        refine S_istore (L2 := fun x3 => [(5, .int x3), (0, .ref 183), (1, .int p1), (2, .int p2), (3, .int m3), (4, .int m4), (6, .int m6)]) hO dX8_string_127 (Nat.le_of_ble_eq_true rfl) (fun _ => rfl) (fun x3 => ?_)
        refine S_iinc (L2 := fun x4 => [(6, .int x4), (5, .int x3), (0, .ref 183), (1, .int p1), (2, .int p2), (3, .int m3), (4, .int m4)]) (v := (1 : Int32)) hO dX8_string_129 rfl (by decide) (Nat.le_of_ble_eq_true rfl) (fun _ => rfl) (fun x4 => ?_)
        refine S_ (R_goto (tgt := 104) hO dX8_string_132 (by decide)) ?_
        refine S_sub [2, 3, 4, 5, 6, 1, 0] rfl ?_
        exact ih m3 m4 x3 x4 s2
      · refine S_ (R_iconst (v := (0 : Int32)) hO dX8_string_125 (by decide)) ?_
        refine S_ (R_iadd hO dX8_string_126) ?_
        refine S_istore (L2 := fun x5 => [(5, .int x5), (0, .ref 183), (1, .int p1), (2, .int p2), (3, .int m3), (4, .int m4), (6, .int m6)]) hO dX8_string_127 (Nat.le_of_ble_eq_true rfl) (fun _ => rfl) (fun x5 => ?_)
        refine S_iinc (L2 := fun x6 => [(6, .int x6), (5, .int x5), (0, .ref 183), (1, .int p1), (2, .int p2), (3, .int m3), (4, .int m4)]) (v := (1 : Int32)) hO dX8_string_129 rfl (by decide) (Nat.le_of_ble_eq_true rfl) (fun _ => rfl) (fun x6 => ?_)
        refine S_ (R_goto (tgt := 104) hO dX8_string_132 (by decide)) ?_
        refine S_sub [2, 3, 4, 5, 6, 1, 0] rfl ?_
        exact ih m3 m4 x5 x6 s2
    · refine S_ (R_iload_n hO dX8_string_135 rfl) ?_
      refine S_ (R_aload_n hO dX8_string_136 rfl) ?_
      refine S_ (R_iload_n hO dX8_string_137 rfl) ?_
      refine S_callVI (rest := [.int p2]) hO dX8_string_138 (cs_X8_lackOf p1 s0) (by omega) lk_X8_230 np_X8_lackOf (rc_183 rfl) rfl (Nat.le_of_ble_eq_true rfl) (fun x7 s8 => ?_)
      refine S_ (R_imul hO dX8_string_141) ?_
      refine S_ (R_iload_n hO dX8_string_142 rfl) ?_
      refine S_idiv hO dX8_string_143 ?_
      refine S_ (R_aload_n hO dX8_string_144 rfl) ?_
      refine S_ (R_iload_n hO dX8_string_145 rfl) ?_
      refine S_callVI (rest := [.int ((p2 * x7) / m3)]) hO dX8_string_146 (cs_X8_lackOf p1 s8) (by omega) lk_X8_230 np_X8_lackOf (rc_183 rfl) rfl (Nat.le_of_ble_eq_true rfl) (fun x9 s10 => ?_)
      refine S_if_le (tgt := 163) hO dX8_string_149 (by decide) ?_ ?_
      · refine S_ (R_iload hO dX8_string_152 rfl) ?_
        refine S_ (R_iload hO dX8_string_154 rfl) ?_
        refine S_icmp_ge (tgt := 163) hO dX8_string_156 (by decide) ?_ ?_
        · refine S_ (R_iconst (v := (1 : Int32)) hO dX8_string_159 (by decide)) ?_
          refine S_ (R_goto (tgt := 164) hO dX8_string_160 (by decide)) ?_
          refine S_ (R_iadd hO dX8_string_164) ?_
          exact S_iret rfl hO hQ dX8_string_165 rfl
        · refine S_ (R_iconst (v := (0 : Int32)) hO dX8_string_163 (by decide)) ?_
          refine S_ (R_iadd hO dX8_string_164) ?_
          exact S_iret rfl hO hQ dX8_string_165 rfl
      · refine S_ (R_iconst (v := (0 : Int32)) hO dX8_string_163 (by decide)) ?_
        refine S_ (R_iadd hO dX8_string_164) ?_
        exact S_iret rfl hO hQ dX8_string_165 rfl
def f_X8_string_66 (p1 : Int32) (p2 : Int32) : Nat → Int32 → Int32 → Int32 → Mem → Option (Int32 × Mem)
  | 0, _, _, _, _ => none
  | n + 1, m3, m4, m5, s0 => ing (0 : Int32) 29 <| if (s0 187 (0 : Int32).toNatClampNeg) ≤ m5 then (lt ((0 : Int32)) fun x5 => lt ((0 : Int32)) fun x6 => f_X8_string_104 p1 p2 FU m3 m4 x5 x6 s0) else bd2 (f_X8_lackOf m5 s0) fun x1 s2 => gd (¬ m3 = 0) <| lt (m4 - ((p2 * x1) / m3)) fun x3 => lt (m5 + (1 : Int32)) fun x4 => f_X8_string_66 p1 p2 n m3 x3 x4 s2
theorem w_X8_string_66 {X : CX} {Z : Option Value × Mem → Prop} (hO : OKX X false 3 MX8_string) (hQ : OKS X Z) (p1 : Int32) (p2 : Int32) : ∀ (n : Nat) (m3 : Int32) (m4 : Int32) (m5 : Int32) (s0 : Mem), SIM X MX8_string wI Z 66 [(0, .ref 183), (1, .int p1), (2, .int p2), (3, .int m3), (4, .int m4), (5, .int m5)] [] s0 (f_X8_string_66 p1 p2 n m3 m4 m5 s0) := by
  intro n
  induction n with
  | zero => intros; exact S_none
  | succ n ih =>
    intro m3 m4 m5 s0
    rw [f_X8_string_66]
    refine S_ (R_iload hO dX8_string_66 rfl) ?_
    refine S_ (R_aload_n hO dX8_string_68 rfl) ?_
    refine S_getR hO dX8_string_69 fl_X8_19 sh_183 rfl ?_
    refine S_ (R_iconst (v := (0 : Int32)) hO dX8_string_72 (by decide)) ?_
    refine S_iald hO dX8_string_73 sh_187 ?_
    refine S_icmp_ge (tgt := 98) hO dX8_string_74 (by decide) ?_ ?_
    · refine S_ (R_iload hO dX8_string_77 rfl) ?_
      refine S_ (R_iload_n hO dX8_string_79 rfl) ?_
      refine S_ (R_aload_n hO dX8_string_80 rfl) ?_
      refine S_ (R_iload hO dX8_string_81 rfl) ?_
      refine S_callVI (rest := [.int p2, .int m4]) hO dX8_string_83 (cs_X8_lackOf m5 s0) (by omega) lk_X8_230 np_X8_lackOf (rc_183 rfl) rfl (Nat.le_of_ble_eq_true rfl) (fun x1 s2 => ?_)
      refine S_ (R_imul hO dX8_string_86) ?_
      refine S_ (R_iload_n hO dX8_string_87 rfl) ?_
      refine S_idiv hO dX8_string_88 ?_
      refine S_ (R_isub hO dX8_string_89) ?_
      refine S_istore (L2 := fun x3 => [(4, .int x3), (0, .ref 183), (1, .int p1), (2, .int p2), (3, .int m3), (5, .int m5)]) hO dX8_string_90 (Nat.le_of_ble_eq_true rfl) (fun _ => rfl) (fun x3 => ?_)
      refine S_iinc (L2 := fun x4 => [(5, .int x4), (4, .int x3), (0, .ref 183), (1, .int p1), (2, .int p2), (3, .int m3)]) (v := (1 : Int32)) hO dX8_string_92 rfl (by decide) (Nat.le_of_ble_eq_true rfl) (fun _ => rfl) (fun x4 => ?_)
      refine S_ (R_goto (tgt := 66) hO dX8_string_95 (by decide)) ?_
      refine S_sub [2, 3, 4, 5, 1, 0] rfl ?_
      exact ih m3 x3 x4 s2
    · refine S_ (R_iconst (v := (0 : Int32)) hO dX8_string_98 (by decide)) ?_
      refine S_istore (L2 := fun x5 => [(5, .int x5), (0, .ref 183), (1, .int p1), (2, .int p2), (3, .int m3), (4, .int m4)]) hO dX8_string_99 (Nat.le_of_ble_eq_true rfl) (fun _ => rfl) (fun x5 => ?_)
      refine S_ (R_iconst (v := (0 : Int32)) hO dX8_string_101 (by decide)) ?_
      refine S_istore (L2 := fun x6 => [(6, .int x6), (5, .int x5), (0, .ref 183), (1, .int p1), (2, .int p2), (3, .int m3), (4, .int m4)]) hO dX8_string_102 (Nat.le_of_ble_eq_true rfl) (fun _ => rfl) (fun x6 => ?_)
      refine S_sub [2, 3, 4, 5, 6, 1, 0] rfl ?_
      exact w_X8_string_104 hO hQ p1 p2 FU m3 m4 x5 x6 s0
def f_X8_string_28 (p1 : Int32) (p2 : Int32) : Nat → Int32 → Int32 → Mem → Option (Int32 × Mem)
  | 0, _, _, _ => none
  | n + 1, m3, m4, s0 => ing (0 : Int32) 29 <| if (s0 187 (0 : Int32).toNatClampNeg) ≤ m4 then (if m3 = 0 then (some ((0 : Int32), s0)) else lt (p2) fun x5 => lt ((0 : Int32)) fun x6 => f_X8_string_66 p1 p2 FU m3 x5 x6 s0) else bd2 (f_X8_lackOf m4 s0) fun x1 s2 => lt (m3 + x1) fun x3 => lt (m4 + (1 : Int32)) fun x4 => f_X8_string_28 p1 p2 n x3 x4 s2
theorem w_X8_string_28 {X : CX} {Z : Option Value × Mem → Prop} (hO : OKX X false 3 MX8_string) (hQ : OKS X Z) (p1 : Int32) (p2 : Int32) : ∀ (n : Nat) (m3 : Int32) (m4 : Int32) (s0 : Mem), SIM X MX8_string wI Z 28 [(0, .ref 183), (1, .int p1), (2, .int p2), (3, .int m3), (4, .int m4)] [] s0 (f_X8_string_28 p1 p2 n m3 m4 s0) := by
  intro n
  induction n with
  | zero => intros; exact S_none
  | succ n ih =>
    intro m3 m4 s0
    rw [f_X8_string_28]
    refine S_ (R_iload hO dX8_string_28 rfl) ?_
    refine S_ (R_aload_n hO dX8_string_30 rfl) ?_
    refine S_getR hO dX8_string_31 fl_X8_19 sh_183 rfl ?_
    refine S_ (R_iconst (v := (0 : Int32)) hO dX8_string_34 (by decide)) ?_
    refine S_iald hO dX8_string_35 sh_187 ?_
    refine S_icmp_ge (tgt := 54) hO dX8_string_36 (by decide) ?_ ?_
    · refine S_ (R_iload_n hO dX8_string_39 rfl) ?_
      refine S_ (R_aload_n hO dX8_string_40 rfl) ?_
      refine S_ (R_iload hO dX8_string_41 rfl) ?_
      refine S_callVI (rest := [.int m3]) hO dX8_string_43 (cs_X8_lackOf m4 s0) (by omega) lk_X8_230 np_X8_lackOf (rc_183 rfl) rfl (Nat.le_of_ble_eq_true rfl) (fun x1 s2 => ?_)
      refine S_ (R_iadd hO dX8_string_46) ?_
      refine S_istore_n (L2 := fun x3 => [(3, .int x3), (0, .ref 183), (1, .int p1), (2, .int p2), (4, .int m4)]) hO dX8_string_47 (Nat.le_of_ble_eq_true rfl) (fun _ => rfl) (fun x3 => ?_)
      refine S_iinc (L2 := fun x4 => [(4, .int x4), (3, .int x3), (0, .ref 183), (1, .int p1), (2, .int p2)]) (v := (1 : Int32)) hO dX8_string_48 rfl (by decide) (Nat.le_of_ble_eq_true rfl) (fun _ => rfl) (fun x4 => ?_)
      refine S_ (R_goto (tgt := 28) hO dX8_string_51 (by decide)) ?_
      refine S_sub [2, 3, 4, 1, 0] rfl ?_
      exact ih x3 x4 s2
    · refine S_ (R_iload_n hO dX8_string_54 rfl) ?_
      refine S_if_ne (tgt := 60) hO dX8_string_55 (by decide) ?_ ?_
      · refine S_ (R_iconst (v := (0 : Int32)) hO dX8_string_58 (by decide)) ?_
        exact S_iret rfl hO hQ dX8_string_59 rfl
      · refine S_ (R_iload_n hO dX8_string_60 rfl) ?_
        refine S_istore (L2 := fun x5 => [(4, .int x5), (0, .ref 183), (1, .int p1), (2, .int p2), (3, .int m3)]) hO dX8_string_61 (Nat.le_of_ble_eq_true rfl) (fun _ => rfl) (fun x5 => ?_)
        refine S_ (R_iconst (v := (0 : Int32)) hO dX8_string_63 (by decide)) ?_
        refine S_istore (L2 := fun x6 => [(5, .int x6), (4, .int x5), (0, .ref 183), (1, .int p1), (2, .int p2), (3, .int m3)]) hO dX8_string_64 (Nat.le_of_ble_eq_true rfl) (fun _ => rfl) (fun x6 => ?_)
        refine S_sub [2, 3, 4, 5, 1, 0] rfl ?_
        exact w_X8_string_66 hO hQ p1 p2 FU m3 x5 x6 s0
def f_X8_string (p1 : Int32) (p2 : Int32) (s0 : Mem) : Option (Int32 × Mem) := bd2 (f_X8_isHouse p1 s0) fun x1 s2 => if x1 = 0 then (some ((-1000001 : Int32), s2)) else bd2 (f_X8_in p2.toInt64 (0 : Int64) (999 : Int64) s2) fun x3 s4 => if x3 = 0 then (some ((-1000001 : Int32), s4)) else lt ((0 : Int32)) fun x5 => lt ((0 : Int32)) fun x6 => f_X8_string_28 p1 p2 FU x5 x6 s4
theorem cs_X8_string (p1 : Int32) (p2 : Int32) (s0 : Mem) : CS 3 MX8_string [.ref 183, .int p1, .int p2] s0 ((f_X8_string p1 p2 s0).map wI) := by
  refine CS.of (by decide +kernel) (Nat.le_of_ble_eq_true rfl) (fun X Z hO hQ => ?_)
  show SIM X MX8_string wI Z 0 [(0, .ref 183), (1, .int p1), (2, .int p2)] [] s0 _
  unfold f_X8_string
  refine S_ (R_aload_n hO dX8_string_0 rfl) ?_
  refine S_ (R_iload_n hO dX8_string_1 rfl) ?_
  refine S_callVI (rest := []) hO dX8_string_2 (cs_X8_isHouse p1 s0) (by omega) lk_X8_175 np_X8_isHouse (rc_183 rfl) rfl (Nat.le_of_ble_eq_true rfl) (fun x1 s2 => ?_)
  refine S_if_eq (tgt := 20) hO dX8_string_5 (by decide) ?_ ?_
  · refine S_ (R_iload_n hO dX8_string_8 rfl) ?_
    refine S_ (R_i2l hO dX8_string_9) ?_
    refine S_ (R_lconst (v := (0 : Int64)) hO dX8_string_10 (by decide)) ?_
    refine S_ (R_ldc2 (v := (999 : Int64)) hO dX8_string_11 kl_X8_228) ?_
    refine S_callSI (rest := []) hO dX8_string_14 (cs_X8_in p2.toInt64 (0 : Int64) (999 : Int64) s2) (by omega) lk_X8_57 np_X8_in rfl (Nat.le_of_ble_eq_true rfl) (fun x3 s4 => ?_)
    refine S_if_ne (tgt := 23) hO dX8_string_17 (by decide) ?_ ?_
    · refine S_ (R_ldc (v := (-1000001 : Int32)) hO dX8_string_20 kc_X8_67) ?_
      exact S_iret rfl hO hQ dX8_string_22 rfl
    · refine S_ (R_iconst (v := (0 : Int32)) hO dX8_string_23 (by decide)) ?_
      refine S_istore_n (L2 := fun x5 => [(3, .int x5), (0, .ref 183), (1, .int p1), (2, .int p2)]) hO dX8_string_24 (Nat.le_of_ble_eq_true rfl) (fun _ => rfl) (fun x5 => ?_)
      refine S_ (R_iconst (v := (0 : Int32)) hO dX8_string_25 (by decide)) ?_
      refine S_istore (L2 := fun x6 => [(4, .int x6), (3, .int x5), (0, .ref 183), (1, .int p1), (2, .int p2)]) hO dX8_string_26 (Nat.le_of_ble_eq_true rfl) (fun _ => rfl) (fun x6 => ?_)
      refine S_sub [2, 3, 4, 1, 0] rfl ?_
      exact w_X8_string_28 hO hQ p1 p2 FU x5 x6 s4
  · refine S_ (R_ldc (v := (-1000001 : Int32)) hO dX8_string_20 kc_X8_67) ?_
    exact S_iret rfl hO hQ dX8_string_22 rfl
def f_X8_lacks (p1 : Int32) (p2 : Int32) (p3 : Int32) (s0 : Mem) : Option (Int32 × Mem) := ing p1 8 <| if 0 ≤ (s0 185 p1.toNatClampNeg) then (ing p1 8 <| bd2 (f_X8_in p2.toInt64 (0 : Int64) (((s0 185 p1.toNatClampNeg) - p3).toInt64) s0) fun x3 s4 => if x3 = 0 then (bd2 (f_X8_find (2 : Int32) s4) fun x5 s6 => some (x5, s6)) else some ((0 : Int32), s4)) else bd2 (f_X8_find (1 : Int32) s0) fun x1 s2 => some (x1, s2)
theorem cs_X8_lacks (p1 : Int32) (p2 : Int32) (p3 : Int32) (s0 : Mem) : CS 2 MX8_lacks [.ref 183, .int p1, .int p2, .int p3] s0 ((f_X8_lacks p1 p2 p3 s0).map wI) := by
  refine CS.of (by decide +kernel) (Nat.le_of_ble_eq_true rfl) (fun X Z hO hQ => ?_)
  show SIM X MX8_lacks wI Z 0 [(0, .ref 183), (1, .int p1), (2, .int p2), (3, .int p3)] [] s0 _
  unfold f_X8_lacks
  refine S_ (R_aload_n hO dX8_lacks_0 rfl) ?_
  refine S_getR hO dX8_lacks_1 fl_X8_13 sh_183 rfl ?_
  refine S_ (R_iload_n hO dX8_lacks_4 rfl) ?_
  refine S_iald hO dX8_lacks_5 sh_185 ?_
  refine S_if_ge (tgt := 15) hO dX8_lacks_6 (by decide) ?_ ?_
  · refine S_ (R_aload_n hO dX8_lacks_9 rfl) ?_
    refine S_ (R_iconst (v := (1 : Int32)) hO dX8_lacks_10 (by decide)) ?_
    refine S_callVI (rest := []) hO dX8_lacks_11 (cs_X8_find (1 : Int32) s0) (by omega) lk_X8_68 np_X8_find (rc_183 rfl) rfl (Nat.le_of_ble_eq_true rfl) (fun x1 s2 => ?_)
    exact S_iret rfl hO hQ dX8_lacks_14 rfl
  · refine S_ (R_iload_n hO dX8_lacks_15 rfl) ?_
    refine S_ (R_i2l hO dX8_lacks_16) ?_
    refine S_ (R_lconst (v := (0 : Int64)) hO dX8_lacks_17 (by decide)) ?_
    refine S_ (R_aload_n hO dX8_lacks_18 rfl) ?_
    refine S_getR hO dX8_lacks_19 fl_X8_13 sh_183 rfl ?_
    refine S_ (R_iload_n hO dX8_lacks_22 rfl) ?_
    refine S_iald hO dX8_lacks_23 sh_185 ?_
    refine S_ (R_iload_n hO dX8_lacks_24 rfl) ?_
    refine S_ (R_isub hO dX8_lacks_25) ?_
    refine S_ (R_i2l hO dX8_lacks_26) ?_
    refine S_callSI (rest := []) hO dX8_lacks_27 (cs_X8_in p2.toInt64 (0 : Int64) (((s0 185 p1.toNatClampNeg) - p3).toInt64) s0) (by omega) lk_X8_57 np_X8_in rfl (Nat.le_of_ble_eq_true rfl) (fun x3 s4 => ?_)
    refine S_if_eq (tgt := 37) hO dX8_lacks_30 (by decide) ?_ ?_
    · refine S_ (R_iconst (v := (0 : Int32)) hO dX8_lacks_33 (by decide)) ?_
      refine S_ (R_goto (tgt := 42) hO dX8_lacks_34 (by decide)) ?_
      exact S_iret rfl hO hQ dX8_lacks_42 rfl
    · refine S_ (R_aload_n hO dX8_lacks_37 rfl) ?_
      refine S_ (R_iconst (v := (2 : Int32)) hO dX8_lacks_38 (by decide)) ?_
      refine S_callVI (rest := []) hO dX8_lacks_39 (cs_X8_find (2 : Int32) s4) (by omega) lk_X8_68 np_X8_find (rc_183 rfl) rfl (Nat.le_of_ble_eq_true rfl) (fun x5 s6 => ?_)
      exact S_iret rfl hO hQ dX8_lacks_42 rfl
def f_X8_isSo_6 (p1 : Int32) (p2 : Int32) (p3 : Int32) : Nat → Int32 → Int32 → Mem → Option (Int32 × Mem)
  | 0, _, _, _ => none
  | n + 1, m4, m5, s0 => if p3 ≤ m5 then (bd (f_X8_takeBack s0) fun s10 => gd (m4 = 0 ∨ m4 = 1) <| some (m4, s10)) else bd (f_X8_oneHour s0) fun s2 => if m4 = 0 then (lt ((0 : Int32)) fun x7 => lt (m5 + (1 : Int32)) fun x8 => f_X8_isSo_6 p1 p2 p3 n x7 x8 s2) else ing (p2 + m5) 320 <| ing ((21 : Int32) + p1) 29 <| if (s2 186 (p2 + m5).toNatClampNeg) = (s2 187 ((21 : Int32) + p1).toNatClampNeg) then (lt ((1 : Int32)) fun x3 => lt (m5 + (1 : Int32)) fun x4 => f_X8_isSo_6 p1 p2 p3 n x3 x4 s2) else lt ((0 : Int32)) fun x5 => lt (m5 + (1 : Int32)) fun x6 => f_X8_isSo_6 p1 p2 p3 n x5 x6 s2
theorem w_X8_isSo_6 {X : CX} {Z : Option Value × Mem → Prop} (hO : OKX X false 5 MX8_isSo) (hQ : OKS X Z) (p1 : Int32) (p2 : Int32) (p3 : Int32) : ∀ (n : Nat) (m4 : Int32) (m5 : Int32) (s0 : Mem), SIM X MX8_isSo wI Z 6 [(0, .ref 183), (1, .int p1), (2, .int p2), (3, .int p3), (4, .int m4), (5, .int m5)] [] s0 (f_X8_isSo_6 p1 p2 p3 n m4 m5 s0) := by
  intro n
  induction n with
  | zero => intros; exact S_none
  | succ n ih =>
    intro m4 m5 s0
    rw [f_X8_isSo_6]
    refine S_ (R_iload hO dX8_isSo_6 rfl) ?_
    refine S_ (R_iload_n hO dX8_isSo_8 rfl) ?_
    refine S_icmp_ge (tgt := 55) hO dX8_isSo_9 (by decide) ?_ ?_
    · refine S_ (R_aload_n hO dX8_isSo_12 rfl) ?_
      refine S_callVV (rest := []) hO dX8_isSo_13 (cs_X8_oneHour s0) (by omega) lk_X8_172 np_X8_oneHour (rc_183 rfl) rfl (Nat.le_of_ble_eq_true rfl) (fun s2 => ?_)
      refine S_ (R_iload hO dX8_isSo_16 rfl) ?_
      refine S_if_eq (tgt := 46) hO dX8_isSo_18 (by decide) ?_ ?_
      · refine S_ (R_aload_n hO dX8_isSo_21 rfl) ?_
        refine S_getR hO dX8_isSo_22 fl_X8_16 sh_183 rfl ?_
        refine S_ (R_iload_n hO dX8_isSo_25 rfl) ?_
        refine S_ (R_iload hO dX8_isSo_26 rfl) ?_
        refine S_ (R_iadd hO dX8_isSo_28) ?_
        refine S_iald hO dX8_isSo_29 sh_186 ?_
        refine S_ (R_aload_n hO dX8_isSo_30 rfl) ?_
        refine S_getR hO dX8_isSo_31 fl_X8_19 sh_183 rfl ?_
        refine S_ (R_bipush (v := (21 : Int32)) hO dX8_isSo_34 (by decide)) ?_
        refine S_ (R_iload_n hO dX8_isSo_36 rfl) ?_
        refine S_ (R_iadd hO dX8_isSo_37) ?_
        refine S_iald hO dX8_isSo_38 sh_187 ?_
        refine S_icmp_ne (tgt := 46) hO dX8_isSo_39 (by decide) ?_ ?_
        · refine S_ (R_iconst (v := (1 : Int32)) hO dX8_isSo_42 (by decide)) ?_
          refine S_ (R_goto (tgt := 47) hO dX8_isSo_43 (by decide)) ?_
          refine S_istore (L2 := fun x3 => [(4, .int x3), (0, .ref 183), (1, .int p1), (2, .int p2), (3, .int p3), (5, .int m5)]) hO dX8_isSo_47 (Nat.le_of_ble_eq_true rfl) (fun _ => rfl) (fun x3 => ?_)
          refine S_iinc (L2 := fun x4 => [(5, .int x4), (4, .int x3), (0, .ref 183), (1, .int p1), (2, .int p2), (3, .int p3)]) (v := (1 : Int32)) hO dX8_isSo_49 rfl (by decide) (Nat.le_of_ble_eq_true rfl) (fun _ => rfl) (fun x4 => ?_)
          refine S_ (R_goto (tgt := 6) hO dX8_isSo_52 (by decide)) ?_
          refine S_sub [2, 3, 4, 5, 1, 0] rfl ?_
          exact ih x3 x4 s2
        · refine S_ (R_iconst (v := (0 : Int32)) hO dX8_isSo_46 (by decide)) ?_
          refine S_istore (L2 := fun x5 => [(4, .int x5), (0, .ref 183), (1, .int p1), (2, .int p2), (3, .int p3), (5, .int m5)]) hO dX8_isSo_47 (Nat.le_of_ble_eq_true rfl) (fun _ => rfl) (fun x5 => ?_)
          refine S_iinc (L2 := fun x6 => [(5, .int x6), (4, .int x5), (0, .ref 183), (1, .int p1), (2, .int p2), (3, .int p3)]) (v := (1 : Int32)) hO dX8_isSo_49 rfl (by decide) (Nat.le_of_ble_eq_true rfl) (fun _ => rfl) (fun x6 => ?_)
          refine S_ (R_goto (tgt := 6) hO dX8_isSo_52 (by decide)) ?_
          refine S_sub [2, 3, 4, 5, 1, 0] rfl ?_
          exact ih x5 x6 s2
      · refine S_ (R_iconst (v := (0 : Int32)) hO dX8_isSo_46 (by decide)) ?_
        refine S_istore (L2 := fun x7 => [(4, .int x7), (0, .ref 183), (1, .int p1), (2, .int p2), (3, .int p3), (5, .int m5)]) hO dX8_isSo_47 (Nat.le_of_ble_eq_true rfl) (fun _ => rfl) (fun x7 => ?_)
        refine S_iinc (L2 := fun x8 => [(5, .int x8), (4, .int x7), (0, .ref 183), (1, .int p1), (2, .int p2), (3, .int p3)]) (v := (1 : Int32)) hO dX8_isSo_49 rfl (by decide) (Nat.le_of_ble_eq_true rfl) (fun _ => rfl) (fun x8 => ?_)
        refine S_ (R_goto (tgt := 6) hO dX8_isSo_52 (by decide)) ?_
        refine S_sub [2, 3, 4, 5, 1, 0] rfl ?_
        exact ih x7 x8 s2
    · refine S_ (R_aload_n hO dX8_isSo_55 rfl) ?_
      refine S_callVV (rest := []) hO dX8_isSo_56 (cs_X8_takeBack s0) (by omega) lk_X8_191 np_X8_takeBack (rc_183 rfl) rfl (Nat.le_of_ble_eq_true rfl) (fun s10 => ?_)
      refine S_ (R_iload hO dX8_isSo_59 rfl) ?_
      exact S_zret rfl hO hQ dX8_isSo_61 rfl
def f_X8_isSo (p1 : Int32) (p2 : Int32) (p3 : Int32) (s0 : Mem) : Option (Int32 × Mem) := lt ((1 : Int32)) fun x1 => lt ((0 : Int32)) fun x2 => f_X8_isSo_6 p1 p2 p3 FU x1 x2 s0
theorem cs_X8_isSo (p1 : Int32) (p2 : Int32) (p3 : Int32) (s0 : Mem) : CS 5 MX8_isSo [.ref 183, .int p1, .int p2, .int p3] s0 ((f_X8_isSo p1 p2 p3 s0).map wI) := by
  refine CS.of (by decide +kernel) (Nat.le_of_ble_eq_true rfl) (fun X Z hO hQ => ?_)
  show SIM X MX8_isSo wI Z 0 [(0, .ref 183), (1, .int p1), (2, .int p2), (3, .int p3)] [] s0 _
  unfold f_X8_isSo
  refine S_ (R_iconst (v := (1 : Int32)) hO dX8_isSo_0 (by decide)) ?_
  refine S_istore (L2 := fun x1 => [(4, .int x1), (0, .ref 183), (1, .int p1), (2, .int p2), (3, .int p3)]) hO dX8_isSo_1 (Nat.le_of_ble_eq_true rfl) (fun _ => rfl) (fun x1 => ?_)
  refine S_ (R_iconst (v := (0 : Int32)) hO dX8_isSo_3 (by decide)) ?_
  refine S_istore (L2 := fun x2 => [(5, .int x2), (4, .int x1), (0, .ref 183), (1, .int p1), (2, .int p2), (3, .int p3)]) hO dX8_isSo_4 (Nat.le_of_ble_eq_true rfl) (fun _ => rfl) (fun x2 => ?_)
  refine S_sub [2, 3, 4, 5, 1, 0] rfl ?_
  exact w_X8_isSo_6 hO hQ p1 p2 p3 FU x1 x2 s0
def f_X8_spinsBy_93 (p1 : Int32) (p2 : Int32) (p3 : Int32) (p4 : Int32) (t0 : Int32) (s0 : Mem) : Option (Int32 × Mem) := bd2 (f_X8_well t0 s0) fun x1 s2 => some (x1, s2)
theorem w_X8_spinsBy_93 {X : CX} {Z : Option Value × Mem → Prop} (hO : OKX X false 6 MX8_spinsBy) (hQ : OKS X Z) (p1 : Int32) (p2 : Int32) (p3 : Int32) (p4 : Int32) (t0 : Int32) (s0 : Mem) : SIM X MX8_spinsBy wI Z 93 [] [.int t0, .ref 183] s0 (f_X8_spinsBy_93 p1 p2 p3 p4 t0 s0) := by
  unfold f_X8_spinsBy_93
  refine S_callVI (rest := []) hO dX8_spinsBy_93 (cs_X8_well t0 s0) (by omega) lk_X8_72 np_X8_well (rc_183 rfl) rfl (Nat.le_of_ble_eq_true rfl) (fun x1 s2 => ?_)
  exact S_iret rfl hO hQ dX8_spinsBy_96 rfl
def f_X8_spinsBy_14 (p1 : Int32) (p2 : Int32) (p3 : Int32) (p4 : Int32) : Nat → Int32 → Int32 → Int32 → Int32 → Mem → Option (Int32 × Mem)
  | 0, _, _, _, _, _ => none
  | n + 1, m5, m6, m7, m8, s0 => if (99 : Int32) < m8 then (if p2 = (2 : Int32) then (f_X8_spinsBy_93 p1 p2 p3 p4 m5 s0) else if p2 = (3 : Int32) then (f_X8_spinsBy_93 p1 p2 p3 p4 m6 s0) else f_X8_spinsBy_93 p1 p2 p3 p4 m7 s0) else ing ((21 : Int32) + p1) 29 <| lt (st2 s0 187 ((21 : Int32) + p1).toNatClampNeg m8) fun s1 => bd2 (f_X8_isSo p1 p3 p4 s1) fun x2 s3 => if x2 = 0 then (lt (m8 + (1 : Int32)) fun x11 => f_X8_spinsBy_14 p1 p2 p3 p4 n m5 m6 m7 x11 s3) else lt (m5 + (1 : Int32)) fun x4 => if 0 ≤ m6 then (lt (m6) fun x8 => lt (m8) fun x9 => lt (m8 + (1 : Int32)) fun x10 => f_X8_spinsBy_14 p1 p2 p3 p4 n x4 x8 x9 x10 s3) else lt (m8) fun x5 => lt (m8) fun x6 => lt (m8 + (1 : Int32)) fun x7 => f_X8_spinsBy_14 p1 p2 p3 p4 n x4 x5 x6 x7 s3
theorem w_X8_spinsBy_14 {X : CX} {Z : Option Value × Mem → Prop} (hO : OKX X false 6 MX8_spinsBy) (hQ : OKS X Z) (p1 : Int32) (p2 : Int32) (p3 : Int32) (p4 : Int32) : ∀ (n : Nat) (m5 : Int32) (m6 : Int32) (m7 : Int32) (m8 : Int32) (s0 : Mem), SIM X MX8_spinsBy wI Z 14 [(0, .ref 183), (1, .int p1), (2, .int p2), (3, .int p3), (4, .int p4), (5, .int m5), (6, .int m6), (7, .int m7), (8, .int m8)] [] s0 (f_X8_spinsBy_14 p1 p2 p3 p4 n m5 m6 m7 m8 s0) := by
  intro n
  induction n with
  | zero => intros; exact S_none
  | succ n ih =>
    intro m5 m6 m7 m8 s0
    rw [f_X8_spinsBy_14]
    refine S_ (R_iload hO dX8_spinsBy_14 rfl) ?_
    refine S_ (R_bipush (v := (99 : Int32)) hO dX8_spinsBy_16 (by decide)) ?_
    refine S_icmp_gt (tgt := 70) hO dX8_spinsBy_18 (by decide) ?_ ?_
    · refine S_ (R_aload_n hO dX8_spinsBy_21 rfl) ?_
      refine S_getR hO dX8_spinsBy_22 fl_X8_19 sh_183 rfl ?_
      refine S_ (R_bipush (v := (21 : Int32)) hO dX8_spinsBy_25 (by decide)) ?_
      refine S_ (R_iload_n hO dX8_spinsBy_27 rfl) ?_
      refine S_ (R_iadd hO dX8_spinsBy_28) ?_
      refine S_ (R_iload hO dX8_spinsBy_29 rfl) ?_
      refine S_iast hO dX8_spinsBy_31 sh_187 (fun s1 => ?_)
      refine S_ (R_aload_n hO dX8_spinsBy_32 rfl) ?_
      refine S_ (R_iload_n hO dX8_spinsBy_33 rfl) ?_
      refine S_ (R_iload_n hO dX8_spinsBy_34 rfl) ?_
      refine S_ (R_iload hO dX8_spinsBy_35 rfl) ?_
      refine S_callVI (rest := []) hO dX8_spinsBy_37 (cs_X8_isSo p1 p3 p4 s1) (by omega) lk_X8_233 np_X8_isSo (rc_183 rfl) rfl (Nat.le_of_ble_eq_true rfl) (fun x2 s3 => ?_)
      refine S_if_eq (tgt := 64) hO dX8_spinsBy_40 (by decide) ?_ ?_
      · refine S_iinc (L2 := fun x4 => [(5, .int x4), (0, .ref 183), (1, .int p1), (2, .int p2), (3, .int p3), (4, .int p4), (6, .int m6), (7, .int m7), (8, .int m8)]) (v := (1 : Int32)) hO dX8_spinsBy_43 rfl (by decide) (Nat.le_of_ble_eq_true rfl) (fun _ => rfl) (fun x4 => ?_)
        refine S_ (R_iload hO dX8_spinsBy_46 rfl) ?_
        refine S_if_ge (tgt := 56) hO dX8_spinsBy_48 (by decide) ?_ ?_
        · refine S_ (R_iload hO dX8_spinsBy_51 rfl) ?_
          refine S_ (R_goto (tgt := 58) hO dX8_spinsBy_53 (by decide)) ?_
          refine S_istore (L2 := fun x5 => [(6, .int x5), (5, .int x4), (0, .ref 183), (1, .int p1), (2, .int p2), (3, .int p3), (4, .int p4), (7, .int m7), (8, .int m8)]) hO dX8_spinsBy_58 (Nat.le_of_ble_eq_true rfl) (fun _ => rfl) (fun x5 => ?_)
          refine S_ (R_iload hO dX8_spinsBy_60 rfl) ?_
          refine S_istore (L2 := fun x6 => [(7, .int x6), (6, .int x5), (5, .int x4), (0, .ref 183), (1, .int p1), (2, .int p2), (3, .int p3), (4, .int p4), (8, .int m8)]) hO dX8_spinsBy_62 (Nat.le_of_ble_eq_true rfl) (fun _ => rfl) (fun x6 => ?_)
          refine S_iinc (L2 := fun x7 => [(8, .int x7), (7, .int x6), (6, .int x5), (5, .int x4), (0, .ref 183), (1, .int p1), (2, .int p2), (3, .int p3), (4, .int p4)]) (v := (1 : Int32)) hO dX8_spinsBy_64 rfl (by decide) (Nat.le_of_ble_eq_true rfl) (fun _ => rfl) (fun x7 => ?_)
          refine S_ (R_goto (tgt := 14) hO dX8_spinsBy_67 (by decide)) ?_
          refine S_sub [4, 5, 6, 7, 8, 3, 2, 1, 0] rfl ?_
          exact ih x4 x5 x6 x7 s3
        · refine S_ (R_iload hO dX8_spinsBy_56 rfl) ?_
          refine S_istore (L2 := fun x8 => [(6, .int x8), (5, .int x4), (0, .ref 183), (1, .int p1), (2, .int p2), (3, .int p3), (4, .int p4), (7, .int m7), (8, .int m8)]) hO dX8_spinsBy_58 (Nat.le_of_ble_eq_true rfl) (fun _ => rfl) (fun x8 => ?_)
          refine S_ (R_iload hO dX8_spinsBy_60 rfl) ?_
          refine S_istore (L2 := fun x9 => [(7, .int x9), (6, .int x8), (5, .int x4), (0, .ref 183), (1, .int p1), (2, .int p2), (3, .int p3), (4, .int p4), (8, .int m8)]) hO dX8_spinsBy_62 (Nat.le_of_ble_eq_true rfl) (fun _ => rfl) (fun x9 => ?_)
          refine S_iinc (L2 := fun x10 => [(8, .int x10), (7, .int x9), (6, .int x8), (5, .int x4), (0, .ref 183), (1, .int p1), (2, .int p2), (3, .int p3), (4, .int p4)]) (v := (1 : Int32)) hO dX8_spinsBy_64 rfl (by decide) (Nat.le_of_ble_eq_true rfl) (fun _ => rfl) (fun x10 => ?_)
          refine S_ (R_goto (tgt := 14) hO dX8_spinsBy_67 (by decide)) ?_
          refine S_sub [4, 5, 6, 7, 8, 3, 2, 1, 0] rfl ?_
          exact ih x4 x8 x9 x10 s3
      · refine S_iinc (L2 := fun x11 => [(8, .int x11), (0, .ref 183), (1, .int p1), (2, .int p2), (3, .int p3), (4, .int p4), (5, .int m5), (6, .int m6), (7, .int m7)]) (v := (1 : Int32)) hO dX8_spinsBy_64 rfl (by decide) (Nat.le_of_ble_eq_true rfl) (fun _ => rfl) (fun x11 => ?_)
        refine S_ (R_goto (tgt := 14) hO dX8_spinsBy_67 (by decide)) ?_
        refine S_sub [1, 2, 3, 4, 5, 6, 7, 8, 0] rfl ?_
        exact ih m5 m6 m7 x11 s3
    · refine S_ (R_aload_n hO dX8_spinsBy_70 rfl) ?_
      refine S_ (R_iload_n hO dX8_spinsBy_71 rfl) ?_
      refine S_ (R_iconst (v := (2 : Int32)) hO dX8_spinsBy_72 (by decide)) ?_
      refine S_icmp_ne (tgt := 81) hO dX8_spinsBy_73 (by decide) ?_ ?_
      · refine S_ (R_iload hO dX8_spinsBy_76 rfl) ?_
        refine S_ (R_goto (tgt := 93) hO dX8_spinsBy_78 (by decide)) ?_
        refine S_sub [] rfl ?_
        exact w_X8_spinsBy_93 hO hQ p1 p2 p3 p4 m5 s0
      · refine S_ (R_iload_n hO dX8_spinsBy_81 rfl) ?_
        refine S_ (R_iconst (v := (3 : Int32)) hO dX8_spinsBy_82 (by decide)) ?_
        refine S_icmp_ne (tgt := 91) hO dX8_spinsBy_83 (by decide) ?_ ?_
        · refine S_ (R_iload hO dX8_spinsBy_86 rfl) ?_
          refine S_ (R_goto (tgt := 93) hO dX8_spinsBy_88 (by decide)) ?_
          refine S_sub [] rfl ?_
          exact w_X8_spinsBy_93 hO hQ p1 p2 p3 p4 m6 s0
        · refine S_ (R_iload hO dX8_spinsBy_91 rfl) ?_
          refine S_sub [] rfl ?_
          exact w_X8_spinsBy_93 hO hQ p1 p2 p3 p4 m7 s0
def f_X8_spinsBy (p1 : Int32) (p2 : Int32) (p3 : Int32) (p4 : Int32) (s0 : Mem) : Option (Int32 × Mem) := lt ((0 : Int32)) fun x1 => lt ((-1000000 : Int32)) fun x2 => lt ((-1000000 : Int32)) fun x3 => lt ((0 : Int32)) fun x4 => f_X8_spinsBy_14 p1 p2 p3 p4 FU x1 x2 x3 x4 s0
theorem cs_X8_spinsBy (p1 : Int32) (p2 : Int32) (p3 : Int32) (p4 : Int32) (s0 : Mem) : CS 6 MX8_spinsBy [.ref 183, .int p1, .int p2, .int p3, .int p4] s0 ((f_X8_spinsBy p1 p2 p3 p4 s0).map wI) := by
  refine CS.of (by decide +kernel) (Nat.le_of_ble_eq_true rfl) (fun X Z hO hQ => ?_)
  show SIM X MX8_spinsBy wI Z 0 [(0, .ref 183), (1, .int p1), (2, .int p2), (3, .int p3), (4, .int p4)] [] s0 _
  unfold f_X8_spinsBy
  refine S_ (R_iconst (v := (0 : Int32)) hO dX8_spinsBy_0 (by decide)) ?_
  refine S_istore (L2 := fun x1 => [(5, .int x1), (0, .ref 183), (1, .int p1), (2, .int p2), (3, .int p3), (4, .int p4)]) hO dX8_spinsBy_1 (Nat.le_of_ble_eq_true rfl) (fun _ => rfl) (fun x1 => ?_)
  refine S_ (R_ldc (v := (-1000000 : Int32)) hO dX8_spinsBy_3 kc_X8_202) ?_
  refine S_istore (L2 := fun x2 => [(6, .int x2), (5, .int x1), (0, .ref 183), (1, .int p1), (2, .int p2), (3, .int p3), (4, .int p4)]) hO dX8_spinsBy_5 (Nat.le_of_ble_eq_true rfl) (fun _ => rfl) (fun x2 => ?_)
  refine S_ (R_ldc (v := (-1000000 : Int32)) hO dX8_spinsBy_7 kc_X8_202) ?_
  refine S_istore (L2 := fun x3 => [(7, .int x3), (6, .int x2), (5, .int x1), (0, .ref 183), (1, .int p1), (2, .int p2), (3, .int p3), (4, .int p4)]) hO dX8_spinsBy_9 (Nat.le_of_ble_eq_true rfl) (fun _ => rfl) (fun x3 => ?_)
  refine S_ (R_iconst (v := (0 : Int32)) hO dX8_spinsBy_11 (by decide)) ?_
  refine S_istore (L2 := fun x4 => [(8, .int x4), (7, .int x3), (6, .int x2), (5, .int x1), (0, .ref 183), (1, .int p1), (2, .int p2), (3, .int p3), (4, .int p4)]) hO dX8_spinsBy_12 (Nat.le_of_ble_eq_true rfl) (fun _ => rfl) (fun x4 => ?_)
  refine S_sub [4, 5, 6, 7, 8, 3, 2, 1, 0] rfl ?_
  exact w_X8_spinsBy_14 hO hQ p1 p2 p3 p4 FU x1 x2 x3 x4 s0
def f_X8_who_123 (p1 : Int32) (p2 : Int32) (p3 : Int32) (p4 : Int32) (p5 : Int32) (K111 : Int32 → Int32 → Int32 → Mem → Option (Int32 × Mem)) (m7 : Int32) (m8 : Int32) (m9 : Int32) (t0 : Int32) (t1 : Int32) (s0 : Mem) : Option (Int32 × Mem) := if t0 < t1 then (bd2 (f_X8_well m8 s0) fun x8 s9 => some (x8, s9)) else ing m7 29 <| lt (st2 s0 187 m7.toNatClampNeg m9) fun s1 => bd2 (f_X8_isSo p1 (((40 : Int32) * p3) + p4) p5 s1) fun x2 s3 => if x2 = 0 then (lt (m8 ||| (0 : Int32)) fun x6 => lt (m9 + (1 : Int32)) fun x7 => K111 m7 x6 x7 s3) else lt (m8 ||| ((1 : Int32) <<< (m9 &&& 31))) fun x4 => lt (m9 + (1 : Int32)) fun x5 => K111 m7 x4 x5 s3
theorem w_X8_who_123 {X : CX} {Z : Option Value × Mem → Prop} (hO : OKX X false 7 MX8_who) (hQ : OKS X Z) (p1 : Int32) (p2 : Int32) (p3 : Int32) (p4 : Int32) (p5 : Int32) (K111 : Int32 → Int32 → Int32 → Mem → Option (Int32 × Mem)) (h111 : ∀ m7 m8 m9 τ, SIM X MX8_who wI Z 111 [(0, .ref 183), (1, .int p1), (2, .int p2), (3, .int p3), (4, .int p4), (5, .int p5), (7, .int m7), (8, .int m8), (9, .int m9)] [] τ (K111 m7 m8 m9 τ)) (m7 : Int32) (m8 : Int32) (m9 : Int32) (t0 : Int32) (t1 : Int32) (s0 : Mem) : SIM X MX8_who wI Z 123 [(0, .ref 183), (1, .int p1), (2, .int p2), (3, .int p3), (4, .int p4), (5, .int p5), (7, .int m7), (8, .int m8), (9, .int m9)] [.int t0, .int t1] s0 (f_X8_who_123 p1 p2 p3 p4 p5 K111 m7 m8 m9 t0 t1 s0) := by
  unfold f_X8_who_123
  refine S_icmp_gt (tgt := 171) hO dX8_who_123 (by decide) ?_ ?_
  · refine S_ (R_aload_n hO dX8_who_126 rfl) ?_
    refine S_getR hO dX8_who_127 fl_X8_19 sh_183 rfl ?_
    refine S_ (R_iload hO dX8_who_130 rfl) ?_
    refine S_ (R_iload hO dX8_who_132 rfl) ?_
    refine S_iast hO dX8_who_134 sh_187 (fun s1 => ?_)
    refine S_ (R_iload hO dX8_who_135 rfl) ?_
    refine S_ (R_aload_n hO dX8_who_137 rfl) ?_
    refine S_ (R_iload_n hO dX8_who_138 rfl) ?_
    refine S_ (R_bipush (v := (40 : Int32)) hO dX8_who_139 (by decide)) ?_
    refine S_ (R_iload_n hO dX8_who_141 rfl) ?_
    refine S_ (R_imul hO dX8_who_142) ?_
    refine S_ (R_iload hO dX8_who_143 rfl) ?_
    refine S_ (R_iadd hO dX8_who_145) ?_
    refine S_ (R_iload hO dX8_who_146 rfl) ?_
    refine S_callVI (rest := [.int m8]) hO dX8_who_148 (cs_X8_isSo p1 (((40 : Int32) * p3) + p4) p5 s1) (by omega) lk_X8_233 np_X8_isSo (rc_183 rfl) rfl (Nat.le_of_ble_eq_true rfl) (fun x2 s3 => ?_)
    refine S_if_eq (tgt := 161) hO dX8_who_151 (by decide) ?_ ?_
    · refine S_ (R_iconst (v := (1 : Int32)) hO dX8_who_154 (by decide)) ?_
      refine S_ (R_iload hO dX8_who_155 rfl) ?_
      refine S_ (R_ishl hO dX8_who_157) ?_
      refine S_ (R_goto (tgt := 162) hO dX8_who_158 (by decide)) ?_
      refine S_ (R_ior hO dX8_who_162) ?_
      refine S_istore (L2 := fun x4 => [(8, .int x4), (0, .ref 183), (1, .int p1), (2, .int p2), (3, .int p3), (4, .int p4), (5, .int p5), (7, .int m7), (9, .int m9)]) hO dX8_who_163 (Nat.le_of_ble_eq_true rfl) (fun _ => rfl) (fun x4 => ?_)
      refine S_iinc (L2 := fun x5 => [(9, .int x5), (8, .int x4), (0, .ref 183), (1, .int p1), (2, .int p2), (3, .int p3), (4, .int p4), (5, .int p5), (7, .int m7)]) (v := (1 : Int32)) hO dX8_who_165 rfl (by decide) (Nat.le_of_ble_eq_true rfl) (fun _ => rfl) (fun x5 => ?_)
      refine S_ (R_goto (tgt := 111) hO dX8_who_168 (by decide)) ?_
      refine S_sub [2, 3, 4, 5, 6, 7, 8, 1, 0] rfl ?_
      exact h111 m7 x4 x5 s3
    · refine S_ (R_iconst (v := (0 : Int32)) hO dX8_who_161 (by decide)) ?_
      refine S_ (R_ior hO dX8_who_162) ?_
      refine S_istore (L2 := fun x6 => [(8, .int x6), (0, .ref 183), (1, .int p1), (2, .int p2), (3, .int p3), (4, .int p4), (5, .int p5), (7, .int m7), (9, .int m9)]) hO dX8_who_163 (Nat.le_of_ble_eq_true rfl) (fun _ => rfl) (fun x6 => ?_)
      refine S_iinc (L2 := fun x7 => [(9, .int x7), (8, .int x6), (0, .ref 183), (1, .int p1), (2, .int p2), (3, .int p3), (4, .int p4), (5, .int p5), (7, .int m7)]) (v := (1 : Int32)) hO dX8_who_165 rfl (by decide) (Nat.le_of_ble_eq_true rfl) (fun _ => rfl) (fun x7 => ?_)
      refine S_ (R_goto (tgt := 111) hO dX8_who_168 (by decide)) ?_
      refine S_sub [2, 3, 4, 5, 6, 7, 8, 1, 0] rfl ?_
      exact h111 m7 x6 x7 s3
  · refine S_ (R_aload_n hO dX8_who_171 rfl) ?_
    refine S_ (R_iload hO dX8_who_172 rfl) ?_
    refine S_callVI (rest := []) hO dX8_who_174 (cs_X8_well m8 s0) (by omega) lk_X8_72 np_X8_well (rc_183 rfl) rfl (Nat.le_of_ble_eq_true rfl) (fun x8 s9 => ?_)
    exact S_iret rfl hO hQ dX8_who_177 rfl
def f_X8_who_111 (p1 : Int32) (p2 : Int32) (p3 : Int32) (p4 : Int32) (p5 : Int32) : Nat → Int32 → Int32 → Int32 → Mem → Option (Int32 × Mem)
  | 0, _, _, _, _ => none
  | n + 1, m7, m8, m9, s0 => if p2 = 0 then (f_X8_who_123 p1 p2 p3 p4 p5 (f_X8_who_111 p1 p2 p3 p4 p5 n) m7 m8 m9 (5 : Int32) m9 s0) else f_X8_who_123 p1 p2 p3 p4 p5 (f_X8_who_111 p1 p2 p3 p4 p5 n) m7 m8 m9 (9 : Int32) m9 s0
theorem w_X8_who_111 {X : CX} {Z : Option Value × Mem → Prop} (hO : OKX X false 7 MX8_who) (hQ : OKS X Z) (p1 : Int32) (p2 : Int32) (p3 : Int32) (p4 : Int32) (p5 : Int32) : ∀ (n : Nat) (m7 : Int32) (m8 : Int32) (m9 : Int32) (s0 : Mem), SIM X MX8_who wI Z 111 [(0, .ref 183), (1, .int p1), (2, .int p2), (3, .int p3), (4, .int p4), (5, .int p5), (7, .int m7), (8, .int m8), (9, .int m9)] [] s0 (f_X8_who_111 p1 p2 p3 p4 p5 n m7 m8 m9 s0) := by
  intro n
  induction n with
  | zero => intros; exact S_none
  | succ n ih =>
    intro m7 m8 m9 s0
    rw [f_X8_who_111]
    refine S_ (R_iload hO dX8_who_111 rfl) ?_
    refine S_ (R_iload_n hO dX8_who_113 rfl) ?_
    refine S_if_ne (tgt := 121) hO dX8_who_114 (by decide) ?_ ?_
    · refine S_ (R_iconst (v := (5 : Int32)) hO dX8_who_117 (by decide)) ?_
      refine S_ (R_goto (tgt := 123) hO dX8_who_118 (by decide)) ?_
      refine S_sub [0, 1, 2, 3, 4, 5, 6, 7, 8] rfl ?_
      exact w_X8_who_123 hO hQ p1 p2 p3 p4 p5 (f_X8_who_111 p1 p2 p3 p4 p5 n) ih m7 m8 m9 (5 : Int32) m9 s0
    · refine S_ (R_bipush (v := (9 : Int32)) hO dX8_who_121 (by decide)) ?_
      refine S_sub [0, 1, 2, 3, 4, 5, 6, 7, 8] rfl ?_
      exact w_X8_who_123 hO hQ p1 p2 p3 p4 p5 (f_X8_who_111 p1 p2 p3 p4 p5 n) ih m7 m8 m9 (9 : Int32) m9 s0
def f_X8_who_54 (p1 : Int32) (p2 : Int32) (p3 : Int32) (p4 : Int32) (p5 : Int32) (t0 : Int32) (s0 : Mem) : Option (Int32 × Mem) := lt (t0) fun x1 => if 0 ≤ x1 then (bd (f_X8_putAside s0) fun s3 => if p2 ≤ (1 : Int32) then (if p2 = 0 then (lt ((5 : Int32) + p1) fun x6 => lt ((0 : Int32)) fun x7 => lt ((1 : Int32)) fun x8 => f_X8_who_111 p1 p2 p3 p4 p5 FU x6 x7 x8 s3) else lt ((13 : Int32) + p1) fun x9 => lt ((0 : Int32)) fun x10 => lt ((1 : Int32)) fun x11 => f_X8_who_111 p1 p2 p3 p4 p5 FU x9 x10 x11 s3) else bd2 (f_X8_spinsBy p1 p2 (((40 : Int32) * p3) + p4) p5 s3) fun x4 s5 => some (x4, s5)) else some (x1, s0)
theorem w_X8_who_54 {X : CX} {Z : Option Value × Mem → Prop} (hO : OKX X false 7 MX8_who) (hQ : OKS X Z) (p1 : Int32) (p2 : Int32) (p3 : Int32) (p4 : Int32) (p5 : Int32) (t0 : Int32) (s0 : Mem) : SIM X MX8_who wI Z 54 [(0, .ref 183), (1, .int p1), (2, .int p2), (3, .int p3), (4, .int p4), (5, .int p5)] [.int t0] s0 (f_X8_who_54 p1 p2 p3 p4 p5 t0 s0) := by
  unfold f_X8_who_54
  refine S_istore (L2 := fun x1 => [(6, .int x1), (0, .ref 183), (1, .int p1), (2, .int p2), (3, .int p3), (4, .int p4), (5, .int p5)]) hO dX8_who_54 (Nat.le_of_ble_eq_true rfl) (fun _ => rfl) (fun x1 => ?_)
  refine S_ (R_iload hO dX8_who_56 rfl) ?_
  refine S_if_ge (tgt := 64) hO dX8_who_58 (by decide) ?_ ?_
  · refine S_ (R_iload hO dX8_who_61 rfl) ?_
    exact S_iret rfl hO hQ dX8_who_63 rfl
  · refine S_ (R_aload_n hO dX8_who_64 rfl) ?_
    refine S_callVV (rest := []) hO dX8_who_65 (cs_X8_putAside s0) (by omega) lk_X8_196 np_X8_putAside (rc_183 rfl) rfl (Nat.le_of_ble_eq_true rfl) (fun s3 => ?_)
    refine S_ (R_iload_n hO dX8_who_68 rfl) ?_
    refine S_ (R_iconst (v := (1 : Int32)) hO dX8_who_69 (by decide)) ?_
    refine S_icmp_le (tgt := 89) hO dX8_who_70 (by decide) ?_ ?_
    · refine S_ (R_aload_n hO dX8_who_73 rfl) ?_
      refine S_ (R_iload_n hO dX8_who_74 rfl) ?_
      refine S_ (R_iload_n hO dX8_who_75 rfl) ?_
      refine S_ (R_bipush (v := (40 : Int32)) hO dX8_who_76 (by decide)) ?_
      refine S_ (R_iload_n hO dX8_who_78 rfl) ?_
      refine S_ (R_imul hO dX8_who_79) ?_
      refine S_ (R_iload hO dX8_who_80 rfl) ?_
      refine S_ (R_iadd hO dX8_who_82) ?_
      refine S_ (R_iload hO dX8_who_83 rfl) ?_
      refine S_callVI (rest := []) hO dX8_who_85 (cs_X8_spinsBy p1 p2 (((40 : Int32) * p3) + p4) p5 s3) (by omega) lk_X8_243 np_X8_spinsBy (rc_183 rfl) rfl (Nat.le_of_ble_eq_true rfl) (fun x4 s5 => ?_)
      exact S_iret rfl hO hQ dX8_who_88 rfl
    · refine S_ (R_iload_n hO dX8_who_89 rfl) ?_
      refine S_if_ne (tgt := 99) hO dX8_who_90 (by decide) ?_ ?_
      · refine S_ (R_iconst (v := (5 : Int32)) hO dX8_who_93 (by decide)) ?_
        refine S_ (R_iload_n hO dX8_who_94 rfl) ?_
        refine S_ (R_iadd hO dX8_who_95) ?_
        refine S_ (R_goto (tgt := 103) hO dX8_who_96 (by decide)) ?_
        refine S_istore (L2 := fun x6 => [(7, .int x6), (6, .int x1), (0, .ref 183), (1, .int p1), (2, .int p2), (3, .int p3), (4, .int p4), (5, .int p5)]) hO dX8_who_103 (Nat.le_of_ble_eq_true rfl) (fun _ => rfl) (fun x6 => ?_)
        refine S_ (R_iconst (v := (0 : Int32)) hO dX8_who_105 (by decide)) ?_
        refine S_istore (L2 := fun x7 => [(8, .int x7), (7, .int x6), (6, .int x1), (0, .ref 183), (1, .int p1), (2, .int p2), (3, .int p3), (4, .int p4), (5, .int p5)]) hO dX8_who_106 (Nat.le_of_ble_eq_true rfl) (fun _ => rfl) (fun x7 => ?_)
        refine S_ (R_iconst (v := (1 : Int32)) hO dX8_who_108 (by decide)) ?_
        refine S_istore (L2 := fun x8 => [(9, .int x8), (8, .int x7), (7, .int x6), (6, .int x1), (0, .ref 183), (1, .int p1), (2, .int p2), (3, .int p3), (4, .int p4), (5, .int p5)]) hO dX8_who_109 (Nat.le_of_ble_eq_true rfl) (fun _ => rfl) (fun x8 => ?_)
        refine S_sub [4, 5, 6, 7, 8, 9, 2, 1, 0] rfl ?_
        exact w_X8_who_111 hO hQ p1 p2 p3 p4 p5 FU x6 x7 x8 s3
      · refine S_ (R_bipush (v := (13 : Int32)) hO dX8_who_99 (by decide)) ?_
        refine S_ (R_iload_n hO dX8_who_101 rfl) ?_
        refine S_ (R_iadd hO dX8_who_102) ?_
        refine S_istore (L2 := fun x9 => [(7, .int x9), (6, .int x1), (0, .ref 183), (1, .int p1), (2, .int p2), (3, .int p3), (4, .int p4), (5, .int p5)]) hO dX8_who_103 (Nat.le_of_ble_eq_true rfl) (fun _ => rfl) (fun x9 => ?_)
        refine S_ (R_iconst (v := (0 : Int32)) hO dX8_who_105 (by decide)) ?_
        refine S_istore (L2 := fun x10 => [(8, .int x10), (7, .int x9), (6, .int x1), (0, .ref 183), (1, .int p1), (2, .int p2), (3, .int p3), (4, .int p4), (5, .int p5)]) hO dX8_who_106 (Nat.le_of_ble_eq_true rfl) (fun _ => rfl) (fun x10 => ?_)
        refine S_ (R_iconst (v := (1 : Int32)) hO dX8_who_108 (by decide)) ?_
        refine S_istore (L2 := fun x11 => [(9, .int x11), (8, .int x10), (7, .int x9), (6, .int x1), (0, .ref 183), (1, .int p1), (2, .int p2), (3, .int p3), (4, .int p4), (5, .int p5)]) hO dX8_who_109 (Nat.le_of_ble_eq_true rfl) (fun _ => rfl) (fun x11 => ?_)
        refine S_sub [4, 5, 6, 7, 8, 9, 2, 1, 0] rfl ?_
        exact w_X8_who_111 hO hQ p1 p2 p3 p4 p5 FU x9 x10 x11 s3
def f_X8_who (p1 : Int32) (p2 : Int32) (p3 : Int32) (p4 : Int32) (p5 : Int32) (s0 : Mem) : Option (Int32 × Mem) := bd2 (f_X8_isHouse p1 s0) fun x1 s2 => if x1 = 0 then (f_X8_who_54 p1 p2 p3 p4 p5 (-1000001 : Int32) s2) else bd2 (f_X8_in p2.toInt64 (0 : Int64) (4 : Int64) s2) fun x3 s4 => if x3 = 0 then (f_X8_who_54 p1 p2 p3 p4 p5 (-1000001 : Int32) s4) else bd2 (f_X8_isRow p3 s4) fun x5 s6 => if x5 = 0 then (f_X8_who_54 p1 p2 p3 p4 p5 (-1000001 : Int32) s6) else bd2 (f_X8_in p5.toInt64 (1 : Int64) (12 : Int64) s6) fun x7 s8 => if x7 = 0 then (f_X8_who_54 p1 p2 p3 p4 p5 (-1000001 : Int32) s8) else bd2 (f_X8_lacks p3 p4 p5 s8) fun x9 s10 => f_X8_who_54 p1 p2 p3 p4 p5 x9 s10
theorem cs_X8_who (p1 : Int32) (p2 : Int32) (p3 : Int32) (p4 : Int32) (p5 : Int32) (s0 : Mem) : CS 7 MX8_who [.ref 183, .int p1, .int p2, .int p3, .int p4, .int p5] s0 ((f_X8_who p1 p2 p3 p4 p5 s0).map wI) := by
  refine CS.of (by decide +kernel) (Nat.le_of_ble_eq_true rfl) (fun X Z hO hQ => ?_)
  show SIM X MX8_who wI Z 0 [(0, .ref 183), (1, .int p1), (2, .int p2), (3, .int p3), (4, .int p4), (5, .int p5)] [] s0 _
  unfold f_X8_who
  refine S_ (R_aload_n hO dX8_who_0 rfl) ?_
  refine S_ (R_iload_n hO dX8_who_1 rfl) ?_
  refine S_callVI (rest := []) hO dX8_who_2 (cs_X8_isHouse p1 s0) (by omega) lk_X8_175 np_X8_isHouse (rc_183 rfl) rfl (Nat.le_of_ble_eq_true rfl) (fun x1 s2 => ?_)
  refine S_if_eq (tgt := 40) hO dX8_who_5 (by decide) ?_ ?_
  · refine S_ (R_iload_n hO dX8_who_8 rfl) ?_
    refine S_ (R_i2l hO dX8_who_9) ?_
    refine S_ (R_lconst (v := (0 : Int64)) hO dX8_who_10 (by decide)) ?_
    refine S_ (R_ldc2 (v := (4 : Int64)) hO dX8_who_11 kl_X8_221) ?_
    refine S_callSI (rest := []) hO dX8_who_14 (cs_X8_in p2.toInt64 (0 : Int64) (4 : Int64) s2) (by omega) lk_X8_57 np_X8_in rfl (Nat.le_of_ble_eq_true rfl) (fun x3 s4 => ?_)
    refine S_if_eq (tgt := 40) hO dX8_who_17 (by decide) ?_ ?_
    · refine S_ (R_iload_n hO dX8_who_20 rfl) ?_
      refine S_callSI (rest := []) hO dX8_who_21 (cs_X8_isRow p3 s4) (by omega) lk_X8_61 np_X8_isRow rfl (Nat.le_of_ble_eq_true rfl) (fun x5 s6 => ?_)
      refine S_if_eq (tgt := 40) hO dX8_who_24 (by decide) ?_ ?_
      · refine S_ (R_iload hO dX8_who_27 rfl) ?_
        refine S_ (R_i2l hO dX8_who_29) ?_
        refine S_ (R_lconst (v := (1 : Int64)) hO dX8_who_30 (by decide)) ?_
        refine S_ (R_ldc2 (v := (12 : Int64)) hO dX8_who_31 kl_X8_237) ?_
        refine S_callSI (rest := []) hO dX8_who_34 (cs_X8_in p5.toInt64 (1 : Int64) (12 : Int64) s6) (by omega) lk_X8_57 np_X8_in rfl (Nat.le_of_ble_eq_true rfl) (fun x7 s8 => ?_)
        refine S_if_ne (tgt := 45) hO dX8_who_37 (by decide) ?_ ?_
        · refine S_ (R_ldc (v := (-1000001 : Int32)) hO dX8_who_40 kc_X8_67) ?_
          refine S_ (R_goto (tgt := 54) hO dX8_who_42 (by decide)) ?_
          refine S_sub [0, 1, 2, 3, 4, 5] rfl ?_
          exact w_X8_who_54 hO hQ p1 p2 p3 p4 p5 (-1000001 : Int32) s8
        · refine S_ (R_aload_n hO dX8_who_45 rfl) ?_
          refine S_ (R_iload_n hO dX8_who_46 rfl) ?_
          refine S_ (R_iload hO dX8_who_47 rfl) ?_
          refine S_ (R_iload hO dX8_who_49 rfl) ?_
          refine S_callVI (rest := []) hO dX8_who_51 (cs_X8_lacks p3 p4 p5 s8) (by omega) lk_X8_239 np_X8_lacks (rc_183 rfl) rfl (Nat.le_of_ble_eq_true rfl) (fun x9 s10 => ?_)
          refine S_sub [0, 1, 2, 3, 4, 5] rfl ?_
          exact w_X8_who_54 hO hQ p1 p2 p3 p4 p5 x9 s10
      · refine S_ (R_ldc (v := (-1000001 : Int32)) hO dX8_who_40 kc_X8_67) ?_
        refine S_ (R_goto (tgt := 54) hO dX8_who_42 (by decide)) ?_
        refine S_sub [0, 1, 2, 3, 4, 5] rfl ?_
        exact w_X8_who_54 hO hQ p1 p2 p3 p4 p5 (-1000001 : Int32) s6
    · refine S_ (R_ldc (v := (-1000001 : Int32)) hO dX8_who_40 kc_X8_67) ?_
      refine S_ (R_goto (tgt := 54) hO dX8_who_42 (by decide)) ?_
      refine S_sub [0, 1, 2, 3, 4, 5] rfl ?_
      exact w_X8_who_54 hO hQ p1 p2 p3 p4 p5 (-1000001 : Int32) s4
  · refine S_ (R_ldc (v := (-1000001 : Int32)) hO dX8_who_40 kc_X8_67) ?_
    refine S_ (R_goto (tgt := 54) hO dX8_who_42 (by decide)) ?_
    refine S_sub [0, 1, 2, 3, 4, 5] rfl ?_
    exact w_X8_who_54 hO hQ p1 p2 p3 p4 p5 (-1000001 : Int32) s2
def f_X8_finger_83 (p1 : Int32) (p2 : Int32) (p3 : Int32) (p4 : Int32) : Nat → Int32 → Int32 → Mem → Option (Int32 × Mem)
  | 0, _, _, _ => none
  | n + 1, m6, m7, s0 => ing (0 : Int32) 29 <| if (s0 187 (0 : Int32).toNatClampNeg) ≤ m7 then (bd2 (f_X8_well m6 s0) fun x11 s12 => some (x11, s12)) else bd2 (f_X8_stands m7 s0) fun x1 s2 => if x1 = 0 then (lt (m7 + (1 : Int32)) fun x10 => f_X8_finger_83 p1 p2 p3 p4 n m6 x10 s2) else ing ((21 : Int32) + m7) 29 <| ing ((21 : Int32) + m7) 29 <| lt (st2 s2 187 ((21 : Int32) + m7).toNatClampNeg ((s2 187 ((21 : Int32) + m7).toNatClampNeg) / (2 : Int32))) fun s3 => bd2 (f_X8_isSo p1 (((40 : Int32) * p2) + p3) p4 s3) fun x4 s5 => if x4 = 0 then (lt (m6 ||| (0 : Int32)) fun x8 => lt (m7 + (1 : Int32)) fun x9 => f_X8_finger_83 p1 p2 p3 p4 n x8 x9 s5) else lt (m6 ||| ((1 : Int32) <<< (m7 &&& 31))) fun x6 => lt (m7 + (1 : Int32)) fun x7 => f_X8_finger_83 p1 p2 p3 p4 n x6 x7 s5
theorem w_X8_finger_83 {X : CX} {Z : Option Value × Mem → Prop} (hO : OKX X false 6 MX8_finger) (hQ : OKS X Z) (p1 : Int32) (p2 : Int32) (p3 : Int32) (p4 : Int32) : ∀ (n : Nat) (m6 : Int32) (m7 : Int32) (s0 : Mem), SIM X MX8_finger wI Z 83 [(0, .ref 183), (1, .int p1), (2, .int p2), (3, .int p3), (4, .int p4), (6, .int m6), (7, .int m7)] [] s0 (f_X8_finger_83 p1 p2 p3 p4 n m6 m7 s0) := by
  intro n
  induction n with
  | zero => intros; exact S_none
  | succ n ih =>
    intro m6 m7 s0
    rw [f_X8_finger_83]
    refine S_ (R_iload hO dX8_finger_83 rfl) ?_
    refine S_ (R_aload_n hO dX8_finger_85 rfl) ?_
    refine S_getR hO dX8_finger_86 fl_X8_19 sh_183 rfl ?_
    refine S_ (R_iconst (v := (0 : Int32)) hO dX8_finger_89 (by decide)) ?_
    refine S_iald hO dX8_finger_90 sh_187 ?_
    refine S_icmp_ge (tgt := 152) hO dX8_finger_91 (by decide) ?_ ?_
    · refine S_ (R_aload_n hO dX8_finger_94 rfl) ?_
      refine S_ (R_iload hO dX8_finger_95 rfl) ?_
      refine S_callVI (rest := []) hO dX8_finger_97 (cs_X8_stands m7 s0) (by omega) lk_X8_142 np_X8_stands (rc_183 rfl) rfl (Nat.le_of_ble_eq_true rfl) (fun x1 s2 => ?_)
      refine S_if_eq (tgt := 146) hO dX8_finger_100 (by decide) ?_ ?_
      · refine S_ (R_aload_n hO dX8_finger_103 rfl) ?_
        refine S_getR hO dX8_finger_104 fl_X8_19 sh_183 rfl ?_
        refine S_ (R_bipush (v := (21 : Int32)) hO dX8_finger_107 (by decide)) ?_
        refine S_ (R_iload hO dX8_finger_109 rfl) ?_
        refine S_ (R_iadd hO dX8_finger_111) ?_
        refine S_ (R_dup2 hO dX8_finger_112 rfl rfl) ?_
        refine S_iald hO dX8_finger_113 sh_187 ?_
        refine S_ (R_iconst (v := (2 : Int32)) hO dX8_finger_114 (by decide)) ?_
        refine S_ (R_idiv hO dX8_finger_115 (by decide)) ?_
        refine S_iast hO dX8_finger_116 sh_187 (fun s3 => ?_)
        refine S_ (R_iload hO dX8_finger_117 rfl) ?_
        refine S_ (R_aload_n hO dX8_finger_119 rfl) ?_
        refine S_ (R_iload_n hO dX8_finger_120 rfl) ?_
        refine S_ (R_bipush (v := (40 : Int32)) hO dX8_finger_121 (by decide)) ?_
        refine S_ (R_iload_n hO dX8_finger_123 rfl) ?_
        refine S_ (R_imul hO dX8_finger_124) ?_
        refine S_ (R_iload_n hO dX8_finger_125 rfl) ?_
        refine S_ (R_iadd hO dX8_finger_126) ?_
        refine S_ (R_iload hO dX8_finger_127 rfl) ?_
        refine S_callVI (rest := [.int m6]) hO dX8_finger_129 (cs_X8_isSo p1 (((40 : Int32) * p2) + p3) p4 s3) (by omega) lk_X8_233 np_X8_isSo (rc_183 rfl) rfl (Nat.le_of_ble_eq_true rfl) (fun x4 s5 => ?_)
        refine S_if_eq (tgt := 142) hO dX8_finger_132 (by decide) ?_ ?_
        · refine S_ (R_iconst (v := (1 : Int32)) hO dX8_finger_135 (by decide)) ?_
          refine S_ (R_iload hO dX8_finger_136 rfl) ?_
          refine S_ (R_ishl hO dX8_finger_138) ?_
          refine S_ (R_goto (tgt := 143) hO dX8_finger_139 (by decide)) ?_
          refine S_ (R_ior hO dX8_finger_143) ?_
          refine S_istore (L2 := fun x6 => [(6, .int x6), (0, .ref 183), (1, .int p1), (2, .int p2), (3, .int p3), (4, .int p4), (7, .int m7)]) hO dX8_finger_144 (Nat.le_of_ble_eq_true rfl) (fun _ => rfl) (fun x6 => ?_)
          refine S_iinc (L2 := fun x7 => [(7, .int x7), (6, .int x6), (0, .ref 183), (1, .int p1), (2, .int p2), (3, .int p3), (4, .int p4)]) (v := (1 : Int32)) hO dX8_finger_146 rfl (by decide) (Nat.le_of_ble_eq_true rfl) (fun _ => rfl) (fun x7 => ?_)
          refine S_ (R_goto (tgt := 83) hO dX8_finger_149 (by decide)) ?_
          refine S_sub [2, 3, 4, 5, 6, 1, 0] rfl ?_
          exact ih x6 x7 s5
        · refine S_ (R_iconst (v := (0 : Int32)) hO dX8_finger_142 (by decide)) ?_
          refine S_ (R_ior hO dX8_finger_143) ?_
          refine S_istore (L2 := fun x8 => [(6, .int x8), (0, .ref 183), (1, .int p1), (2, .int p2), (3, .int p3), (4, .int p4), (7, .int m7)]) hO dX8_finger_144 (Nat.le_of_ble_eq_true rfl) (fun _ => rfl) (fun x8 => ?_)
          refine S_iinc (L2 := fun x9 => [(7, .int x9), (6, .int x8), (0, .ref 183), (1, .int p1), (2, .int p2), (3, .int p3), (4, .int p4)]) (v := (1 : Int32)) hO dX8_finger_146 rfl (by decide) (Nat.le_of_ble_eq_true rfl) (fun _ => rfl) (fun x9 => ?_)
          refine S_ (R_goto (tgt := 83) hO dX8_finger_149 (by decide)) ?_
          refine S_sub [2, 3, 4, 5, 6, 1, 0] rfl ?_
          exact ih x8 x9 s5
      · refine S_iinc (L2 := fun x10 => [(7, .int x10), (0, .ref 183), (1, .int p1), (2, .int p2), (3, .int p3), (4, .int p4), (6, .int m6)]) (v := (1 : Int32)) hO dX8_finger_146 rfl (by decide) (Nat.le_of_ble_eq_true rfl) (fun _ => rfl) (fun x10 => ?_)
        refine S_ (R_goto (tgt := 83) hO dX8_finger_149 (by decide)) ?_
        refine S_sub [1, 2, 3, 4, 5, 6, 0] rfl ?_
        exact ih m6 x10 s2
    · refine S_ (R_aload_n hO dX8_finger_152 rfl) ?_
      refine S_ (R_iload hO dX8_finger_153 rfl) ?_
      refine S_callVI (rest := []) hO dX8_finger_155 (cs_X8_well m6 s0) (by omega) lk_X8_72 np_X8_well (rc_183 rfl) rfl (Nat.le_of_ble_eq_true rfl) (fun x11 s12 => ?_)
      exact S_iret rfl hO hQ dX8_finger_158 rfl
def f_X8_finger_41 (p1 : Int32) (p2 : Int32) (p3 : Int32) (p4 : Int32) (t0 : Int32) (s0 : Mem) : Option (Int32 × Mem) := lt (t0) fun x1 => if 0 ≤ x1 then (bd (f_X8_putAside s0) fun s3 => bd2 (f_X8_isSo p1 (((40 : Int32) * p2) + p3) p4 s3) fun x4 s5 => if x4 = 0 then (lt ((0 : Int32)) fun x8 => lt ((0 : Int32)) fun x9 => f_X8_finger_83 p1 p2 p3 p4 FU x8 x9 s5) else lt ((256 : Int32)) fun x6 => lt ((0 : Int32)) fun x7 => f_X8_finger_83 p1 p2 p3 p4 FU x6 x7 s5) else some (x1, s0)
theorem w_X8_finger_41 {X : CX} {Z : Option Value × Mem → Prop} (hO : OKX X false 6 MX8_finger) (hQ : OKS X Z) (p1 : Int32) (p2 : Int32) (p3 : Int32) (p4 : Int32) (t0 : Int32) (s0 : Mem) : SIM X MX8_finger wI Z 41 [(0, .ref 183), (1, .int p1), (2, .int p2), (3, .int p3), (4, .int p4)] [.int t0] s0 (f_X8_finger_41 p1 p2 p3 p4 t0 s0) := by
  unfold f_X8_finger_41
  refine S_istore (L2 := fun x1 => [(5, .int x1), (0, .ref 183), (1, .int p1), (2, .int p2), (3, .int p3), (4, .int p4)]) hO dX8_finger_41 (Nat.le_of_ble_eq_true rfl) (fun _ => rfl) (fun x1 => ?_)
  refine S_ (R_iload hO dX8_finger_43 rfl) ?_
  refine S_if_ge (tgt := 51) hO dX8_finger_45 (by decide) ?_ ?_
  · refine S_ (R_iload hO dX8_finger_48 rfl) ?_
    exact S_iret rfl hO hQ dX8_finger_50 rfl
  · refine S_ (R_aload_n hO dX8_finger_51 rfl) ?_
    refine S_callVV (rest := []) hO dX8_finger_52 (cs_X8_putAside s0) (by omega) lk_X8_196 np_X8_putAside (rc_183 rfl) rfl (Nat.le_of_ble_eq_true rfl) (fun s3 => ?_)
    refine S_ (R_aload_n hO dX8_finger_55 rfl) ?_
    refine S_ (R_iload_n hO dX8_finger_56 rfl) ?_
    refine S_ (R_bipush (v := (40 : Int32)) hO dX8_finger_57 (by decide)) ?_
    refine S_ (R_iload_n hO dX8_finger_59 rfl) ?_
    refine S_ (R_imul hO dX8_finger_60) ?_
    refine S_ (R_iload_n hO dX8_finger_61 rfl) ?_
    refine S_ (R_iadd hO dX8_finger_62) ?_
    refine S_ (R_iload hO dX8_finger_63 rfl) ?_
    refine S_callVI (rest := []) hO dX8_finger_65 (cs_X8_isSo p1 (((40 : Int32) * p2) + p3) p4 s3) (by omega) lk_X8_233 np_X8_isSo (rc_183 rfl) rfl (Nat.le_of_ble_eq_true rfl) (fun x4 s5 => ?_)
    refine S_if_eq (tgt := 77) hO dX8_finger_68 (by decide) ?_ ?_
    · refine S_ (R_sipush (v := (256 : Int32)) hO dX8_finger_71 (by decide)) ?_
      refine S_ (R_goto (tgt := 78) hO dX8_finger_74 (by decide)) ?_
      refine S_istore (L2 := fun x6 => [(6, .int x6), (5, .int x1), (0, .ref 183), (1, .int p1), (2, .int p2), (3, .int p3), (4, .int p4)]) hO dX8_finger_78 (Nat.le_of_ble_eq_true rfl) (fun _ => rfl) (fun x6 => ?_)
      refine S_ (R_iconst (v := (0 : Int32)) hO dX8_finger_80 (by decide)) ?_
      refine S_istore (L2 := fun x7 => [(7, .int x7), (6, .int x6), (5, .int x1), (0, .ref 183), (1, .int p1), (2, .int p2), (3, .int p3), (4, .int p4)]) hO dX8_finger_81 (Nat.le_of_ble_eq_true rfl) (fun _ => rfl) (fun x7 => ?_)
      refine S_sub [3, 4, 5, 6, 7, 1, 0] rfl ?_
      exact w_X8_finger_83 hO hQ p1 p2 p3 p4 FU x6 x7 s5
    · refine S_ (R_iconst (v := (0 : Int32)) hO dX8_finger_77 (by decide)) ?_
      refine S_istore (L2 := fun x8 => [(6, .int x8), (5, .int x1), (0, .ref 183), (1, .int p1), (2, .int p2), (3, .int p3), (4, .int p4)]) hO dX8_finger_78 (Nat.le_of_ble_eq_true rfl) (fun _ => rfl) (fun x8 => ?_)
      refine S_ (R_iconst (v := (0 : Int32)) hO dX8_finger_80 (by decide)) ?_
      refine S_istore (L2 := fun x9 => [(7, .int x9), (6, .int x8), (5, .int x1), (0, .ref 183), (1, .int p1), (2, .int p2), (3, .int p3), (4, .int p4)]) hO dX8_finger_81 (Nat.le_of_ble_eq_true rfl) (fun _ => rfl) (fun x9 => ?_)
      refine S_sub [3, 4, 5, 6, 7, 1, 0] rfl ?_
      exact w_X8_finger_83 hO hQ p1 p2 p3 p4 FU x8 x9 s5
def f_X8_finger (p1 : Int32) (p2 : Int32) (p3 : Int32) (p4 : Int32) (s0 : Mem) : Option (Int32 × Mem) := bd2 (f_X8_isHouse p1 s0) fun x1 s2 => if x1 = 0 then (f_X8_finger_41 p1 p2 p3 p4 (-1000001 : Int32) s2) else bd2 (f_X8_isRow p2 s2) fun x3 s4 => if x3 = 0 then (f_X8_finger_41 p1 p2 p3 p4 (-1000001 : Int32) s4) else bd2 (f_X8_in p4.toInt64 (1 : Int64) (12 : Int64) s4) fun x5 s6 => if x5 = 0 then (f_X8_finger_41 p1 p2 p3 p4 (-1000001 : Int32) s6) else bd2 (f_X8_lacks p2 p3 p4 s6) fun x7 s8 => f_X8_finger_41 p1 p2 p3 p4 x7 s8
theorem cs_X8_finger (p1 : Int32) (p2 : Int32) (p3 : Int32) (p4 : Int32) (s0 : Mem) : CS 6 MX8_finger [.ref 183, .int p1, .int p2, .int p3, .int p4] s0 ((f_X8_finger p1 p2 p3 p4 s0).map wI) := by
  refine CS.of (by decide +kernel) (Nat.le_of_ble_eq_true rfl) (fun X Z hO hQ => ?_)
  show SIM X MX8_finger wI Z 0 [(0, .ref 183), (1, .int p1), (2, .int p2), (3, .int p3), (4, .int p4)] [] s0 _
  unfold f_X8_finger
  refine S_ (R_aload_n hO dX8_finger_0 rfl) ?_
  refine S_ (R_iload_n hO dX8_finger_1 rfl) ?_
  refine S_callVI (rest := []) hO dX8_finger_2 (cs_X8_isHouse p1 s0) (by omega) lk_X8_175 np_X8_isHouse (rc_183 rfl) rfl (Nat.le_of_ble_eq_true rfl) (fun x1 s2 => ?_)
  refine S_if_eq (tgt := 28) hO dX8_finger_5 (by decide) ?_ ?_
  · refine S_ (R_iload_n hO dX8_finger_8 rfl) ?_
    refine S_callSI (rest := []) hO dX8_finger_9 (cs_X8_isRow p2 s2) (by omega) lk_X8_61 np_X8_isRow rfl (Nat.le_of_ble_eq_true rfl) (fun x3 s4 => ?_)
    refine S_if_eq (tgt := 28) hO dX8_finger_12 (by decide) ?_ ?_
    · refine S_ (R_iload hO dX8_finger_15 rfl) ?_
      refine S_ (R_i2l hO dX8_finger_17) ?_
      refine S_ (R_lconst (v := (1 : Int64)) hO dX8_finger_18 (by decide)) ?_
      refine S_ (R_ldc2 (v := (12 : Int64)) hO dX8_finger_19 kl_X8_237) ?_
      refine S_callSI (rest := []) hO dX8_finger_22 (cs_X8_in p4.toInt64 (1 : Int64) (12 : Int64) s4) (by omega) lk_X8_57 np_X8_in rfl (Nat.le_of_ble_eq_true rfl) (fun x5 s6 => ?_)
      refine S_if_ne (tgt := 33) hO dX8_finger_25 (by decide) ?_ ?_
      · refine S_ (R_ldc (v := (-1000001 : Int32)) hO dX8_finger_28 kc_X8_67) ?_
        refine S_ (R_goto (tgt := 41) hO dX8_finger_30 (by decide)) ?_
        refine S_sub [0, 1, 2, 3, 4] rfl ?_
        exact w_X8_finger_41 hO hQ p1 p2 p3 p4 (-1000001 : Int32) s6
      · refine S_ (R_aload_n hO dX8_finger_33 rfl) ?_
        refine S_ (R_iload_n hO dX8_finger_34 rfl) ?_
        refine S_ (R_iload_n hO dX8_finger_35 rfl) ?_
        refine S_ (R_iload hO dX8_finger_36 rfl) ?_
        refine S_callVI (rest := []) hO dX8_finger_38 (cs_X8_lacks p2 p3 p4 s6) (by omega) lk_X8_239 np_X8_lacks (rc_183 rfl) rfl (Nat.le_of_ble_eq_true rfl) (fun x7 s8 => ?_)
        refine S_sub [0, 1, 2, 3, 4] rfl ?_
        exact w_X8_finger_41 hO hQ p1 p2 p3 p4 x7 s8
    · refine S_ (R_ldc (v := (-1000001 : Int32)) hO dX8_finger_28 kc_X8_67) ?_
      refine S_ (R_goto (tgt := 41) hO dX8_finger_30 (by decide)) ?_
      refine S_sub [0, 1, 2, 3, 4] rfl ?_
      exact w_X8_finger_41 hO hQ p1 p2 p3 p4 (-1000001 : Int32) s4
  · refine S_ (R_ldc (v := (-1000001 : Int32)) hO dX8_finger_28 kc_X8_67) ?_
    refine S_ (R_goto (tgt := 41) hO dX8_finger_30 (by decide)) ?_
    refine S_sub [0, 1, 2, 3, 4] rfl ?_
    exact w_X8_finger_41 hO hQ p1 p2 p3 p4 (-1000001 : Int32) s2
def f_X8_lashes_81 (p1 : Int32) (p2 : Int32) (p3 : Int32) (p4 : Int32) (p5 : Int32) : Nat → Int32 → Int32 → Mem → Option (Int32 × Mem)
  | 0, _, _, _ => none
  | n + 1, m7, m8, s0 => if (30 : Int32) < m8 then (bd2 (f_X8_well m7 s0) fun x9 s10 => some (x9, s10)) else bd (f_X8_lashBy p2 m8 s0) fun s2 => bd2 (f_X8_isSo p1 (((40 : Int32) * p3) + p4) p5 s2) fun x3 s4 => if x3 = 0 then (lt (m7 ||| (0 : Int32)) fun x7 => lt (m8 + (1 : Int32)) fun x8 => f_X8_lashes_81 p1 p2 p3 p4 p5 n x7 x8 s4) else lt (m7 ||| ((1 : Int32) <<< ((m8 - (1 : Int32)) &&& 31))) fun x5 => lt (m8 + (1 : Int32)) fun x6 => f_X8_lashes_81 p1 p2 p3 p4 p5 n x5 x6 s4
theorem w_X8_lashes_81 {X : CX} {Z : Option Value × Mem → Prop} (hO : OKX X false 6 MX8_lashes) (hQ : OKS X Z) (p1 : Int32) (p2 : Int32) (p3 : Int32) (p4 : Int32) (p5 : Int32) : ∀ (n : Nat) (m7 : Int32) (m8 : Int32) (s0 : Mem), SIM X MX8_lashes wI Z 81 [(0, .ref 183), (1, .int p1), (2, .int p2), (3, .int p3), (4, .int p4), (5, .int p5), (7, .int m7), (8, .int m8)] [] s0 (f_X8_lashes_81 p1 p2 p3 p4 p5 n m7 m8 s0) := by
  intro n
  induction n with
  | zero => intros; exact S_none
  | succ n ih =>
    intro m7 m8 s0
    rw [f_X8_lashes_81]
    refine S_ (R_iload hO dX8_lashes_81 rfl) ?_
    refine S_ (R_bipush (v := (30 : Int32)) hO dX8_lashes_83 (by decide)) ?_
    refine S_icmp_gt (tgt := 133) hO dX8_lashes_85 (by decide) ?_ ?_
    · refine S_ (R_aload_n hO dX8_lashes_88 rfl) ?_
      refine S_ (R_iload_n hO dX8_lashes_89 rfl) ?_
      refine S_ (R_iload hO dX8_lashes_90 rfl) ?_
      refine S_callVV (rest := []) hO dX8_lashes_92 (cs_X8_lashBy p2 m8 s0) (by omega) lk_X8_178 np_X8_lashBy (rc_183 rfl) rfl (Nat.le_of_ble_eq_true rfl) (fun s2 => ?_)
      refine S_ (R_iload hO dX8_lashes_95 rfl) ?_
      refine S_ (R_aload_n hO dX8_lashes_97 rfl) ?_
      refine S_ (R_iload_n hO dX8_lashes_98 rfl) ?_
      refine S_ (R_bipush (v := (40 : Int32)) hO dX8_lashes_99 (by decide)) ?_
      refine S_ (R_iload_n hO dX8_lashes_101 rfl) ?_
      refine S_ (R_imul hO dX8_lashes_102) ?_
      refine S_ (R_iload hO dX8_lashes_103 rfl) ?_
      refine S_ (R_iadd hO dX8_lashes_105) ?_
      refine S_ (R_iload hO dX8_lashes_106 rfl) ?_
      refine S_callVI (rest := [.int m7]) hO dX8_lashes_108 (cs_X8_isSo p1 (((40 : Int32) * p3) + p4) p5 s2) (by omega) lk_X8_233 np_X8_isSo (rc_183 rfl) rfl (Nat.le_of_ble_eq_true rfl) (fun x3 s4 => ?_)
      refine S_if_eq (tgt := 123) hO dX8_lashes_111 (by decide) ?_ ?_
      · refine S_ (R_iconst (v := (1 : Int32)) hO dX8_lashes_114 (by decide)) ?_
        refine S_ (R_iload hO dX8_lashes_115 rfl) ?_
        refine S_ (R_iconst (v := (1 : Int32)) hO dX8_lashes_117 (by decide)) ?_
        refine S_ (R_isub hO dX8_lashes_118) ?_
        refine S_ (R_ishl hO dX8_lashes_119) ?_
        refine S_ (R_goto (tgt := 124) hO dX8_lashes_120 (by decide)) ?_
        refine S_ (R_ior hO dX8_lashes_124) ?_
        refine S_istore (L2 := fun x5 => [(7, .int x5), (0, .ref 183), (1, .int p1), (2, .int p2), (3, .int p3), (4, .int p4), (5, .int p5), (8, .int m8)]) hO dX8_lashes_125 (Nat.le_of_ble_eq_true rfl) (fun _ => rfl) (fun x5 => ?_)
        refine S_iinc (L2 := fun x6 => [(8, .int x6), (7, .int x5), (0, .ref 183), (1, .int p1), (2, .int p2), (3, .int p3), (4, .int p4), (5, .int p5)]) (v := (1 : Int32)) hO dX8_lashes_127 rfl (by decide) (Nat.le_of_ble_eq_true rfl) (fun _ => rfl) (fun x6 => ?_)
        refine S_ (R_goto (tgt := 81) hO dX8_lashes_130 (by decide)) ?_
        refine S_sub [2, 3, 4, 5, 6, 7, 1, 0] rfl ?_
        exact ih x5 x6 s4
      · refine S_ (R_iconst (v := (0 : Int32)) hO dX8_lashes_123 (by decide)) ?_
        refine S_ (R_ior hO dX8_lashes_124) ?_
        refine S_istore (L2 := fun x7 => [(7, .int x7), (0, .ref 183), (1, .int p1), (2, .int p2), (3, .int p3), (4, .int p4), (5, .int p5), (8, .int m8)]) hO dX8_lashes_125 (Nat.le_of_ble_eq_true rfl) (fun _ => rfl) (fun x7 => ?_)
        refine S_iinc (L2 := fun x8 => [(8, .int x8), (7, .int x7), (0, .ref 183), (1, .int p1), (2, .int p2), (3, .int p3), (4, .int p4), (5, .int p5)]) (v := (1 : Int32)) hO dX8_lashes_127 rfl (by decide) (Nat.le_of_ble_eq_true rfl) (fun _ => rfl) (fun x8 => ?_)
        refine S_ (R_goto (tgt := 81) hO dX8_lashes_130 (by decide)) ?_
        refine S_sub [2, 3, 4, 5, 6, 7, 1, 0] rfl ?_
        exact ih x7 x8 s4
    · refine S_ (R_aload_n hO dX8_lashes_133 rfl) ?_
      refine S_ (R_iload hO dX8_lashes_134 rfl) ?_
      refine S_callVI (rest := []) hO dX8_lashes_136 (cs_X8_well m7 s0) (by omega) lk_X8_72 np_X8_well (rc_183 rfl) rfl (Nat.le_of_ble_eq_true rfl) (fun x9 s10 => ?_)
      exact S_iret rfl hO hQ dX8_lashes_139 rfl
def f_X8_lashes_61 (p1 : Int32) (p2 : Int32) (p3 : Int32) (p4 : Int32) (p5 : Int32) (t0 : Int32) (s0 : Mem) : Option (Int32 × Mem) := lt (t0) fun x1 => if 0 ≤ x1 then (bd (f_X8_putAside s0) fun s3 => lt ((0 : Int32)) fun x4 => lt ((1 : Int32)) fun x5 => f_X8_lashes_81 p1 p2 p3 p4 p5 FU x4 x5 s3) else some (x1, s0)
theorem w_X8_lashes_61 {X : CX} {Z : Option Value × Mem → Prop} (hO : OKX X false 6 MX8_lashes) (hQ : OKS X Z) (p1 : Int32) (p2 : Int32) (p3 : Int32) (p4 : Int32) (p5 : Int32) (t0 : Int32) (s0 : Mem) : SIM X MX8_lashes wI Z 61 [(0, .ref 183), (1, .int p1), (2, .int p2), (3, .int p3), (4, .int p4), (5, .int p5)] [.int t0] s0 (f_X8_lashes_61 p1 p2 p3 p4 p5 t0 s0) := by
  unfold f_X8_lashes_61
  refine S_istore (L2 := fun x1 => [(6, .int x1), (0, .ref 183), (1, .int p1), (2, .int p2), (3, .int p3), (4, .int p4), (5, .int p5)]) hO dX8_lashes_61 (Nat.le_of_ble_eq_true rfl) (fun _ => rfl) (fun x1 => ?_)
  refine S_ (R_iload hO dX8_lashes_63 rfl) ?_
  refine S_if_ge (tgt := 71) hO dX8_lashes_65 (by decide) ?_ ?_
  · refine S_ (R_iload hO dX8_lashes_68 rfl) ?_
    exact S_iret rfl hO hQ dX8_lashes_70 rfl
  · refine S_ (R_aload_n hO dX8_lashes_71 rfl) ?_
    refine S_callVV (rest := []) hO dX8_lashes_72 (cs_X8_putAside s0) (by omega) lk_X8_196 np_X8_putAside (rc_183 rfl) rfl (Nat.le_of_ble_eq_true rfl) (fun s3 => ?_)
    refine S_ (R_iconst (v := (0 : Int32)) hO dX8_lashes_75 (by decide)) ?_
    refine S_istore (L2 := fun x4 => [(7, .int x4), (6, .int x1), (0, .ref 183), (1, .int p1), (2, .int p2), (3, .int p3), (4, .int p4), (5, .int p5)]) hO dX8_lashes_76 (Nat.le_of_ble_eq_true rfl) (fun _ => rfl) (fun x4 => ?_)
    refine S_ (R_iconst (v := (1 : Int32)) hO dX8_lashes_78 (by decide)) ?_
    refine S_istore (L2 := fun x5 => [(8, .int x5), (7, .int x4), (6, .int x1), (0, .ref 183), (1, .int p1), (2, .int p2), (3, .int p3), (4, .int p4), (5, .int p5)]) hO dX8_lashes_79 (Nat.le_of_ble_eq_true rfl) (fun _ => rfl) (fun x5 => ?_)
    refine S_sub [3, 4, 5, 6, 7, 8, 1, 0] rfl ?_
    exact w_X8_lashes_81 hO hQ p1 p2 p3 p4 p5 FU x4 x5 s3
def f_X8_lashes (p1 : Int32) (p2 : Int32) (p3 : Int32) (p4 : Int32) (p5 : Int32) (s0 : Mem) : Option (Int32 × Mem) := bd2 (f_X8_isHouse p1 s0) fun x1 s2 => if x1 = 0 then (some ((-1000001 : Int32), s2)) else bd2 (f_X8_isHouse p2 s2) fun x3 s4 => if x3 = 0 then (some ((-1000001 : Int32), s4)) else bd2 (f_X8_isRow p3 s4) fun x5 s6 => if x5 = 0 then (some ((-1000001 : Int32), s6)) else bd2 (f_X8_in p5.toInt64 (1 : Int64) (12 : Int64) s6) fun x7 s8 => if x7 = 0 then (some ((-1000001 : Int32), s8)) else bd2 (f_X8_stands p2 s8) fun x9 s10 => if x9 = 0 then (f_X8_lashes_61 p1 p2 p3 p4 p5 (-1000002 : Int32) s10) else bd2 (f_X8_lacks p3 p4 p5 s10) fun x11 s12 => f_X8_lashes_61 p1 p2 p3 p4 p5 x11 s12
theorem cs_X8_lashes (p1 : Int32) (p2 : Int32) (p3 : Int32) (p4 : Int32) (p5 : Int32) (s0 : Mem) : CS 6 MX8_lashes [.ref 183, .int p1, .int p2, .int p3, .int p4, .int p5] s0 ((f_X8_lashes p1 p2 p3 p4 p5 s0).map wI) := by
  refine CS.of (by decide +kernel) (Nat.le_of_ble_eq_true rfl) (fun X Z hO hQ => ?_)
  show SIM X MX8_lashes wI Z 0 [(0, .ref 183), (1, .int p1), (2, .int p2), (3, .int p3), (4, .int p4), (5, .int p5)] [] s0 _
  unfold f_X8_lashes
  refine S_ (R_aload_n hO dX8_lashes_0 rfl) ?_
  refine S_ (R_iload_n hO dX8_lashes_1 rfl) ?_
  refine S_callVI (rest := []) hO dX8_lashes_2 (cs_X8_isHouse p1 s0) (by omega) lk_X8_175 np_X8_isHouse (rc_183 rfl) rfl (Nat.le_of_ble_eq_true rfl) (fun x1 s2 => ?_)
  refine S_if_eq (tgt := 36) hO dX8_lashes_5 (by decide) ?_ ?_
  · refine S_ (R_aload_n hO dX8_lashes_8 rfl) ?_
    refine S_ (R_iload_n hO dX8_lashes_9 rfl) ?_
    refine S_callVI (rest := []) hO dX8_lashes_10 (cs_X8_isHouse p2 s2) (by omega) lk_X8_175 np_X8_isHouse (rc_183 rfl) rfl (Nat.le_of_ble_eq_true rfl) (fun x3 s4 => ?_)
    refine S_if_eq (tgt := 36) hO dX8_lashes_13 (by decide) ?_ ?_
    · refine S_ (R_iload_n hO dX8_lashes_16 rfl) ?_
      refine S_callSI (rest := []) hO dX8_lashes_17 (cs_X8_isRow p3 s4) (by omega) lk_X8_61 np_X8_isRow rfl (Nat.le_of_ble_eq_true rfl) (fun x5 s6 => ?_)
      refine S_if_eq (tgt := 36) hO dX8_lashes_20 (by decide) ?_ ?_
      · refine S_ (R_iload hO dX8_lashes_23 rfl) ?_
        refine S_ (R_i2l hO dX8_lashes_25) ?_
        refine S_ (R_lconst (v := (1 : Int64)) hO dX8_lashes_26 (by decide)) ?_
        refine S_ (R_ldc2 (v := (12 : Int64)) hO dX8_lashes_27 kl_X8_237) ?_
        refine S_callSI (rest := []) hO dX8_lashes_30 (cs_X8_in p5.toInt64 (1 : Int64) (12 : Int64) s6) (by omega) lk_X8_57 np_X8_in rfl (Nat.le_of_ble_eq_true rfl) (fun x7 s8 => ?_)
        refine S_if_ne (tgt := 39) hO dX8_lashes_33 (by decide) ?_ ?_
        · refine S_ (R_ldc (v := (-1000001 : Int32)) hO dX8_lashes_36 kc_X8_67) ?_
          exact S_iret rfl hO hQ dX8_lashes_38 rfl
        · refine S_ (R_aload_n hO dX8_lashes_39 rfl) ?_
          refine S_ (R_iload_n hO dX8_lashes_40 rfl) ?_
          refine S_callVI (rest := []) hO dX8_lashes_41 (cs_X8_stands p2 s8) (by omega) lk_X8_142 np_X8_stands (rc_183 rfl) rfl (Nat.le_of_ble_eq_true rfl) (fun x9 s10 => ?_)
          refine S_if_eq (tgt := 59) hO dX8_lashes_44 (by decide) ?_ ?_
          · refine S_ (R_aload_n hO dX8_lashes_47 rfl) ?_
            refine S_ (R_iload_n hO dX8_lashes_48 rfl) ?_
            refine S_ (R_iload hO dX8_lashes_49 rfl) ?_
            refine S_ (R_iload hO dX8_lashes_51 rfl) ?_
            refine S_callVI (rest := []) hO dX8_lashes_53 (cs_X8_lacks p3 p4 p5 s10) (by omega) lk_X8_239 np_X8_lacks (rc_183 rfl) rfl (Nat.le_of_ble_eq_true rfl) (fun x11 s12 => ?_)
            refine S_ (R_goto (tgt := 61) hO dX8_lashes_56 (by decide)) ?_
            refine S_sub [0, 1, 2, 3, 4, 5] rfl ?_
            exact w_X8_lashes_61 hO hQ p1 p2 p3 p4 p5 x11 s12
          · refine S_ (R_ldc (v := (-1000002 : Int32)) hO dX8_lashes_59 kc_X8_166) ?_
            refine S_sub [0, 1, 2, 3, 4, 5] rfl ?_
            exact w_X8_lashes_61 hO hQ p1 p2 p3 p4 p5 (-1000002 : Int32) s10
      · refine S_ (R_ldc (v := (-1000001 : Int32)) hO dX8_lashes_36 kc_X8_67) ?_
        exact S_iret rfl hO hQ dX8_lashes_38 rfl
    · refine S_ (R_ldc (v := (-1000001 : Int32)) hO dX8_lashes_36 kc_X8_67) ?_
      exact S_iret rfl hO hQ dX8_lashes_38 rfl
  · refine S_ (R_ldc (v := (-1000001 : Int32)) hO dX8_lashes_36 kc_X8_67) ?_
    exact S_iret rfl hO hQ dX8_lashes_38 rfl
def f_X8_crack_159 (p1 : Int32) (p2 : Int32) (p3 : Int32) (p4 : Int32) (K89 : Int32 → Int64 → Int64 → Int32 → Mem → Option (Int64 × Mem)) (K112 : Int32 → Int64 → Int64 → Int32 → Int64 → Int32 → Mem → Option (Int64 × Mem)) (m5 : Int32) (m6 : Int64) (m8 : Int64) (m10 : Int32) (m13 : Int32) (t0 : Int64) (t1 : Int64) (s0 : Mem) : Option (Int64 × Mem) := lt (t1 * t0) fun x1 => bd2 (f_X8_has m10 m13 s0) fun x2 s3 => if x2 = 0 then (ing ((21 : Int32) + m13) 29 <| ing ((21 : Int32) + m13) 29 <| lt (st2 s3 187 ((21 : Int32) + m13).toNatClampNeg (s3 187 ((21 : Int32) + m13).toNatClampNeg)) fun s6 => lt (m13 + (1 : Int32)) fun x7 => K112 m5 m6 m8 m10 x1 x7 s6) else ing ((21 : Int32) + m13) 29 <| ing ((21 : Int32) + m13) 29 <| lt (st2 s3 187 ((21 : Int32) + m13).toNatClampNeg ((s3 187 ((21 : Int32) + m13).toNatClampNeg) / (2 : Int32))) fun s4 => lt (m13 + (1 : Int32)) fun x5 => K112 m5 m6 m8 m10 x1 x5 s4
theorem w_X8_crack_159 {X : CX} {Z : Option Value × Mem → Prop} (hO : OKX X false 7 MX8_crack) (hQ : OKS X Z) (p1 : Int32) (p2 : Int32) (p3 : Int32) (p4 : Int32) (K89 : Int32 → Int64 → Int64 → Int32 → Mem → Option (Int64 × Mem)) (h89 : ∀ m5 m6 m8 m10 τ, SIM X MX8_crack wL Z 89 [(0, .ref 183), (1, .int p1), (2, .int p2), (3, .int p3), (4, .int p4), (5, .int m5), (6, .long m6), (8, .long m8), (10, .int m10)] [] τ (K89 m5 m6 m8 m10 τ)) (K112 : Int32 → Int64 → Int64 → Int32 → Int64 → Int32 → Mem → Option (Int64 × Mem)) (h112 : ∀ m5 m6 m8 m10 m11 m13 τ, SIM X MX8_crack wL Z 112 [(0, .ref 183), (1, .int p1), (2, .int p2), (3, .int p3), (4, .int p4), (5, .int m5), (6, .long m6), (8, .long m8), (10, .int m10), (11, .long m11), (13, .int m13)] [] τ (K112 m5 m6 m8 m10 m11 m13 τ)) (m5 : Int32) (m6 : Int64) (m8 : Int64) (m10 : Int32) (m13 : Int32) (t0 : Int64) (t1 : Int64) (s0 : Mem) : SIM X MX8_crack wL Z 159 [(0, .ref 183), (1, .int p1), (2, .int p2), (3, .int p3), (4, .int p4), (5, .int m5), (6, .long m6), (8, .long m8), (10, .int m10), (13, .int m13)] [.long t0, .long t1] s0 (f_X8_crack_159 p1 p2 p3 p4 K89 K112 m5 m6 m8 m10 m13 t0 t1 s0) := by
  unfold f_X8_crack_159
  refine S_ (R_lmul hO dX8_crack_159) ?_
  refine S_lstore (L2 := fun x1 => [(11, .long x1), (0, .ref 183), (1, .int p1), (2, .int p2), (3, .int p3), (4, .int p4), (5, .int m5), (6, .long m6), (8, .long m8), (10, .int m10), (13, .int m13)]) hO dX8_crack_160 (Nat.le_of_ble_eq_true rfl) (fun _ => rfl) (fun x1 => ?_)
  refine S_ (R_aload_n hO dX8_crack_162 rfl) ?_
  refine S_getR hO dX8_crack_163 fl_X8_19 sh_183 rfl ?_
  refine S_ (R_bipush (v := (21 : Int32)) hO dX8_crack_166 (by decide)) ?_
  refine S_ (R_iload hO dX8_crack_168 rfl) ?_
  refine S_ (R_iadd hO dX8_crack_170) ?_
  refine S_ (R_iload hO dX8_crack_171 rfl) ?_
  refine S_ (R_iload hO dX8_crack_173 rfl) ?_
  refine S_callSI (rest := [.int ((21 : Int32) + m13), .ref 187]) hO dX8_crack_175 (cs_X8_has m10 m13 s0) (by omega) lk_X8_145 np_X8_has rfl (Nat.le_of_ble_eq_true rfl) (fun x2 s3 => ?_)
  refine S_if_eq (tgt := 196) hO dX8_crack_178 (by decide) ?_ ?_
  · refine S_ (R_aload_n hO dX8_crack_181 rfl) ?_
    refine S_getR hO dX8_crack_182 fl_X8_19 sh_183 rfl ?_
    refine S_ (R_bipush (v := (21 : Int32)) hO dX8_crack_185 (by decide)) ?_
    refine S_ (R_iload hO dX8_crack_187 rfl) ?_
    refine S_ (R_iadd hO dX8_crack_189) ?_
    refine S_iald hO dX8_crack_190 sh_187 ?_
    refine S_ (R_iconst (v := (2 : Int32)) hO dX8_crack_191 (by decide)) ?_
    refine S_ (R_idiv hO dX8_crack_192 (by decide)) ?_
    refine S_ (R_goto (tgt := 206) hO dX8_crack_193 (by decide)) ?_
    refine S_iast hO dX8_crack_206 sh_187 (fun s4 => ?_)
    refine S_iinc (L2 := fun x5 => [(13, .int x5), (11, .long x1), (0, .ref 183), (1, .int p1), (2, .int p2), (3, .int p3), (4, .int p4), (5, .int m5), (6, .long m6), (8, .long m8), (10, .int m10)]) (v := (1 : Int32)) hO dX8_crack_207 rfl (by decide) (Nat.le_of_ble_eq_true rfl) (fun _ => rfl) (fun x5 => ?_)
    refine S_ (R_goto (tgt := 112) hO dX8_crack_210 (by decide)) ?_
    refine S_sub [2, 3, 4, 5, 6, 7, 8, 9, 10, 1, 0] rfl ?_
    exact h112 m5 m6 m8 m10 x1 x5 s4
  · refine S_ (R_aload_n hO dX8_crack_196 rfl) ?_
    refine S_getR hO dX8_crack_197 fl_X8_19 sh_183 rfl ?_
    refine S_ (R_bipush (v := (21 : Int32)) hO dX8_crack_200 (by decide)) ?_
    refine S_ (R_iload hO dX8_crack_202 rfl) ?_
    refine S_ (R_iadd hO dX8_crack_204) ?_
    refine S_iald hO dX8_crack_205 sh_187 ?_
    refine S_iast hO dX8_crack_206 sh_187 (fun s6 => ?_)
    refine S_iinc (L2 := fun x7 => [(13, .int x7), (11, .long x1), (0, .ref 183), (1, .int p1), (2, .int p2), (3, .int p3), (4, .int p4), (5, .int m5), (6, .long m6), (8, .long m8), (10, .int m10)]) (v := (1 : Int32)) hO dX8_crack_207 rfl (by decide) (Nat.le_of_ble_eq_true rfl) (fun _ => rfl) (fun x7 => ?_)
    refine S_ (R_goto (tgt := 112) hO dX8_crack_210 (by decide)) ?_
    refine S_sub [2, 3, 4, 5, 6, 7, 8, 9, 10, 1, 0] rfl ?_
    exact h112 m5 m6 m8 m10 x1 x7 s6
def f_X8_crack_112 (p1 : Int32) (p2 : Int32) (p3 : Int32) (p4 : Int32) (K89 : Int32 → Int64 → Int64 → Int32 → Mem → Option (Int64 × Mem)) : Nat → Int32 → Int64 → Int64 → Int32 → Int64 → Int32 → Mem → Option (Int64 × Mem)
  | 0, _, _, _, _, _, _, _ => none
  | n + 1, m5, m6, m8, m10, m11, m13, s0 => ing (0 : Int32) 29 <| if (s0 187 (0 : Int32).toNatClampNeg) ≤ m13 then (bd2 (f_X8_leftBehind p2 s0) fun x5 s6 => bd2 (f_X8_has x5 p1 s6) fun x7 s8 => if x7 = 0 then (lt (m6 + (0 : Int64)) fun x11 => lt (m10 + (1 : Int32)) fun x12 => K89 m5 x11 m8 x12 s8) else lt (m6 + m11) fun x9 => lt (m10 + (1 : Int32)) fun x10 => K89 m5 x9 m8 x10 s8) else bd2 (f_X8_has m5 m13 s0) fun x1 s2 => if x1 = 0 then (f_X8_crack_159 p1 p2 p3 p4 K89 (f_X8_crack_112 p1 p2 p3 p4 K89 n) m5 m6 m8 m10 m13 (1 : Int64) m11 s2) else bd2 (f_X8_has m10 m13 s2) fun x3 s4 => if x3 = 0 then (f_X8_crack_159 p1 p2 p3 p4 K89 (f_X8_crack_112 p1 p2 p3 p4 K89 n) m5 m6 m8 m10 m13 (((10 : Int32) - p3).toInt64) m11 s4) else f_X8_crack_159 p1 p2 p3 p4 K89 (f_X8_crack_112 p1 p2 p3 p4 K89 n) m5 m6 m8 m10 m13 p3.toInt64 m11 s4
theorem w_X8_crack_112 {X : CX} {Z : Option Value × Mem → Prop} (hO : OKX X false 7 MX8_crack) (hQ : OKS X Z) (p1 : Int32) (p2 : Int32) (p3 : Int32) (p4 : Int32) (K89 : Int32 → Int64 → Int64 → Int32 → Mem → Option (Int64 × Mem)) (h89 : ∀ m5 m6 m8 m10 τ, SIM X MX8_crack wL Z 89 [(0, .ref 183), (1, .int p1), (2, .int p2), (3, .int p3), (4, .int p4), (5, .int m5), (6, .long m6), (8, .long m8), (10, .int m10)] [] τ (K89 m5 m6 m8 m10 τ)) : ∀ (n : Nat) (m5 : Int32) (m6 : Int64) (m8 : Int64) (m10 : Int32) (m11 : Int64) (m13 : Int32) (s0 : Mem), SIM X MX8_crack wL Z 112 [(0, .ref 183), (1, .int p1), (2, .int p2), (3, .int p3), (4, .int p4), (5, .int m5), (6, .long m6), (8, .long m8), (10, .int m10), (11, .long m11), (13, .int m13)] [] s0 (f_X8_crack_112 p1 p2 p3 p4 K89 n m5 m6 m8 m10 m11 m13 s0) := by
  intro n
  induction n with
  | zero => intros; exact S_none
  | succ n ih =>
    intro m5 m6 m8 m10 m11 m13 s0
    rw [f_X8_crack_112]
    refine S_ (R_iload hO dX8_crack_112 rfl) ?_
    refine S_ (R_aload_n hO dX8_crack_114 rfl) ?_
    refine S_getR hO dX8_crack_115 fl_X8_19 sh_183 rfl ?_
    refine S_ (R_iconst (v := (0 : Int32)) hO dX8_crack_118 (by decide)) ?_
    refine S_iald hO dX8_crack_119 sh_187 ?_
    refine S_icmp_ge (tgt := 213) hO dX8_crack_120 (by decide) ?_ ?_
    · refine S_ (R_lload hO dX8_crack_123 rfl) ?_
      refine S_ (R_iload hO dX8_crack_125 rfl) ?_
      refine S_ (R_iload hO dX8_crack_127 rfl) ?_
      refine S_callSI (rest := [.long m11]) hO dX8_crack_129 (cs_X8_has m5 m13 s0) (by omega) lk_X8_145 np_X8_has rfl (Nat.le_of_ble_eq_true rfl) (fun x1 s2 => ?_)
      refine S_if_ne (tgt := 139) hO dX8_crack_132 (by decide) ?_ ?_
      · refine S_ (R_lconst (v := (1 : Int64)) hO dX8_crack_135 (by decide)) ?_
        refine S_ (R_goto (tgt := 159) hO dX8_crack_136 (by decide)) ?_
        refine S_sub [0, 1, 2, 3, 4, 5, 6, 7, 8, 10] rfl ?_
        exact w_X8_crack_159 hO hQ p1 p2 p3 p4 K89 h89 (f_X8_crack_112 p1 p2 p3 p4 K89 n) ih m5 m6 m8 m10 m13 (1 : Int64) m11 s2
      · refine S_ (R_iload hO dX8_crack_139 rfl) ?_
        refine S_ (R_iload hO dX8_crack_141 rfl) ?_
        refine S_callSI (rest := [.long m11]) hO dX8_crack_143 (cs_X8_has m10 m13 s2) (by omega) lk_X8_145 np_X8_has rfl (Nat.le_of_ble_eq_true rfl) (fun x3 s4 => ?_)
        refine S_if_eq (tgt := 154) hO dX8_crack_146 (by decide) ?_ ?_
        · refine S_ (R_iload_n hO dX8_crack_149 rfl) ?_
          refine S_ (R_i2l hO dX8_crack_150) ?_
          refine S_ (R_goto (tgt := 159) hO dX8_crack_151 (by decide)) ?_
          refine S_sub [0, 1, 2, 3, 4, 5, 6, 7, 8, 10] rfl ?_
          exact w_X8_crack_159 hO hQ p1 p2 p3 p4 K89 h89 (f_X8_crack_112 p1 p2 p3 p4 K89 n) ih m5 m6 m8 m10 m13 p3.toInt64 m11 s4
        · refine S_ (R_bipush (v := (10 : Int32)) hO dX8_crack_154 (by decide)) ?_
          refine S_ (R_iload_n hO dX8_crack_156 rfl) ?_
          refine S_ (R_isub hO dX8_crack_157) ?_
          refine S_ (R_i2l hO dX8_crack_158) ?_
          refine S_sub [0, 1, 2, 3, 4, 5, 6, 7, 8, 10] rfl ?_
          exact w_X8_crack_159 hO hQ p1 p2 p3 p4 K89 h89 (f_X8_crack_112 p1 p2 p3 p4 K89 n) ih m5 m6 m8 m10 m13 (((10 : Int32) - p3).toInt64) m11 s4
    · refine S_ (R_lload hO dX8_crack_213 rfl) ?_
      refine S_ (R_aload_n hO dX8_crack_215 rfl) ?_
      refine S_ (R_iload_n hO dX8_crack_216 rfl) ?_
      refine S_callVI (rest := [.long m6]) hO dX8_crack_217 (cs_X8_leftBehind p2 s0) (by omega) lk_X8_209 np_X8_leftBehind (rc_183 rfl) rfl (Nat.le_of_ble_eq_true rfl) (fun x5 s6 => ?_)
      refine S_ (R_iload_n hO dX8_crack_220 rfl) ?_
      refine S_callSI (rest := [.long m6]) hO dX8_crack_221 (cs_X8_has x5 p1 s6) (by omega) lk_X8_145 np_X8_has rfl (Nat.le_of_ble_eq_true rfl) (fun x7 s8 => ?_)
      refine S_if_eq (tgt := 232) hO dX8_crack_224 (by decide) ?_ ?_
      · refine S_ (R_lload hO dX8_crack_227 rfl) ?_
        refine S_ (R_goto (tgt := 233) hO dX8_crack_229 (by decide)) ?_
        refine S_ (R_ladd hO dX8_crack_233) ?_
        refine S_lstore (L2 := fun x9 => [(6, .long x9), (0, .ref 183), (1, .int p1), (2, .int p2), (3, .int p3), (4, .int p4), (5, .int m5), (8, .long m8), (10, .int m10), (11, .long m11), (13, .int m13)]) hO dX8_crack_234 (Nat.le_of_ble_eq_true rfl) (fun _ => rfl) (fun x9 => ?_)
        refine S_iinc (L2 := fun x10 => [(10, .int x10), (6, .long x9), (0, .ref 183), (1, .int p1), (2, .int p2), (3, .int p3), (4, .int p4), (5, .int m5), (8, .long m8), (11, .long m11), (13, .int m13)]) (v := (1 : Int32)) hO dX8_crack_236 rfl (by decide) (Nat.le_of_ble_eq_true rfl) (fun _ => rfl) (fun x10 => ?_)
        refine S_ (R_goto (tgt := 89) hO dX8_crack_239 (by decide)) ?_
        refine S_sub [2, 3, 4, 5, 6, 7, 1, 8, 0] rfl ?_
        exact h89 m5 x9 m8 x10 s8
      · refine S_ (R_lconst (v := (0 : Int64)) hO dX8_crack_232 (by decide)) ?_
        refine S_ (R_ladd hO dX8_crack_233) ?_
        refine S_lstore (L2 := fun x11 => [(6, .long x11), (0, .ref 183), (1, .int p1), (2, .int p2), (3, .int p3), (4, .int p4), (5, .int m5), (8, .long m8), (10, .int m10), (11, .long m11), (13, .int m13)]) hO dX8_crack_234 (Nat.le_of_ble_eq_true rfl) (fun _ => rfl) (fun x11 => ?_)
        refine S_iinc (L2 := fun x12 => [(10, .int x12), (6, .long x11), (0, .ref 183), (1, .int p1), (2, .int p2), (3, .int p3), (4, .int p4), (5, .int m5), (8, .long m8), (11, .long m11), (13, .int m13)]) (v := (1 : Int32)) hO dX8_crack_236 rfl (by decide) (Nat.le_of_ble_eq_true rfl) (fun _ => rfl) (fun x12 => ?_)
        refine S_ (R_goto (tgt := 89) hO dX8_crack_239 (by decide)) ?_
        refine S_sub [2, 3, 4, 5, 6, 7, 1, 8, 0] rfl ?_
        exact h89 m5 x11 m8 x12 s8
def f_X8_crack_250 (p1 : Int32) (p2 : Int32) (p3 : Int32) (p4 : Int32) : Nat → Int64 → Int64 → Int64 → Int64 → Mem → Option (Int64 × Mem)
  | 0, _, _, _, _, _ => none
  | n + 1, m6, m8, m10, m12, s0 => if (lg_cmp m12 (0 : Int64)) = 0 then (if p4 = 0 then (gd (¬ m10 = 0) <| some (m6 / m10, s0)) else gd (¬ m10 = 0) <| some (m8 / m10, s0)) else gd (¬ m12 = 0) <| lt (m10 - m10 / m12 * m12) fun x1 => lt (m12) fun x2 => lt (x1) fun x3 => f_X8_crack_250 p1 p2 p3 p4 n m6 m8 x2 x3 s0
theorem w_X8_crack_250 {X : CX} {Z : Option Value × Mem → Prop} (hO : OKX X false 7 MX8_crack) (hQ : OKS X Z) (p1 : Int32) (p2 : Int32) (p3 : Int32) (p4 : Int32) : ∀ (n : Nat) (m6 : Int64) (m8 : Int64) (m10 : Int64) (m12 : Int64) (s0 : Mem), SIM X MX8_crack wL Z 250 [(4, .int p4), (6, .long m6), (8, .long m8), (10, .long m10), (12, .long m12)] [] s0 (f_X8_crack_250 p1 p2 p3 p4 n m6 m8 m10 m12 s0) := by
  intro n
  induction n with
  | zero => intros; exact S_none
  | succ n ih =>
    intro m6 m8 m10 m12 s0
    rw [f_X8_crack_250]
    refine S_ (R_lload hO dX8_crack_250 rfl) ?_
    refine S_ (R_lconst (v := (0 : Int64)) hO dX8_crack_252 (by decide)) ?_
    refine S_ (R_lcmp hO dX8_crack_253) ?_
    refine S_if_eq (tgt := 275) hO dX8_crack_254 (by decide) ?_ ?_
    · refine S_ (R_lload hO dX8_crack_257 rfl) ?_
      refine S_ (R_lload hO dX8_crack_259 rfl) ?_
      refine S_lrem hO dX8_crack_261 ?_
      refine S_lstore (L2 := fun x1 => [(14, .long x1), (4, .int p4), (6, .long m6), (8, .long m8), (10, .long m10), (12, .long m12)]) hO dX8_crack_262 (Nat.le_of_ble_eq_true rfl) (fun _ => rfl) (fun x1 => ?_)
      refine S_ (R_lload hO dX8_crack_264 rfl) ?_
      refine S_lstore (L2 := fun x2 => [(10, .long x2), (14, .long x1), (4, .int p4), (6, .long m6), (8, .long m8), (12, .long m12)]) hO dX8_crack_266 (Nat.le_of_ble_eq_true rfl) (fun _ => rfl) (fun x2 => ?_)
      refine S_ (R_lload hO dX8_crack_268 rfl) ?_
      refine S_lstore (L2 := fun x3 => [(12, .long x3), (10, .long x2), (14, .long x1), (4, .int p4), (6, .long m6), (8, .long m8)]) hO dX8_crack_270 (Nat.le_of_ble_eq_true rfl) (fun _ => rfl) (fun x3 => ?_)
      refine S_ (R_goto (tgt := 250) hO dX8_crack_272 (by decide)) ?_
      refine S_sub [3, 4, 5, 1, 0] rfl ?_
      exact ih m6 m8 x2 x3 s0
    · refine S_ (R_iload hO dX8_crack_275 rfl) ?_
      refine S_if_ne (tgt := 288) hO dX8_crack_277 (by decide) ?_ ?_
      · refine S_ (R_lload hO dX8_crack_280 rfl) ?_
        refine S_ (R_lload hO dX8_crack_282 rfl) ?_
        refine S_ldiv hO dX8_crack_284 ?_
        refine S_ (R_goto (tgt := 293) hO dX8_crack_285 (by decide)) ?_
        exact S_lret rfl hO hQ dX8_crack_293 rfl
      · refine S_ (R_lload hO dX8_crack_288 rfl) ?_
        refine S_ (R_lload hO dX8_crack_290 rfl) ?_
        refine S_ldiv hO dX8_crack_292 ?_
        exact S_lret rfl hO hQ dX8_crack_293 rfl
def f_X8_crack_89 (p1 : Int32) (p2 : Int32) (p3 : Int32) (p4 : Int32) : Nat → Int32 → Int64 → Int64 → Int32 → Mem → Option (Int64 × Mem)
  | 0, _, _, _, _, _ => none
  | n + 1, m5, m6, m8, m10, s0 => if m5 < m10 then (lt (m6) fun x4 => lt (m8) fun x5 => f_X8_crack_250 p1 p2 p3 p4 FU m6 m8 x4 x5 s0) else if (m10 &&& (m5 ^^^ (-1 : Int32))) = 0 then (lt ((1 : Int64)) fun x1 => lt ((0 : Int32)) fun x2 => f_X8_crack_112 p1 p2 p3 p4 (f_X8_crack_89 p1 p2 p3 p4 n) FU m5 m6 m8 m10 x1 x2 s0) else lt (m10 + (1 : Int32)) fun x3 => f_X8_crack_89 p1 p2 p3 p4 n m5 m6 m8 x3 s0
theorem w_X8_crack_89 {X : CX} {Z : Option Value × Mem → Prop} (hO : OKX X false 7 MX8_crack) (hQ : OKS X Z) (p1 : Int32) (p2 : Int32) (p3 : Int32) (p4 : Int32) : ∀ (n : Nat) (m5 : Int32) (m6 : Int64) (m8 : Int64) (m10 : Int32) (s0 : Mem), SIM X MX8_crack wL Z 89 [(0, .ref 183), (1, .int p1), (2, .int p2), (3, .int p3), (4, .int p4), (5, .int m5), (6, .long m6), (8, .long m8), (10, .int m10)] [] s0 (f_X8_crack_89 p1 p2 p3 p4 n m5 m6 m8 m10 s0) := by
  intro n
  induction n with
  | zero => intros; exact S_none
  | succ n ih =>
    intro m5 m6 m8 m10 s0
    rw [f_X8_crack_89]
    refine S_ (R_iload hO dX8_crack_89 rfl) ?_
    refine S_ (R_iload hO dX8_crack_91 rfl) ?_
    refine S_icmp_gt (tgt := 242) hO dX8_crack_93 (by decide) ?_ ?_
    · refine S_ (R_iload hO dX8_crack_96 rfl) ?_
      refine S_ (R_iload hO dX8_crack_98 rfl) ?_
      refine S_ (R_iconst (v := (-1 : Int32)) hO dX8_crack_100 (by decide)) ?_
      refine S_ (R_ixor hO dX8_crack_101) ?_
      refine S_ (R_iand hO dX8_crack_102) ?_
      refine S_if_ne (tgt := 236) hO dX8_crack_103 (by decide) ?_ ?_
      · refine S_ (R_lconst (v := (1 : Int64)) hO dX8_crack_106 (by decide)) ?_
        refine S_lstore (L2 := fun x1 => [(11, .long x1), (0, .ref 183), (1, .int p1), (2, .int p2), (3, .int p3), (4, .int p4), (5, .int m5), (6, .long m6), (8, .long m8), (10, .int m10)]) hO dX8_crack_107 (Nat.le_of_ble_eq_true rfl) (fun _ => rfl) (fun x1 => ?_)
        refine S_ (R_iconst (v := (0 : Int32)) hO dX8_crack_109 (by decide)) ?_
        refine S_istore (L2 := fun x2 => [(13, .int x2), (11, .long x1), (0, .ref 183), (1, .int p1), (2, .int p2), (3, .int p3), (4, .int p4), (5, .int m5), (6, .long m6), (8, .long m8), (10, .int m10)]) hO dX8_crack_110 (Nat.le_of_ble_eq_true rfl) (fun _ => rfl) (fun x2 => ?_)
        refine S_sub [2, 3, 4, 5, 6, 7, 8, 9, 10, 1, 0] rfl ?_
        exact w_X8_crack_112 hO hQ p1 p2 p3 p4 (f_X8_crack_89 p1 p2 p3 p4 n) ih FU m5 m6 m8 m10 x1 x2 s0
      · refine S_iinc (L2 := fun x3 => [(10, .int x3), (0, .ref 183), (1, .int p1), (2, .int p2), (3, .int p3), (4, .int p4), (5, .int m5), (6, .long m6), (8, .long m8)]) (v := (1 : Int32)) hO dX8_crack_236 rfl (by decide) (Nat.le_of_ble_eq_true rfl) (fun _ => rfl) (fun x3 => ?_)
        refine S_ (R_goto (tgt := 89) hO dX8_crack_239 (by decide)) ?_
        refine S_sub [1, 2, 3, 4, 5, 6, 7, 8, 0] rfl ?_
        exact ih m5 m6 m8 x3 s0
    · refine S_ (R_lload hO dX8_crack_242 rfl) ?_
      refine S_lstore (L2 := fun x4 => [(10, .long x4), (0, .ref 183), (1, .int p1), (2, .int p2), (3, .int p3), (4, .int p4), (5, .int m5), (6, .long m6), (8, .long m8)]) hO dX8_crack_244 (Nat.le_of_ble_eq_true rfl) (fun _ => rfl) (fun x4 => ?_)
      refine S_ (R_lload hO dX8_crack_246 rfl) ?_
      refine S_lstore (L2 := fun x5 => [(12, .long x5), (10, .long x4), (0, .ref 183), (1, .int p1), (2, .int p2), (3, .int p3), (4, .int p4), (5, .int m5), (6, .long m6), (8, .long m8)]) hO dX8_crack_248 (Nat.le_of_ble_eq_true rfl) (fun _ => rfl) (fun x5 => ?_)
      refine S_sub [6, 8, 9, 1, 0] rfl ?_
      exact w_X8_crack_250 hO hQ p1 p2 p3 p4 FU m6 m8 x4 x5 s0
def f_X8_crack_67 (p1 : Int32) (p2 : Int32) (p3 : Int32) (p4 : Int32) : Nat → Int32 → Int64 → Int64 → Int32 → Mem → Option (Int64 × Mem)
  | 0, _, _, _, _, _ => none
  | n + 1, m5, m6, m8, m10, s0 => if m10 ≤ 0 then (lt ((0 : Int32)) fun x3 => f_X8_crack_89 p1 p2 p3 p4 FU m5 m6 m8 x3 s0) else lt (m8 * (10 : Int64)) fun x1 => lt (m10 + (-1 : Int32)) fun x2 => f_X8_crack_67 p1 p2 p3 p4 n m5 m6 x1 x2 s0
theorem w_X8_crack_67 {X : CX} {Z : Option Value × Mem → Prop} (hO : OKX X false 7 MX8_crack) (hQ : OKS X Z) (p1 : Int32) (p2 : Int32) (p3 : Int32) (p4 : Int32) : ∀ (n : Nat) (m5 : Int32) (m6 : Int64) (m8 : Int64) (m10 : Int32) (s0 : Mem), SIM X MX8_crack wL Z 67 [(0, .ref 183), (1, .int p1), (2, .int p2), (3, .int p3), (4, .int p4), (5, .int m5), (6, .long m6), (8, .long m8), (10, .int m10)] [] s0 (f_X8_crack_67 p1 p2 p3 p4 n m5 m6 m8 m10 s0) := by
  intro n
  induction n with
  | zero => intros; exact S_none
  | succ n ih =>
    intro m5 m6 m8 m10 s0
    rw [f_X8_crack_67]
    refine S_ (R_iload hO dX8_crack_67 rfl) ?_
    refine S_if_le (tgt := 86) hO dX8_crack_69 (by decide) ?_ ?_
    · refine S_ (R_lload hO dX8_crack_72 rfl) ?_
      refine S_ (R_ldc2 (v := (10 : Int64)) hO dX8_crack_74 kl_X8_249) ?_
      refine S_ (R_lmul hO dX8_crack_77) ?_
      refine S_lstore (L2 := fun x1 => [(8, .long x1), (0, .ref 183), (1, .int p1), (2, .int p2), (3, .int p3), (4, .int p4), (5, .int m5), (6, .long m6), (10, .int m10)]) hO dX8_crack_78 (Nat.le_of_ble_eq_true rfl) (fun _ => rfl) (fun x1 => ?_)
      refine S_iinc (L2 := fun x2 => [(10, .int x2), (8, .long x1), (0, .ref 183), (1, .int p1), (2, .int p2), (3, .int p3), (4, .int p4), (5, .int m5), (6, .long m6)]) (v := (-1 : Int32)) hO dX8_crack_80 rfl (by decide) (Nat.le_of_ble_eq_true rfl) (fun _ => rfl) (fun x2 => ?_)
      refine S_ (R_goto (tgt := 67) hO dX8_crack_83 (by decide)) ?_
      refine S_sub [2, 3, 4, 5, 6, 7, 8, 1, 0] rfl ?_
      exact ih m5 m6 x1 x2 s0
    · refine S_ (R_iconst (v := (0 : Int32)) hO dX8_crack_86 (by decide)) ?_
      refine S_istore (L2 := fun x3 => [(10, .int x3), (0, .ref 183), (1, .int p1), (2, .int p2), (3, .int p3), (4, .int p4), (5, .int m5), (6, .long m6), (8, .long m8)]) hO dX8_crack_87 (Nat.le_of_ble_eq_true rfl) (fun _ => rfl) (fun x3 => ?_)
      refine S_sub [1, 2, 3, 4, 5, 6, 7, 8, 0] rfl ?_
      exact w_X8_crack_89 hO hQ p1 p2 p3 p4 FU m5 m6 m8 x3 s0
def f_X8_crack (p1 : Int32) (p2 : Int32) (p3 : Int32) (p4 : Int32) (s0 : Mem) : Option (Int64 × Mem) := bd2 (f_X8_isHouse p1 s0) fun x1 s2 => if x1 = 0 then (some ((-1000001 : Int64), s2)) else bd2 (f_X8_in p2.toInt64 (0 : Int64) (30 : Int64) s2) fun x3 s4 => if x3 = 0 then (some ((-1000001 : Int64), s4)) else bd2 (f_X8_in p3.toInt64 (0 : Int64) (10 : Int64) s4) fun x5 s6 => if x5 = 0 then (some ((-1000001 : Int64), s6)) else bd2 (f_X8_isWhat p4 s6) fun x7 s8 => if x7 = 0 then (some ((-1000001 : Int64), s8)) else bd (f_X8_putAside s8) fun s10 => bd2 (f_X8_standing s10) fun x11 s12 => lt (x11) fun x13 => lt ((0 : Int64)) fun x14 => lt ((1 : Int64)) fun x15 => bd2 (f_X8_ones x13 s12) fun x16 s17 => lt (x16) fun x18 => f_X8_crack_67 p1 p2 p3 p4 FU x13 x14 x15 x18 s17
theorem cs_X8_crack (p1 : Int32) (p2 : Int32) (p3 : Int32) (p4 : Int32) (s0 : Mem) : CS 7 MX8_crack [.ref 183, .int p1, .int p2, .int p3, .int p4] s0 ((f_X8_crack p1 p2 p3 p4 s0).map wL) := by
  refine CS.of (by decide +kernel) (Nat.le_of_ble_eq_true rfl) (fun X Z hO hQ => ?_)
  show SIM X MX8_crack wL Z 0 [(0, .ref 183), (1, .int p1), (2, .int p2), (3, .int p3), (4, .int p4)] [] s0 _
  unfold f_X8_crack
  refine S_ (R_aload_n hO dX8_crack_0 rfl) ?_
  refine S_ (R_iload_n hO dX8_crack_1 rfl) ?_
  refine S_callVI (rest := []) hO dX8_crack_2 (cs_X8_isHouse p1 s0) (by omega) lk_X8_175 np_X8_isHouse (rc_183 rfl) rfl (Nat.le_of_ble_eq_true rfl) (fun x1 s2 => ?_)
  refine S_if_eq (tgt := 40) hO dX8_crack_5 (by decide) ?_ ?_
  · refine S_ (R_iload_n hO dX8_crack_8 rfl) ?_
    refine S_ (R_i2l hO dX8_crack_9) ?_
    refine S_ (R_lconst (v := (0 : Int64)) hO dX8_crack_10 (by decide)) ?_
    refine S_ (R_ldc2 (v := (30 : Int64)) hO dX8_crack_11 kl_X8_247) ?_
    refine S_callSI (rest := []) hO dX8_crack_14 (cs_X8_in p2.toInt64 (0 : Int64) (30 : Int64) s2) (by omega) lk_X8_57 np_X8_in rfl (Nat.le_of_ble_eq_true rfl) (fun x3 s4 => ?_)
    refine S_if_eq (tgt := 40) hO dX8_crack_17 (by decide) ?_ ?_
    · refine S_ (R_iload_n hO dX8_crack_20 rfl) ?_
      refine S_ (R_i2l hO dX8_crack_21) ?_
      refine S_ (R_lconst (v := (0 : Int64)) hO dX8_crack_22 (by decide)) ?_
      refine S_ (R_ldc2 (v := (10 : Int64)) hO dX8_crack_23 kl_X8_249) ?_
      refine S_callSI (rest := []) hO dX8_crack_26 (cs_X8_in p3.toInt64 (0 : Int64) (10 : Int64) s4) (by omega) lk_X8_57 np_X8_in rfl (Nat.le_of_ble_eq_true rfl) (fun x5 s6 => ?_)
      refine S_if_eq (tgt := 40) hO dX8_crack_29 (by decide) ?_ ?_
      · refine S_ (R_iload hO dX8_crack_32 rfl) ?_
        refine S_callSI (rest := []) hO dX8_crack_34 (cs_X8_isWhat p4 s6) (by omega) lk_X8_203 np_X8_isWhat rfl (Nat.le_of_ble_eq_true rfl) (fun x7 s8 => ?_)
        refine S_if_ne (tgt := 44) hO dX8_crack_37 (by decide) ?_ ?_
        · refine S_ (R_ldc2 (v := (-1000001 : Int64)) hO dX8_crack_40 kl_X8_251) ?_
          exact S_lret rfl hO hQ dX8_crack_43 rfl
        · refine S_ (R_aload_n hO dX8_crack_44 rfl) ?_
          refine S_callVV (rest := []) hO dX8_crack_45 (cs_X8_putAside s8) (by omega) lk_X8_196 np_X8_putAside (rc_183 rfl) rfl (Nat.le_of_ble_eq_true rfl) (fun s10 => ?_)
          refine S_ (R_aload_n hO dX8_crack_48 rfl) ?_
          refine S_callVI (rest := []) hO dX8_crack_49 (cs_X8_standing s10) (by omega) lk_X8_155 np_X8_standing (rc_183 rfl) rfl (Nat.le_of_ble_eq_true rfl) (fun x11 s12 => ?_)
          refine S_istore (L2 := fun x13 => [(5, .int x13), (0, .ref 183), (1, .int p1), (2, .int p2), (3, .int p3), (4, .int p4)]) hO dX8_crack_52 (Nat.le_of_ble_eq_true rfl) (fun _ => rfl) (fun x13 => ?_)
          refine S_ (R_lconst (v := (0 : Int64)) hO dX8_crack_54 (by decide)) ?_
          refine S_lstore (L2 := fun x14 => [(6, .long x14), (5, .int x13), (0, .ref 183), (1, .int p1), (2, .int p2), (3, .int p3), (4, .int p4)]) hO dX8_crack_55 (Nat.le_of_ble_eq_true rfl) (fun _ => rfl) (fun x14 => ?_)
          refine S_ (R_lconst (v := (1 : Int64)) hO dX8_crack_57 (by decide)) ?_
          refine S_lstore (L2 := fun x15 => [(8, .long x15), (6, .long x14), (5, .int x13), (0, .ref 183), (1, .int p1), (2, .int p2), (3, .int p3), (4, .int p4)]) hO dX8_crack_58 (Nat.le_of_ble_eq_true rfl) (fun _ => rfl) (fun x15 => ?_)
          refine S_ (R_iload hO dX8_crack_60 rfl) ?_
          refine S_callSI (rest := []) hO dX8_crack_62 (cs_X8_ones x13 s12) (by omega) lk_X8_215 np_X8_ones rfl (Nat.le_of_ble_eq_true rfl) (fun x16 s17 => ?_)
          refine S_istore (L2 := fun x18 => [(10, .int x18), (8, .long x15), (6, .long x14), (5, .int x13), (0, .ref 183), (1, .int p1), (2, .int p2), (3, .int p3), (4, .int p4)]) hO dX8_crack_65 (Nat.le_of_ble_eq_true rfl) (fun _ => rfl) (fun x18 => ?_)
          refine S_sub [4, 5, 6, 7, 8, 3, 2, 1, 0] rfl ?_
          exact w_X8_crack_67 hO hQ p1 p2 p3 p4 FU x13 x14 x15 x18 s17
      · refine S_ (R_ldc2 (v := (-1000001 : Int64)) hO dX8_crack_40 kl_X8_251) ?_
        exact S_lret rfl hO hQ dX8_crack_43 rfl
    · refine S_ (R_ldc2 (v := (-1000001 : Int64)) hO dX8_crack_40 kl_X8_251) ?_
      exact S_lret rfl hO hQ dX8_crack_43 rfl
  · refine S_ (R_ldc2 (v := (-1000001 : Int64)) hO dX8_crack_40 kl_X8_251) ?_
    exact S_lret rfl hO hQ dX8_crack_43 rfl
def f_X8_drawn_153 (p1 : Int32) (p2 : Int32) (p3 : Int32) (K55 : Int64 → Int32 → Mem → Option (Int32 × Mem)) (m4 : Int64) (m6 : Int32) (s0 : Mem) : Option (Int32 × Mem) := bd (f_X8_oneHour s0) fun s2 => lt (m6 + (1 : Int32)) fun x3 => K55 m4 x3 s2
theorem w_X8_drawn_153 {X : CX} {Z : Option Value × Mem → Prop} (hO : OKX X false 5 MX8_drawn) (hQ : OKS X Z) (p1 : Int32) (p2 : Int32) (p3 : Int32) (K55 : Int64 → Int32 → Mem → Option (Int32 × Mem)) (h55 : ∀ m4 m6 τ, SIM X MX8_drawn wI Z 55 [(0, .ref 183), (1, .int p1), (3, .int p3), (4, .long m4), (6, .int m6)] [] τ (K55 m4 m6 τ)) (m4 : Int64) (m6 : Int32) (s0 : Mem) : SIM X MX8_drawn wI Z 153 [(0, .ref 183), (1, .int p1), (3, .int p3), (4, .long m4), (6, .int m6)] [] s0 (f_X8_drawn_153 p1 p2 p3 K55 m4 m6 s0) := by
  unfold f_X8_drawn_153
  refine S_ (R_aload_n hO dX8_drawn_153 rfl) ?_
  refine S_callVV (rest := []) hO dX8_drawn_154 (cs_X8_oneHour s0) (by omega) lk_X8_172 np_X8_oneHour (rc_183 rfl) rfl (Nat.le_of_ble_eq_true rfl) (fun s2 => ?_)
  refine S_iinc (L2 := fun x3 => [(6, .int x3), (0, .ref 183), (1, .int p1), (3, .int p3), (4, .long m4)]) (v := (1 : Int32)) hO dX8_drawn_157 rfl (by decide) (Nat.le_of_ble_eq_true rfl) (fun _ => rfl) (fun x3 => ?_)
  refine S_ (R_goto (tgt := 55) hO dX8_drawn_160 (by decide)) ?_
  refine S_sub [1, 2, 3, 4, 0] rfl ?_
  exact h55 m4 x3 s2
def f_X8_drawn_121 (p1 : Int32) (p2 : Int32) (p3 : Int32) (K55 : Int64 → Int32 → Mem → Option (Int32 × Mem)) (m4 : Int64) (m6 : Int32) (m7 : Int32) (s0 : Mem) : Option (Int32 × Mem) := bd2 (f_X8_stands m7 s0) fun x1 s2 => if x1 = 0 then (if (lg_cmp (m4 - m4 / (5 : Int64) * (5 : Int64)) (0 : Int64)) = 0 then (ing ((21 : Int32) + m7) 29 <| lt (st2 s2 187 ((21 : Int32) + m7).toNatClampNeg (50 : Int32)) fun s3 => f_X8_drawn_153 p1 p2 p3 K55 m4 m6 s3) else f_X8_drawn_153 p1 p2 p3 K55 m4 m6 s2) else f_X8_drawn_153 p1 p2 p3 K55 m4 m6 s2
theorem w_X8_drawn_121 {X : CX} {Z : Option Value × Mem → Prop} (hO : OKX X false 5 MX8_drawn) (hQ : OKS X Z) (p1 : Int32) (p2 : Int32) (p3 : Int32) (K55 : Int64 → Int32 → Mem → Option (Int32 × Mem)) (h55 : ∀ m4 m6 τ, SIM X MX8_drawn wI Z 55 [(0, .ref 183), (1, .int p1), (3, .int p3), (4, .long m4), (6, .int m6)] [] τ (K55 m4 m6 τ)) (m4 : Int64) (m6 : Int32) (m7 : Int32) (s0 : Mem) : SIM X MX8_drawn wI Z 121 [(0, .ref 183), (1, .int p1), (3, .int p3), (4, .long m4), (6, .int m6), (7, .int m7)] [] s0 (f_X8_drawn_121 p1 p2 p3 K55 m4 m6 m7 s0) := by
  unfold f_X8_drawn_121
  refine S_ (R_aload_n hO dX8_drawn_121 rfl) ?_
  refine S_ (R_iload hO dX8_drawn_122 rfl) ?_
  refine S_callVI (rest := []) hO dX8_drawn_124 (cs_X8_stands m7 s0) (by omega) lk_X8_142 np_X8_stands (rc_183 rfl) rfl (Nat.le_of_ble_eq_true rfl) (fun x1 s2 => ?_)
  refine S_if_ne (tgt := 153) hO dX8_drawn_127 (by decide) ?_ ?_
  · refine S_ (R_lload hO dX8_drawn_130 rfl) ?_
    refine S_ (R_ldc2 (v := (5 : Int64)) hO dX8_drawn_132 kl_X8_259) ?_
    refine S_ (R_lrem hO dX8_drawn_135 (by decide)) ?_
    refine S_ (R_lconst (v := (0 : Int64)) hO dX8_drawn_136 (by decide)) ?_
    refine S_ (R_lcmp hO dX8_drawn_137) ?_
    refine S_if_ne (tgt := 153) hO dX8_drawn_138 (by decide) ?_ ?_
    · refine S_ (R_aload_n hO dX8_drawn_141 rfl) ?_
      refine S_getR hO dX8_drawn_142 fl_X8_19 sh_183 rfl ?_
      refine S_ (R_bipush (v := (21 : Int32)) hO dX8_drawn_145 (by decide)) ?_
      refine S_ (R_iload hO dX8_drawn_147 rfl) ?_
      refine S_ (R_iadd hO dX8_drawn_149) ?_
      refine S_ (R_bipush (v := (50 : Int32)) hO dX8_drawn_150 (by decide)) ?_
      refine S_iast hO dX8_drawn_152 sh_187 (fun s3 => ?_)
      refine S_sub [0, 1, 2, 3, 4] rfl ?_
      exact w_X8_drawn_153 hO hQ p1 p2 p3 K55 h55 m4 m6 s3
    · refine S_sub [0, 1, 2, 3, 4] rfl ?_
      exact w_X8_drawn_153 hO hQ p1 p2 p3 K55 h55 m4 m6 s2
  · refine S_sub [0, 1, 2, 3, 4] rfl ?_
    exact w_X8_drawn_153 hO hQ p1 p2 p3 K55 h55 m4 m6 s2
def f_X8_drawn_180 (p1 : Int32) (p2 : Int32) (p3 : Int32) (t0 : Int32) (s0 : Mem) : Option (Int32 × Mem) := lt (t0) fun x1 => bd (f_X8_takeBack s0) fun s3 => some (x1, s3)
theorem w_X8_drawn_180 {X : CX} {Z : Option Value × Mem → Prop} (hO : OKX X false 5 MX8_drawn) (hQ : OKS X Z) (p1 : Int32) (p2 : Int32) (p3 : Int32) (t0 : Int32) (s0 : Mem) : SIM X MX8_drawn wI Z 180 [(0, .ref 183)] [.int t0] s0 (f_X8_drawn_180 p1 p2 p3 t0 s0) := by
  unfold f_X8_drawn_180
  refine S_istore (L2 := fun x1 => [(6, .int x1), (0, .ref 183)]) hO dX8_drawn_180 (Nat.le_of_ble_eq_true rfl) (fun _ => rfl) (fun x1 => ?_)
  refine S_ (R_aload_n hO dX8_drawn_182 rfl) ?_
  refine S_callVV (rest := []) hO dX8_drawn_183 (cs_X8_takeBack s0) (by omega) lk_X8_191 np_X8_takeBack (rc_183 rfl) rfl (Nat.le_of_ble_eq_true rfl) (fun s3 => ?_)
  refine S_ (R_iload hO dX8_drawn_186 rfl) ?_
  exact S_iret rfl hO hQ dX8_drawn_188 rfl
def f_X8_drawn_55 (p1 : Int32) (p2 : Int32) (p3 : Int32) : Nat → Int64 → Int32 → Mem → Option (Int32 × Mem)
  | 0, _, _, _ => none
  | n + 1, m4, m6, s0 => if p1 ≤ m6 then (if p3 = 0 then (bd2 (f_X8_standing s0) fun x7 s8 => f_X8_drawn_180 p1 p2 p3 x7 s8) else bd2 (f_X8_spinOf (0 : Int32) (1 : Int32) s0) fun x9 s10 => f_X8_drawn_180 p1 p2 p3 x9 s10) else lt ((m4 * (16807 : Int64)) - (m4 * (16807 : Int64)) / (2147483647 : Int64) * (2147483647 : Int64)) fun x1 => ing (0 : Int32) 29 <| gd (¬ ((s0 187 (0 : Int32).toNatClampNeg).toInt64) = 0) <| lt ((x1 - x1 / ((s0 187 (0 : Int32).toNatClampNeg).toInt64) * ((s0 187 (0 : Int32).toNatClampNeg).toInt64)).toInt32) fun x2 => bd2 (f_X8_stands x2 s0) fun x3 s4 => if x3 = 0 then (f_X8_drawn_121 p1 p2 p3 (f_X8_drawn_55 p1 p2 p3 n) x1 m6 x2 s4) else if (lg_cmp (x1 - x1 / (2 : Int64) * (2 : Int64)) (0 : Int64)) = 0 then (ing (1 : Int32) 29 <| bd (f_X8_lashBy x2 (s4 187 (1 : Int32).toNatClampNeg) s4) fun s6 => f_X8_drawn_153 p1 p2 p3 (f_X8_drawn_55 p1 p2 p3 n) x1 m6 s6) else f_X8_drawn_121 p1 p2 p3 (f_X8_drawn_55 p1 p2 p3 n) x1 m6 x2 s4
theorem w_X8_drawn_55 {X : CX} {Z : Option Value × Mem → Prop} (hO : OKX X false 5 MX8_drawn) (hQ : OKS X Z) (p1 : Int32) (p2 : Int32) (p3 : Int32) : ∀ (n : Nat) (m4 : Int64) (m6 : Int32) (s0 : Mem), SIM X MX8_drawn wI Z 55 [(0, .ref 183), (1, .int p1), (3, .int p3), (4, .long m4), (6, .int m6)] [] s0 (f_X8_drawn_55 p1 p2 p3 n m4 m6 s0) := by
  intro n
  induction n with
  | zero => intros; exact S_none
  | succ n ih =>
    intro m4 m6 s0
    rw [f_X8_drawn_55]
    refine S_ (R_iload hO dX8_drawn_55 rfl) ?_
    refine S_ (R_iload_n hO dX8_drawn_57 rfl) ?_
    refine S_icmp_ge (tgt := 163) hO dX8_drawn_58 (by decide) ?_ ?_
    · refine S_ (R_lload hO dX8_drawn_61 rfl) ?_
      refine S_ (R_ldc2 (v := (16807 : Int64)) hO dX8_drawn_63 kl_X8_255) ?_
      refine S_ (R_lmul hO dX8_drawn_66) ?_
      refine S_ (R_ldc2 (v := (2147483647 : Int64)) hO dX8_drawn_67 kl_X8_257) ?_
      refine S_ (R_lrem hO dX8_drawn_70 (by decide)) ?_
      refine S_lstore (L2 := fun x1 => [(4, .long x1), (0, .ref 183), (1, .int p1), (3, .int p3), (6, .int m6)]) hO dX8_drawn_71 (Nat.le_of_ble_eq_true rfl) (fun _ => rfl) (fun x1 => ?_)
      refine S_ (R_lload hO dX8_drawn_73 rfl) ?_
      refine S_ (R_aload_n hO dX8_drawn_75 rfl) ?_
      refine S_getR hO dX8_drawn_76 fl_X8_19 sh_183 rfl ?_
      refine S_ (R_iconst (v := (0 : Int32)) hO dX8_drawn_79 (by decide)) ?_
      refine S_iald hO dX8_drawn_80 sh_187 ?_
      refine S_ (R_i2l hO dX8_drawn_81) ?_
      refine S_lrem hO dX8_drawn_82 ?_
      refine S_ (R_l2i hO dX8_drawn_83) ?_
      refine S_istore (L2 := fun x2 => [(7, .int x2), (4, .long x1), (0, .ref 183), (1, .int p1), (3, .int p3), (6, .int m6)]) hO dX8_drawn_84 (Nat.le_of_ble_eq_true rfl) (fun _ => rfl) (fun x2 => ?_)
      refine S_ (R_aload_n hO dX8_drawn_86 rfl) ?_
      refine S_ (R_iload hO dX8_drawn_87 rfl) ?_
      refine S_callVI (rest := []) hO dX8_drawn_89 (cs_X8_stands x2 s0) (by omega) lk_X8_142 np_X8_stands (rc_183 rfl) rfl (Nat.le_of_ble_eq_true rfl) (fun x3 s4 => ?_)
      refine S_if_eq (tgt := 121) hO dX8_drawn_92 (by decide) ?_ ?_
      · refine S_ (R_lload hO dX8_drawn_95 rfl) ?_
        refine S_ (R_ldc2 (v := (2 : Int64)) hO dX8_drawn_97 kl_X8_65) ?_
        refine S_ (R_lrem hO dX8_drawn_100 (by decide)) ?_
        refine S_ (R_lconst (v := (0 : Int64)) hO dX8_drawn_101 (by decide)) ?_
        refine S_ (R_lcmp hO dX8_drawn_102) ?_
        refine S_if_ne (tgt := 121) hO dX8_drawn_103 (by decide) ?_ ?_
        · refine S_ (R_aload_n hO dX8_drawn_106 rfl) ?_
          refine S_ (R_iload hO dX8_drawn_107 rfl) ?_
          refine S_ (R_aload_n hO dX8_drawn_109 rfl) ?_
          refine S_getR hO dX8_drawn_110 fl_X8_19 sh_183 rfl ?_
          refine S_ (R_iconst (v := (1 : Int32)) hO dX8_drawn_113 (by decide)) ?_
          refine S_iald hO dX8_drawn_114 sh_187 ?_
          refine S_callVV (rest := []) hO dX8_drawn_115 (cs_X8_lashBy x2 (s4 187 (1 : Int32).toNatClampNeg) s4) (by omega) lk_X8_178 np_X8_lashBy (rc_183 rfl) rfl (Nat.le_of_ble_eq_true rfl) (fun s6 => ?_)
          refine S_ (R_goto (tgt := 153) hO dX8_drawn_118 (by decide)) ?_
          refine S_sub [2, 3, 4, 1, 5] rfl ?_
          exact w_X8_drawn_153 hO hQ p1 p2 p3 (f_X8_drawn_55 p1 p2 p3 n) ih x1 m6 s6
        · refine S_sub [2, 3, 4, 1, 5, 0] rfl ?_
          exact w_X8_drawn_121 hO hQ p1 p2 p3 (f_X8_drawn_55 p1 p2 p3 n) ih x1 m6 x2 s4
      · refine S_sub [2, 3, 4, 1, 5, 0] rfl ?_
        exact w_X8_drawn_121 hO hQ p1 p2 p3 (f_X8_drawn_55 p1 p2 p3 n) ih x1 m6 x2 s4
    · refine S_ (R_iload_n hO dX8_drawn_163 rfl) ?_
      refine S_if_ne (tgt := 174) hO dX8_drawn_164 (by decide) ?_ ?_
      · refine S_ (R_aload_n hO dX8_drawn_167 rfl) ?_
        refine S_callVI (rest := []) hO dX8_drawn_168 (cs_X8_standing s0) (by omega) lk_X8_155 np_X8_standing (rc_183 rfl) rfl (Nat.le_of_ble_eq_true rfl) (fun x7 s8 => ?_)
        refine S_ (R_goto (tgt := 180) hO dX8_drawn_171 (by decide)) ?_
        refine S_sub [0] rfl ?_
        exact w_X8_drawn_180 hO hQ p1 p2 p3 x7 s8
      · refine S_ (R_aload_n hO dX8_drawn_174 rfl) ?_
        refine S_ (R_iconst (v := (0 : Int32)) hO dX8_drawn_175 (by decide)) ?_
        refine S_ (R_iconst (v := (1 : Int32)) hO dX8_drawn_176 (by decide)) ?_
        refine S_callVI (rest := []) hO dX8_drawn_177 (cs_X8_spinOf (0 : Int32) (1 : Int32) s0) (by omega) lk_X8_184 np_X8_spinOf (rc_183 rfl) rfl (Nat.le_of_ble_eq_true rfl) (fun x9 s10 => ?_)
        refine S_sub [0] rfl ?_
        exact w_X8_drawn_180 hO hQ p1 p2 p3 x9 s10
def f_X8_drawn (p1 : Int32) (p2 : Int32) (p3 : Int32) (s0 : Mem) : Option (Int32 × Mem) := if (s0 183 4) = 0 then (some ((-1000002 : Int32), s0)) else bd2 (f_X8_in p1.toInt64 (0 : Int64) (60 : Int64) s0) fun x1 s2 => if x1 = 0 then (some ((-1000001 : Int32), s2)) else bd2 (f_X8_in p2.toInt64 (1 : Int64) (999999 : Int64) s2) fun x3 s4 => if x3 = 0 then (some ((-1000001 : Int32), s4)) else bd2 (f_X8_isWhat p3 s4) fun x5 s6 => if x5 = 0 then (some ((-1000001 : Int32), s6)) else bd (f_X8_putAside s6) fun s8 => lt (p2.toInt64) fun x9 => lt ((0 : Int32)) fun x10 => f_X8_drawn_55 p1 p2 p3 FU x9 x10 s8
theorem cs_X8_drawn (p1 : Int32) (p2 : Int32) (p3 : Int32) (s0 : Mem) : CS 5 MX8_drawn [.ref 183, .int p1, .int p2, .int p3] s0 ((f_X8_drawn p1 p2 p3 s0).map wI) := by
  refine CS.of (by decide +kernel) (Nat.le_of_ble_eq_true rfl) (fun X Z hO hQ => ?_)
  show SIM X MX8_drawn wI Z 0 [(0, .ref 183), (1, .int p1), (2, .int p2), (3, .int p3)] [] s0 _
  unfold f_X8_drawn
  refine S_ (R_aload_n hO dX8_drawn_0 rfl) ?_
  refine S_getI hO dX8_drawn_1 fl_X8_135 sh_183 rfl ?_
  refine S_if_ne (tgt := 10) hO dX8_drawn_4 (by decide) ?_ ?_
  · refine S_ (R_ldc (v := (-1000002 : Int32)) hO dX8_drawn_7 kc_X8_166) ?_
    exact S_iret rfl hO hQ dX8_drawn_9 rfl
  · refine S_ (R_iload_n hO dX8_drawn_10 rfl) ?_
    refine S_ (R_i2l hO dX8_drawn_11) ?_
    refine S_ (R_lconst (v := (0 : Int64)) hO dX8_drawn_12 (by decide)) ?_
    refine S_ (R_ldc2 (v := (60 : Int64)) hO dX8_drawn_13 kl_X8_194) ?_
    refine S_callSI (rest := []) hO dX8_drawn_16 (cs_X8_in p1.toInt64 (0 : Int64) (60 : Int64) s0) (by omega) lk_X8_57 np_X8_in rfl (Nat.le_of_ble_eq_true rfl) (fun x1 s2 => ?_)
    refine S_if_eq (tgt := 41) hO dX8_drawn_19 (by decide) ?_ ?_
    · refine S_ (R_iload_n hO dX8_drawn_22 rfl) ?_
      refine S_ (R_i2l hO dX8_drawn_23) ?_
      refine S_ (R_lconst (v := (1 : Int64)) hO dX8_drawn_24 (by decide)) ?_
      refine S_ (R_ldc2 (v := (999999 : Int64)) hO dX8_drawn_25 kl_X8_253) ?_
      refine S_callSI (rest := []) hO dX8_drawn_28 (cs_X8_in p2.toInt64 (1 : Int64) (999999 : Int64) s2) (by omega) lk_X8_57 np_X8_in rfl (Nat.le_of_ble_eq_true rfl) (fun x3 s4 => ?_)
      refine S_if_eq (tgt := 41) hO dX8_drawn_31 (by decide) ?_ ?_
      · refine S_ (R_iload_n hO dX8_drawn_34 rfl) ?_
        refine S_callSI (rest := []) hO dX8_drawn_35 (cs_X8_isWhat p3 s4) (by omega) lk_X8_203 np_X8_isWhat rfl (Nat.le_of_ble_eq_true rfl) (fun x5 s6 => ?_)
        refine S_if_ne (tgt := 44) hO dX8_drawn_38 (by decide) ?_ ?_
        · refine S_ (R_ldc (v := (-1000001 : Int32)) hO dX8_drawn_41 kc_X8_67) ?_
          exact S_iret rfl hO hQ dX8_drawn_43 rfl
        · refine S_ (R_aload_n hO dX8_drawn_44 rfl) ?_
          refine S_callVV (rest := []) hO dX8_drawn_45 (cs_X8_putAside s6) (by omega) lk_X8_196 np_X8_putAside (rc_183 rfl) rfl (Nat.le_of_ble_eq_true rfl) (fun s8 => ?_)
          refine S_ (R_iload_n hO dX8_drawn_48 rfl) ?_
          refine S_ (R_i2l hO dX8_drawn_49) ?_
          refine S_lstore (L2 := fun x9 => [(4, .long x9), (0, .ref 183), (1, .int p1), (2, .int p2), (3, .int p3)]) hO dX8_drawn_50 (Nat.le_of_ble_eq_true rfl) (fun _ => rfl) (fun x9 => ?_)
          refine S_ (R_iconst (v := (0 : Int32)) hO dX8_drawn_52 (by decide)) ?_
          refine S_istore (L2 := fun x10 => [(6, .int x10), (4, .long x9), (0, .ref 183), (1, .int p1), (2, .int p2), (3, .int p3)]) hO dX8_drawn_53 (Nat.le_of_ble_eq_true rfl) (fun _ => rfl) (fun x10 => ?_)
          refine S_sub [2, 3, 5, 1, 0] rfl ?_
          exact w_X8_drawn_55 hO hQ p1 p2 p3 FU x9 x10 s8
      · refine S_ (R_ldc (v := (-1000001 : Int32)) hO dX8_drawn_41 kc_X8_67) ?_
        exact S_iret rfl hO hQ dX8_drawn_43 rfl
    · refine S_ (R_ldc (v := (-1000001 : Int32)) hO dX8_drawn_41 kc_X8_67) ?_
      exact S_iret rfl hO hQ dX8_drawn_43 rfl
def f_X8_image_25 (p1 : Int32) : Nat → Int32 → Mem → Option (Int32 × Mem)
  | 0, _, _ => none
  | n + 1, m2, s0 => if (29 : Int32) ≤ m2 then (ing p1 2 <| lt (st2 s0 194 p1.toNatClampNeg (1 : Int32)) fun s3 => some ((1 : Int32), s3)) else ing m2 29 <| ing (((29 : Int32) * p1) + m2) 58 <| lt (st2 s0 195 (((29 : Int32) * p1) + m2).toNatClampNeg (s0 187 m2.toNatClampNeg)) fun s1 => lt (m2 + (1 : Int32)) fun x2 => f_X8_image_25 p1 n x2 s1
theorem w_X8_image_25 {X : CX} {Z : Option Value × Mem → Prop} (hO : OKX X false 2 MX8_image) (hQ : OKS X Z) (p1 : Int32) : ∀ (n : Nat) (m2 : Int32) (s0 : Mem), SIM X MX8_image wI Z 25 [(0, .ref 183), (1, .int p1), (2, .int m2)] [] s0 (f_X8_image_25 p1 n m2 s0) := by
  intro n
  induction n with
  | zero => intros; exact S_none
  | succ n ih =>
    intro m2 s0
    rw [f_X8_image_25]
    refine S_ (R_iload_n hO dX8_image_25 rfl) ?_
    refine S_ (R_bipush (v := (29 : Int32)) hO dX8_image_26 (by decide)) ?_
    refine S_icmp_ge (tgt := 54) hO dX8_image_28 (by decide) ?_ ?_
    · refine S_ (R_aload_n hO dX8_image_31 rfl) ?_
      refine S_getR hO dX8_image_32 fl_X8_44 sh_183 rfl ?_
      refine S_ (R_bipush (v := (29 : Int32)) hO dX8_image_35 (by decide)) ?_
      refine S_ (R_iload_n hO dX8_image_37 rfl) ?_
      refine S_ (R_imul hO dX8_image_38) ?_
      refine S_ (R_iload_n hO dX8_image_39 rfl) ?_
      refine S_ (R_iadd hO dX8_image_40) ?_
      refine S_ (R_aload_n hO dX8_image_41 rfl) ?_
      refine S_getR hO dX8_image_42 fl_X8_19 sh_183 rfl ?_
      refine S_ (R_iload_n hO dX8_image_45 rfl) ?_
      refine S_iald hO dX8_image_46 sh_187 ?_
      refine S_iast hO dX8_image_47 sh_195 (fun s1 => ?_)
      refine S_iinc (L2 := fun x2 => [(2, .int x2), (0, .ref 183), (1, .int p1)]) (v := (1 : Int32)) hO dX8_image_48 rfl (by decide) (Nat.le_of_ble_eq_true rfl) (fun _ => rfl) (fun x2 => ?_)
      refine S_ (R_goto (tgt := 25) hO dX8_image_51 (by decide)) ?_
      refine S_sub [1, 2, 0] rfl ?_
      exact ih x2 s1
    · refine S_ (R_aload_n hO dX8_image_54 rfl) ?_
      refine S_getR hO dX8_image_55 fl_X8_40 sh_183 rfl ?_
      refine S_ (R_iload_n hO dX8_image_58 rfl) ?_
      refine S_ (R_iconst (v := (1 : Int32)) hO dX8_image_59 (by decide)) ?_
      refine S_zast hO dX8_image_60 sh_194 (fun s3 => ?_)
      refine S_ (R_iconst (v := (1 : Int32)) hO dX8_image_61 (by decide)) ?_
      exact S_iret rfl hO hQ dX8_image_62 rfl
def f_X8_image (p1 : Int32) (s0 : Mem) : Option (Int32 × Mem) := bd2 (f_X8_in p1.toInt64 (0 : Int64) (1 : Int64) s0) fun x1 s2 => if x1 = 0 then (some ((-1000001 : Int32), s2)) else if (s2 183 4) = 0 then (some ((-1000002 : Int32), s2)) else lt ((0 : Int32)) fun x3 => f_X8_image_25 p1 FU x3 s2
theorem cs_X8_image (p1 : Int32) (s0 : Mem) : CS 2 MX8_image [.ref 183, .int p1] s0 ((f_X8_image p1 s0).map wI) := by
  refine CS.of (by decide +kernel) (Nat.le_of_ble_eq_true rfl) (fun X Z hO hQ => ?_)
  show SIM X MX8_image wI Z 0 [(0, .ref 183), (1, .int p1)] [] s0 _
  unfold f_X8_image
  refine S_ (R_iload_n hO dX8_image_0 rfl) ?_
  refine S_ (R_i2l hO dX8_image_1) ?_
  refine S_ (R_lconst (v := (0 : Int64)) hO dX8_image_2 (by decide)) ?_
  refine S_ (R_lconst (v := (1 : Int64)) hO dX8_image_3 (by decide)) ?_
  refine S_callSI (rest := []) hO dX8_image_4 (cs_X8_in p1.toInt64 (0 : Int64) (1 : Int64) s0) (by omega) lk_X8_57 np_X8_in rfl (Nat.le_of_ble_eq_true rfl) (fun x1 s2 => ?_)
  refine S_if_ne (tgt := 13) hO dX8_image_7 (by decide) ?_ ?_
  · refine S_ (R_ldc (v := (-1000001 : Int32)) hO dX8_image_10 kc_X8_67) ?_
    exact S_iret rfl hO hQ dX8_image_12 rfl
  · refine S_ (R_aload_n hO dX8_image_13 rfl) ?_
    refine S_getI hO dX8_image_14 fl_X8_135 sh_183 rfl ?_
    refine S_if_ne (tgt := 23) hO dX8_image_17 (by decide) ?_ ?_
    · refine S_ (R_ldc (v := (-1000002 : Int32)) hO dX8_image_20 kc_X8_166) ?_
      exact S_iret rfl hO hQ dX8_image_22 rfl
    · refine S_ (R_iconst (v := (0 : Int32)) hO dX8_image_23 (by decide)) ?_
      refine S_istore_n (L2 := fun x3 => [(2, .int x3), (0, .ref 183), (1, .int p1)]) hO dX8_image_24 (Nat.le_of_ble_eq_true rfl) (fun _ => rfl) (fun x3 => ?_)
      refine S_sub [1, 2, 0] rfl ?_
      exact w_X8_image_25 hO hQ p1 FU x3 s2
def f_X8_restore_27 (p1 : Int32) : Nat → Int32 → Mem → Option (Int32 × Mem)
  | 0, _, _ => none
  | n + 1, m2, s0 => if (29 : Int32) ≤ m2 then (lt (st2 s0 183 17 (0 : Int32)) fun s3 => some ((1 : Int32), s3)) else ing (((29 : Int32) * p1) + m2) 58 <| ing m2 29 <| lt (st2 s0 187 m2.toNatClampNeg (s0 195 (((29 : Int32) * p1) + m2).toNatClampNeg)) fun s1 => lt (m2 + (1 : Int32)) fun x2 => f_X8_restore_27 p1 n x2 s1
theorem w_X8_restore_27 {X : CX} {Z : Option Value × Mem → Prop} (hO : OKX X false 2 MX8_restore) (hQ : OKS X Z) (p1 : Int32) : ∀ (n : Nat) (m2 : Int32) (s0 : Mem), SIM X MX8_restore wI Z 27 [(0, .ref 183), (1, .int p1), (2, .int m2)] [] s0 (f_X8_restore_27 p1 n m2 s0) := by
  intro n
  induction n with
  | zero => intros; exact S_none
  | succ n ih =>
    intro m2 s0
    rw [f_X8_restore_27]
    refine S_ (R_iload_n hO dX8_restore_27 rfl) ?_
    refine S_ (R_bipush (v := (29 : Int32)) hO dX8_restore_28 (by decide)) ?_
    refine S_icmp_ge (tgt := 56) hO dX8_restore_30 (by decide) ?_ ?_
    · refine S_ (R_aload_n hO dX8_restore_33 rfl) ?_
      refine S_getR hO dX8_restore_34 fl_X8_19 sh_183 rfl ?_
      refine S_ (R_iload_n hO dX8_restore_37 rfl) ?_
      refine S_ (R_aload_n hO dX8_restore_38 rfl) ?_
      refine S_getR hO dX8_restore_39 fl_X8_44 sh_183 rfl ?_
      refine S_ (R_bipush (v := (29 : Int32)) hO dX8_restore_42 (by decide)) ?_
      refine S_ (R_iload_n hO dX8_restore_44 rfl) ?_
      refine S_ (R_imul hO dX8_restore_45) ?_
      refine S_ (R_iload_n hO dX8_restore_46 rfl) ?_
      refine S_ (R_iadd hO dX8_restore_47) ?_
      refine S_iald hO dX8_restore_48 sh_195 ?_
      refine S_iast hO dX8_restore_49 sh_187 (fun s1 => ?_)
      refine S_iinc (L2 := fun x2 => [(2, .int x2), (0, .ref 183), (1, .int p1)]) (v := (1 : Int32)) hO dX8_restore_50 rfl (by decide) (Nat.le_of_ble_eq_true rfl) (fun _ => rfl) (fun x2 => ?_)
      refine S_ (R_goto (tgt := 27) hO dX8_restore_53 (by decide)) ?_
      refine S_sub [1, 2, 0] rfl ?_
      exact ih x2 s1
    · refine S_ (R_aload_n hO dX8_restore_56 rfl) ?_
      refine S_ (R_iconst (v := (0 : Int32)) hO dX8_restore_57 (by decide)) ?_
      refine S_put hO dX8_restore_58 fl_X8_139 sh_183 rfl (fun s3 => ?_)
      refine S_ (R_iconst (v := (1 : Int32)) hO dX8_restore_61 (by decide)) ?_
      exact S_iret rfl hO hQ dX8_restore_62 rfl
def f_X8_restore (p1 : Int32) (s0 : Mem) : Option (Int32 × Mem) := bd2 (f_X8_in p1.toInt64 (0 : Int64) (1 : Int64) s0) fun x1 s2 => if x1 = 0 then (some ((-1000001 : Int32), s2)) else ing p1 2 <| if (s2 194 p1.toNatClampNeg) = 0 then (some ((-1000002 : Int32), s2)) else lt ((0 : Int32)) fun x3 => f_X8_restore_27 p1 FU x3 s2
theorem cs_X8_restore (p1 : Int32) (s0 : Mem) : CS 2 MX8_restore [.ref 183, .int p1] s0 ((f_X8_restore p1 s0).map wI) := by
  refine CS.of (by decide +kernel) (Nat.le_of_ble_eq_true rfl) (fun X Z hO hQ => ?_)
  show SIM X MX8_restore wI Z 0 [(0, .ref 183), (1, .int p1)] [] s0 _
  unfold f_X8_restore
  refine S_ (R_iload_n hO dX8_restore_0 rfl) ?_
  refine S_ (R_i2l hO dX8_restore_1) ?_
  refine S_ (R_lconst (v := (0 : Int64)) hO dX8_restore_2 (by decide)) ?_
  refine S_ (R_lconst (v := (1 : Int64)) hO dX8_restore_3 (by decide)) ?_
  refine S_callSI (rest := []) hO dX8_restore_4 (cs_X8_in p1.toInt64 (0 : Int64) (1 : Int64) s0) (by omega) lk_X8_57 np_X8_in rfl (Nat.le_of_ble_eq_true rfl) (fun x1 s2 => ?_)
  refine S_if_ne (tgt := 13) hO dX8_restore_7 (by decide) ?_ ?_
  · refine S_ (R_ldc (v := (-1000001 : Int32)) hO dX8_restore_10 kc_X8_67) ?_
    exact S_iret rfl hO hQ dX8_restore_12 rfl
  · refine S_ (R_aload_n hO dX8_restore_13 rfl) ?_
    refine S_getR hO dX8_restore_14 fl_X8_40 sh_183 rfl ?_
    refine S_ (R_iload_n hO dX8_restore_17 rfl) ?_
    refine S_zald hO dX8_restore_18 sh_194 ?_
    refine S_if_ne (tgt := 25) hO dX8_restore_19 (by decide) ?_ ?_
    · refine S_ (R_ldc (v := (-1000002 : Int32)) hO dX8_restore_22 kc_X8_166) ?_
      exact S_iret rfl hO hQ dX8_restore_24 rfl
    · refine S_ (R_iconst (v := (0 : Int32)) hO dX8_restore_25 (by decide)) ?_
      refine S_istore_n (L2 := fun x3 => [(2, .int x3), (0, .ref 183), (1, .int p1)]) hO dX8_restore_26 (Nat.le_of_ble_eq_true rfl) (fun _ => rfl) (fun x3 => ?_)
      refine S_sub [1, 2, 0] rfl ?_
      exact w_X8_restore_27 hO hQ p1 FU x3 s2
def f_X8_kind (p1 : Int32) (s0 : Mem) : Option (Int32 × Mem) := bd2 (f_X8_isHouse p1 s0) fun x1 s2 => if x1 = 0 then (some ((-1000001 : Int32), s2)) else ing ((5 : Int32) + p1) 29 <| some (s2 187 ((5 : Int32) + p1).toNatClampNeg, s2)
theorem cs_X8_kind (p1 : Int32) (s0 : Mem) : CS 3 MX8_kind [.ref 183, .int p1] s0 ((f_X8_kind p1 s0).map wI) := by
  refine CS.of (by decide +kernel) (Nat.le_of_ble_eq_true rfl) (fun X Z hO hQ => ?_)
  show SIM X MX8_kind wI Z 0 [(0, .ref 183), (1, .int p1)] [] s0 _
  unfold f_X8_kind
  refine S_ (R_aload_n hO dX8_kind_0 rfl) ?_
  refine S_ (R_iload_n hO dX8_kind_1 rfl) ?_
  refine S_callVI (rest := []) hO dX8_kind_2 (cs_X8_isHouse p1 s0) (by omega) lk_X8_175 np_X8_isHouse (rc_183 rfl) rfl (Nat.le_of_ble_eq_true rfl) (fun x1 s2 => ?_)
  refine S_if_eq (tgt := 19) hO dX8_kind_5 (by decide) ?_ ?_
  · refine S_ (R_aload_n hO dX8_kind_8 rfl) ?_
    refine S_getR hO dX8_kind_9 fl_X8_19 sh_183 rfl ?_
    refine S_ (R_iconst (v := (5 : Int32)) hO dX8_kind_12 (by decide)) ?_
    refine S_ (R_iload_n hO dX8_kind_13 rfl) ?_
    refine S_ (R_iadd hO dX8_kind_14) ?_
    refine S_iald hO dX8_kind_15 sh_187 ?_
    refine S_ (R_goto (tgt := 21) hO dX8_kind_16 (by decide)) ?_
    exact S_iret rfl hO hQ dX8_kind_21 rfl
  · refine S_ (R_ldc (v := (-1000001 : Int32)) hO dX8_kind_19 kc_X8_67) ?_
    exact S_iret rfl hO hQ dX8_kind_21 rfl
def f_X8_isKind_19 (p0 : Int32) (p1 : Int32) (s0 : Mem) : Option (Int32 × Mem) := if p1 = (4 : Int32) then (if p0 = (5 : Int32) then (some ((1 : Int32), s0)) else some ((0 : Int32), s0)) else some ((0 : Int32), s0)
theorem w_X8_isKind_19 {X : CX} {Z : Option Value × Mem → Prop} (hO : OKX X false 1 MX8_isKind) (hQ : OKS X Z) (p0 : Int32) (p1 : Int32) (s0 : Mem) : SIM X MX8_isKind wI Z 19 [(0, .int p0), (1, .int p1)] [] s0 (f_X8_isKind_19 p0 p1 s0) := by
  unfold f_X8_isKind_19
  refine S_ (R_iload_n hO dX8_isKind_19 rfl) ?_
  refine S_ (R_iconst (v := (4 : Int32)) hO dX8_isKind_20 (by decide)) ?_
  refine S_icmp_ne (tgt := 33) hO dX8_isKind_21 (by decide) ?_ ?_
  · refine S_ (R_iload_n hO dX8_isKind_24 rfl) ?_
    refine S_ (R_iconst (v := (5 : Int32)) hO dX8_isKind_25 (by decide)) ?_
    refine S_icmp_ne (tgt := 33) hO dX8_isKind_26 (by decide) ?_ ?_
    · refine S_ (R_iconst (v := (1 : Int32)) hO dX8_isKind_29 (by decide)) ?_
      refine S_ (R_goto (tgt := 34) hO dX8_isKind_30 (by decide)) ?_
      exact S_zret0 rfl hO hQ dX8_isKind_34 rfl (by decide)
    · refine S_ (R_iconst (v := (0 : Int32)) hO dX8_isKind_33 (by decide)) ?_
      exact S_zret0 rfl hO hQ dX8_isKind_34 rfl (by decide)
  · refine S_ (R_iconst (v := (0 : Int32)) hO dX8_isKind_33 (by decide)) ?_
    exact S_zret0 rfl hO hQ dX8_isKind_34 rfl (by decide)
def f_X8_isKind (p0 : Int32) (p1 : Int32) (s0 : Mem) : Option (Int32 × Mem) := if p1 = 0 then (some ((1 : Int32), s0)) else if p0 = p1 then (some ((1 : Int32), s0)) else if p1 = (1 : Int32) then (if p0 < (4 : Int32) then (some ((1 : Int32), s0)) else f_X8_isKind_19 p0 p1 s0) else f_X8_isKind_19 p0 p1 s0
theorem cs_X8_isKind (p0 : Int32) (p1 : Int32) (s0 : Mem) : CS 1 MX8_isKind [.int p0, .int p1] s0 ((f_X8_isKind p0 p1 s0).map wI) := by
  refine CS.of (by decide +kernel) (Nat.le_of_ble_eq_true rfl) (fun X Z hO hQ => ?_)
  show SIM X MX8_isKind wI Z 0 [(0, .int p0), (1, .int p1)] [] s0 _
  unfold f_X8_isKind
  refine S_ (R_iload_n hO dX8_isKind_0 rfl) ?_
  refine S_if_eq (tgt := 29) hO dX8_isKind_1 (by decide) ?_ ?_
  · refine S_ (R_iload_n hO dX8_isKind_4 rfl) ?_
    refine S_ (R_iload_n hO dX8_isKind_5 rfl) ?_
    refine S_icmp_eq (tgt := 29) hO dX8_isKind_6 (by decide) ?_ ?_
    · refine S_ (R_iload_n hO dX8_isKind_9 rfl) ?_
      refine S_ (R_iconst (v := (1 : Int32)) hO dX8_isKind_10 (by decide)) ?_
      refine S_icmp_ne (tgt := 19) hO dX8_isKind_11 (by decide) ?_ ?_
      · refine S_ (R_iload_n hO dX8_isKind_14 rfl) ?_
        refine S_ (R_iconst (v := (4 : Int32)) hO dX8_isKind_15 (by decide)) ?_
        refine S_icmp_lt (tgt := 29) hO dX8_isKind_16 (by decide) ?_ ?_
        · refine S_sub [0, 1] rfl ?_
          exact w_X8_isKind_19 hO hQ p0 p1 s0
        · refine S_ (R_iconst (v := (1 : Int32)) hO dX8_isKind_29 (by decide)) ?_
          refine S_ (R_goto (tgt := 34) hO dX8_isKind_30 (by decide)) ?_
          exact S_zret0 rfl hO hQ dX8_isKind_34 rfl (by decide)
      · refine S_sub [0, 1] rfl ?_
        exact w_X8_isKind_19 hO hQ p0 p1 s0
    · refine S_ (R_iconst (v := (1 : Int32)) hO dX8_isKind_29 (by decide)) ?_
      refine S_ (R_goto (tgt := 34) hO dX8_isKind_30 (by decide)) ?_
      exact S_zret0 rfl hO hQ dX8_isKind_34 rfl (by decide)
  · refine S_ (R_iconst (v := (1 : Int32)) hO dX8_isKind_29 (by decide)) ?_
    refine S_ (R_goto (tgt := 34) hO dX8_isKind_30 (by decide)) ?_
    exact S_zret0 rfl hO hQ dX8_isKind_34 rfl (by decide)
def f_X8_as (p1 : Int32) (p2 : Int32) (s0 : Mem) : Option (Int32 × Mem) := bd2 (f_X8_isHouse p1 s0) fun x1 s2 => if x1 = 0 then (some ((-1000001 : Int32), s2)) else bd2 (f_X8_in p2.toInt64 (0 : Int64) (5 : Int64) s2) fun x3 s4 => if x3 = 0 then (some ((-1000001 : Int32), s4)) else ing ((5 : Int32) + p1) 29 <| bd2 (f_X8_isKind (s4 187 ((5 : Int32) + p1).toNatClampNeg) p2 s4) fun x5 s6 => if x5 = 0 then (bd2 (f_X8_find (3 : Int32) s6) fun x9 s10 => some (x9, s10)) else bd2 (f_X8_well p1 s6) fun x7 s8 => some (x7, s8)
theorem cs_X8_as (p1 : Int32) (p2 : Int32) (s0 : Mem) : CS 3 MX8_as [.ref 183, .int p1, .int p2] s0 ((f_X8_as p1 p2 s0).map wI) := by
  refine CS.of (by decide +kernel) (Nat.le_of_ble_eq_true rfl) (fun X Z hO hQ => ?_)
  show SIM X MX8_as wI Z 0 [(0, .ref 183), (1, .int p1), (2, .int p2)] [] s0 _
  unfold f_X8_as
  refine S_ (R_aload_n hO dX8_as_0 rfl) ?_
  refine S_ (R_iload_n hO dX8_as_1 rfl) ?_
  refine S_callVI (rest := []) hO dX8_as_2 (cs_X8_isHouse p1 s0) (by omega) lk_X8_175 np_X8_isHouse (rc_183 rfl) rfl (Nat.le_of_ble_eq_true rfl) (fun x1 s2 => ?_)
  refine S_if_eq (tgt := 20) hO dX8_as_5 (by decide) ?_ ?_
  · refine S_ (R_iload_n hO dX8_as_8 rfl) ?_
    refine S_ (R_i2l hO dX8_as_9) ?_
    refine S_ (R_lconst (v := (0 : Int64)) hO dX8_as_10 (by decide)) ?_
    refine S_ (R_ldc2 (v := (5 : Int64)) hO dX8_as_11 kl_X8_259) ?_
    refine S_callSI (rest := []) hO dX8_as_14 (cs_X8_in p2.toInt64 (0 : Int64) (5 : Int64) s2) (by omega) lk_X8_57 np_X8_in rfl (Nat.le_of_ble_eq_true rfl) (fun x3 s4 => ?_)
    refine S_if_ne (tgt := 23) hO dX8_as_17 (by decide) ?_ ?_
    · refine S_ (R_ldc (v := (-1000001 : Int32)) hO dX8_as_20 kc_X8_67) ?_
      exact S_iret rfl hO hQ dX8_as_22 rfl
    · refine S_ (R_aload_n hO dX8_as_23 rfl) ?_
      refine S_getR hO dX8_as_24 fl_X8_19 sh_183 rfl ?_
      refine S_ (R_iconst (v := (5 : Int32)) hO dX8_as_27 (by decide)) ?_
      refine S_ (R_iload_n hO dX8_as_28 rfl) ?_
      refine S_ (R_iadd hO dX8_as_29) ?_
      refine S_iald hO dX8_as_30 sh_187 ?_
      refine S_ (R_iload_n hO dX8_as_31 rfl) ?_
      refine S_callSI (rest := []) hO dX8_as_32 (cs_X8_isKind (s4 187 ((5 : Int32) + p1).toNatClampNeg) p2 s4) (by omega) lk_X8_261 np_X8_isKind rfl (Nat.le_of_ble_eq_true rfl) (fun x5 s6 => ?_)
      refine S_if_eq (tgt := 46) hO dX8_as_35 (by decide) ?_ ?_
      · refine S_ (R_aload_n hO dX8_as_38 rfl) ?_
        refine S_ (R_iload_n hO dX8_as_39 rfl) ?_
        refine S_callVI (rest := []) hO dX8_as_40 (cs_X8_well p1 s6) (by omega) lk_X8_72 np_X8_well (rc_183 rfl) rfl (Nat.le_of_ble_eq_true rfl) (fun x7 s8 => ?_)
        refine S_ (R_goto (tgt := 51) hO dX8_as_43 (by decide)) ?_
        exact S_iret rfl hO hQ dX8_as_51 rfl
      · refine S_ (R_aload_n hO dX8_as_46 rfl) ?_
        refine S_ (R_iconst (v := (3 : Int32)) hO dX8_as_47 (by decide)) ?_
        refine S_callVI (rest := []) hO dX8_as_48 (cs_X8_find (3 : Int32) s6) (by omega) lk_X8_68 np_X8_find (rc_183 rfl) rfl (Nat.le_of_ble_eq_true rfl) (fun x9 s10 => ?_)
        exact S_iret rfl hO hQ dX8_as_51 rfl
  · refine S_ (R_ldc (v := (-1000001 : Int32)) hO dX8_as_20 kc_X8_67) ?_
    exact S_iret rfl hO hQ dX8_as_22 rfl
def f_X8_begin (p1 : Int32) (s0 : Mem) : Option (Mem) := if (16 : Int32) ≤ (s0 183 23) then (some s0) else ing (s0 183 23) 16 <| lt (st2 s0 196 (s0 183 23).toNatClampNeg p1) fun s1 => lt (st2 s1 183 23 ((s1 183 23) + (1 : Int32))) fun s2 => some s2
theorem cs_X8_begin (p1 : Int32) (s0 : Mem) : CS 1 MX8_begin [.ref 183, .int p1] s0 ((f_X8_begin p1 s0).map wV) := by
  refine CS.of (by decide +kernel) (Nat.le_of_ble_eq_true rfl) (fun X Z hO hQ => ?_)
  show SIM X MX8_begin wV Z 0 [(0, .ref 183), (1, .int p1)] [] s0 _
  unfold f_X8_begin
  refine S_ (R_aload_n hO dX8_begin_0 rfl) ?_
  refine S_getI hO dX8_begin_1 fl_X8_264 sh_183 rfl ?_
  refine S_ (R_bipush (v := (16 : Int32)) hO dX8_begin_4 (by decide)) ?_
  refine S_icmp_ge (tgt := 29) hO dX8_begin_6 (by decide) ?_ ?_
  · refine S_ (R_aload_n hO dX8_begin_9 rfl) ?_
    refine S_getR hO dX8_begin_10 fl_X8_47 sh_183 rfl ?_
    refine S_ (R_aload_n hO dX8_begin_13 rfl) ?_
    refine S_getI hO dX8_begin_14 fl_X8_264 sh_183 rfl ?_
    refine S_ (R_iload_n hO dX8_begin_17 rfl) ?_
    refine S_iast hO dX8_begin_18 sh_196 (fun s1 => ?_)
    refine S_ (R_aload_n hO dX8_begin_19 rfl) ?_
    refine S_ (R_dup hO dX8_begin_20 rfl) ?_
    refine S_getI hO dX8_begin_21 fl_X8_264 sh_183 rfl ?_
    refine S_ (R_iconst (v := (1 : Int32)) hO dX8_begin_24 (by decide)) ?_
    refine S_ (R_iadd hO dX8_begin_25) ?_
    refine S_put hO dX8_begin_26 fl_X8_264 sh_183 rfl (fun s2 => ?_)
    exact S_vret rfl hO hQ dX8_begin_29 rfl
  · exact S_vret rfl hO hQ dX8_begin_29 rfl
def f_X8_lent (p1 : Int32) (p2 : Int32) (s0 : Mem) : Option (Int32 × Mem) := bd (f_X8_begin p2 s0) fun s2 => if p2 = (10 : Int32) then (ing ((13 : Int32) + p1) 29 <| some (s2 187 ((13 : Int32) + p1).toNatClampNeg, s2)) else some (p1, s2)
theorem cs_X8_lent (p1 : Int32) (p2 : Int32) (s0 : Mem) : CS 2 MX8_lent [.ref 183, .int p1, .int p2] s0 ((f_X8_lent p1 p2 s0).map wI) := by
  refine CS.of (by decide +kernel) (Nat.le_of_ble_eq_true rfl) (fun X Z hO hQ => ?_)
  show SIM X MX8_lent wI Z 0 [(0, .ref 183), (1, .int p1), (2, .int p2)] [] s0 _
  unfold f_X8_lent
  refine S_ (R_aload_n hO dX8_lent_0 rfl) ?_
  refine S_ (R_iload_n hO dX8_lent_1 rfl) ?_
  refine S_callVV (rest := []) hO dX8_lent_2 (cs_X8_begin p2 s0) (by omega) lk_X8_267 np_X8_begin (rc_183 rfl) rfl (Nat.le_of_ble_eq_true rfl) (fun s2 => ?_)
  refine S_ (R_iload_n hO dX8_lent_5 rfl) ?_
  refine S_ (R_bipush (v := (10 : Int32)) hO dX8_lent_6 (by decide)) ?_
  refine S_icmp_ne (tgt := 23) hO dX8_lent_8 (by decide) ?_ ?_
  · refine S_ (R_aload_n hO dX8_lent_11 rfl) ?_
    refine S_getR hO dX8_lent_12 fl_X8_19 sh_183 rfl ?_
    refine S_ (R_bipush (v := (13 : Int32)) hO dX8_lent_15 (by decide)) ?_
    refine S_ (R_iload_n hO dX8_lent_17 rfl) ?_
    refine S_ (R_iadd hO dX8_lent_18) ?_
    refine S_iald hO dX8_lent_19 sh_187 ?_
    refine S_ (R_goto (tgt := 24) hO dX8_lent_20 (by decide)) ?_
    exact S_iret rfl hO hQ dX8_lent_24 rfl
  · refine S_ (R_iload_n hO dX8_lent_23 rfl) ?_
    exact S_iret rfl hO hQ dX8_lent_24 rfl
def f_X8_woodMark (p1 : Int32) (s0 : Mem) : Option (Int32 × Mem) := bd (f_X8_begin (21 : Int32) s0) fun s2 => bd2 (f_X8_lent p1 (20 : Int32) s2) fun x3 s4 => ing ((21 : Int32) + p1) 29 <| some (x3 + (s4 187 ((21 : Int32) + p1).toNatClampNeg), s4)
theorem cs_X8_woodMark (p1 : Int32) (s0 : Mem) : CS 3 MX8_woodMark [.ref 183, .int p1] s0 ((f_X8_woodMark p1 s0).map wI) := by
  refine CS.of (by decide +kernel) (Nat.le_of_ble_eq_true rfl) (fun X Z hO hQ => ?_)
  show SIM X MX8_woodMark wI Z 0 [(0, .ref 183), (1, .int p1)] [] s0 _
  unfold f_X8_woodMark
  refine S_ (R_aload_n hO dX8_woodMark_0 rfl) ?_
  refine S_ (R_bipush (v := (21 : Int32)) hO dX8_woodMark_1 (by decide)) ?_
  refine S_callVV (rest := []) hO dX8_woodMark_3 (cs_X8_begin (21 : Int32) s0) (by omega) lk_X8_267 np_X8_begin (rc_183 rfl) rfl (Nat.le_of_ble_eq_true rfl) (fun s2 => ?_)
  refine S_ (R_aload_n hO dX8_woodMark_6 rfl) ?_
  refine S_ (R_iload_n hO dX8_woodMark_7 rfl) ?_
  refine S_ (R_bipush (v := (20 : Int32)) hO dX8_woodMark_8 (by decide)) ?_
  refine S_callVI (rest := []) hO dX8_woodMark_10 (cs_X8_lent p1 (20 : Int32) s2) (by omega) lk_X8_270 np_X8_lent (rc_183 rfl) rfl (Nat.le_of_ble_eq_true rfl) (fun x3 s4 => ?_)
  refine S_ (R_aload_n hO dX8_woodMark_13 rfl) ?_
  refine S_getR hO dX8_woodMark_14 fl_X8_19 sh_183 rfl ?_
  refine S_ (R_bipush (v := (21 : Int32)) hO dX8_woodMark_17 (by decide)) ?_
  refine S_ (R_iload_n hO dX8_woodMark_19 rfl) ?_
  refine S_ (R_iadd hO dX8_woodMark_20) ?_
  refine S_iald hO dX8_woodMark_21 sh_187 ?_
  refine S_ (R_iadd hO dX8_woodMark_22) ?_
  exact S_iret rfl hO hQ dX8_woodMark_23 rfl
def f_X8_parishSize (p1 : Int32) (s0 : Mem) : Option (Int32 × Mem) := bd (f_X8_begin (13 : Int32) s0) fun s2 => bd2 (f_X8_lent p1 (10 : Int32) s2) fun x3 s4 => some (x3 - (100 : Int32), s4)
theorem cs_X8_parishSize (p1 : Int32) (s0 : Mem) : CS 3 MX8_parishSize [.ref 183, .int p1] s0 ((f_X8_parishSize p1 s0).map wI) := by
  refine CS.of (by decide +kernel) (Nat.le_of_ble_eq_true rfl) (fun X Z hO hQ => ?_)
  show SIM X MX8_parishSize wI Z 0 [(0, .ref 183), (1, .int p1)] [] s0 _
  unfold f_X8_parishSize
  refine S_ (R_aload_n hO dX8_parishSize_0 rfl) ?_
  refine S_ (R_bipush (v := (13 : Int32)) hO dX8_parishSize_1 (by decide)) ?_
  refine S_callVV (rest := []) hO dX8_parishSize_3 (cs_X8_begin (13 : Int32) s0) (by omega) lk_X8_267 np_X8_begin (rc_183 rfl) rfl (Nat.le_of_ble_eq_true rfl) (fun s2 => ?_)
  refine S_ (R_aload_n hO dX8_parishSize_6 rfl) ?_
  refine S_ (R_iload_n hO dX8_parishSize_7 rfl) ?_
  refine S_ (R_bipush (v := (10 : Int32)) hO dX8_parishSize_8 (by decide)) ?_
  refine S_callVI (rest := []) hO dX8_parishSize_10 (cs_X8_lent p1 (10 : Int32) s2) (by omega) lk_X8_270 np_X8_lent (rc_183 rfl) rfl (Nat.le_of_ble_eq_true rfl) (fun x3 s4 => ?_)
  refine S_ (R_bipush (v := (100 : Int32)) hO dX8_parishSize_13 (by decide)) ?_
  refine S_ (R_isub hO dX8_parishSize_15) ?_
  exact S_iret rfl hO hQ dX8_parishSize_16 rfl
def f_X8_sizeOfParish (p1 : Int32) (s0 : Mem) : Option (Int32 × Mem) := ing ((5 : Int32) + p1) 29 <| if (s0 187 ((5 : Int32) + p1).toNatClampNeg) = (5 : Int32) then (bd (f_X8_begin (14 : Int32) s0) fun s2 => bd2 (f_X8_parishSize p1 s2) fun x3 s4 => some ((2 : Int32) * x3, s4)) else bd2 (f_X8_parishSize p1 s0) fun x5 s6 => some (x5, s6)
theorem cs_X8_sizeOfParish (p1 : Int32) (s0 : Mem) : CS 4 MX8_sizeOfParish [.ref 183, .int p1] s0 ((f_X8_sizeOfParish p1 s0).map wI) := by
  refine CS.of (by decide +kernel) (Nat.le_of_ble_eq_true rfl) (fun X Z hO hQ => ?_)
  show SIM X MX8_sizeOfParish wI Z 0 [(0, .ref 183), (1, .int p1)] [] s0 _
  unfold f_X8_sizeOfParish
  refine S_ (R_aload_n hO dX8_sizeOfParish_0 rfl) ?_
  refine S_getR hO dX8_sizeOfParish_1 fl_X8_19 sh_183 rfl ?_
  refine S_ (R_iconst (v := (5 : Int32)) hO dX8_sizeOfParish_4 (by decide)) ?_
  refine S_ (R_iload_n hO dX8_sizeOfParish_5 rfl) ?_
  refine S_ (R_iadd hO dX8_sizeOfParish_6) ?_
  refine S_iald hO dX8_sizeOfParish_7 sh_187 ?_
  refine S_ (R_iconst (v := (5 : Int32)) hO dX8_sizeOfParish_8 (by decide)) ?_
  refine S_icmp_ne (tgt := 26) hO dX8_sizeOfParish_9 (by decide) ?_ ?_
  · refine S_ (R_aload_n hO dX8_sizeOfParish_12 rfl) ?_
    refine S_ (R_bipush (v := (14 : Int32)) hO dX8_sizeOfParish_13 (by decide)) ?_
    refine S_callVV (rest := []) hO dX8_sizeOfParish_15 (cs_X8_begin (14 : Int32) s0) (by omega) lk_X8_267 np_X8_begin (rc_183 rfl) rfl (Nat.le_of_ble_eq_true rfl) (fun s2 => ?_)
    refine S_ (R_iconst (v := (2 : Int32)) hO dX8_sizeOfParish_18 (by decide)) ?_
    refine S_ (R_aload_n hO dX8_sizeOfParish_19 rfl) ?_
    refine S_ (R_iload_n hO dX8_sizeOfParish_20 rfl) ?_
    refine S_callVI (rest := [.int (2 : Int32)]) hO dX8_sizeOfParish_21 (cs_X8_parishSize p1 s2) (by omega) lk_X8_273 np_X8_parishSize (rc_183 rfl) rfl (Nat.le_of_ble_eq_true rfl) (fun x3 s4 => ?_)
    refine S_ (R_imul hO dX8_sizeOfParish_24) ?_
    exact S_iret rfl hO hQ dX8_sizeOfParish_25 rfl
  · refine S_ (R_aload_n hO dX8_sizeOfParish_26 rfl) ?_
    refine S_ (R_iload_n hO dX8_sizeOfParish_27 rfl) ?_
    refine S_callVI (rest := []) hO dX8_sizeOfParish_28 (cs_X8_parishSize p1 s0) (by omega) lk_X8_273 np_X8_parishSize (rc_183 rfl) rfl (Nat.le_of_ble_eq_true rfl) (fun x5 s6 => ?_)
    exact S_iret rfl hO hQ dX8_sizeOfParish_31 rfl
def f_X8_markOf (p1 : Int32) (s0 : Mem) : Option (Int32 × Mem) := ing ((5 : Int32) + p1) 29 <| lt (s0 187 ((5 : Int32) + p1).toNatClampNeg) fun x1 => if x1 = (2 : Int32) then (bd (f_X8_begin (24 : Int32) s0) fun s3 => bd2 (f_X8_woodMark p1 s3) fun x4 s5 => some ((2 : Int32) * x4, s5)) else if x1 = (3 : Int32) then (bd (f_X8_begin (22 : Int32) s0) fun s7 => bd2 (f_X8_woodMark p1 s7) fun x8 s9 => some (x8 - (1000 : Int32), s9)) else if x1 = (1 : Int32) then (bd2 (f_X8_woodMark p1 s0) fun x10 s11 => some (x10, s11)) else bd (f_X8_begin (23 : Int32) s0) fun s13 => bd2 (f_X8_lent p1 (20 : Int32) s13) fun x14 s15 => lt (x14) fun x16 => bd2 (f_X8_sizeOfParish p1 s15) fun x17 s18 => some (x16 - x17, s18)
theorem cs_X8_markOf (p1 : Int32) (s0 : Mem) : CS 5 MX8_markOf [.ref 183, .int p1] s0 ((f_X8_markOf p1 s0).map wI) := by
  refine CS.of (by decide +kernel) (Nat.le_of_ble_eq_true rfl) (fun X Z hO hQ => ?_)
  show SIM X MX8_markOf wI Z 0 [(0, .ref 183), (1, .int p1)] [] s0 _
  unfold f_X8_markOf
  refine S_ (R_aload_n hO dX8_markOf_0 rfl) ?_
  refine S_getR hO dX8_markOf_1 fl_X8_19 sh_183 rfl ?_
  refine S_ (R_iconst (v := (5 : Int32)) hO dX8_markOf_4 (by decide)) ?_
  refine S_ (R_iload_n hO dX8_markOf_5 rfl) ?_
  refine S_ (R_iadd hO dX8_markOf_6) ?_
  refine S_iald hO dX8_markOf_7 sh_187 ?_
  refine S_istore_n (L2 := fun x1 => [(2, .int x1), (0, .ref 183), (1, .int p1)]) hO dX8_markOf_8 (Nat.le_of_ble_eq_true rfl) (fun _ => rfl) (fun x1 => ?_)
  refine S_ (R_iload_n hO dX8_markOf_9 rfl) ?_
  refine S_ (R_iconst (v := (2 : Int32)) hO dX8_markOf_10 (by decide)) ?_
  refine S_icmp_ne (tgt := 28) hO dX8_markOf_11 (by decide) ?_ ?_
  · refine S_ (R_aload_n hO dX8_markOf_14 rfl) ?_
    refine S_ (R_bipush (v := (24 : Int32)) hO dX8_markOf_15 (by decide)) ?_
    refine S_callVV (rest := []) hO dX8_markOf_17 (cs_X8_begin (24 : Int32) s0) (by omega) lk_X8_267 np_X8_begin (rc_183 rfl) rfl (Nat.le_of_ble_eq_true rfl) (fun s3 => ?_)
    refine S_ (R_iconst (v := (2 : Int32)) hO dX8_markOf_20 (by decide)) ?_
    refine S_ (R_aload_n hO dX8_markOf_21 rfl) ?_
    refine S_ (R_iload_n hO dX8_markOf_22 rfl) ?_
    refine S_callVI (rest := [.int (2 : Int32)]) hO dX8_markOf_23 (cs_X8_woodMark p1 s3) (by omega) lk_X8_276 np_X8_woodMark (rc_183 rfl) rfl (Nat.le_of_ble_eq_true rfl) (fun x4 s5 => ?_)
    refine S_ (R_imul hO dX8_markOf_26) ?_
    exact S_iret rfl hO hQ dX8_markOf_27 rfl
  · refine S_ (R_iload_n hO dX8_markOf_28 rfl) ?_
    refine S_ (R_iconst (v := (3 : Int32)) hO dX8_markOf_29 (by decide)) ?_
    refine S_icmp_ne (tgt := 49) hO dX8_markOf_30 (by decide) ?_ ?_
    · refine S_ (R_aload_n hO dX8_markOf_33 rfl) ?_
      refine S_ (R_bipush (v := (22 : Int32)) hO dX8_markOf_34 (by decide)) ?_
      refine S_callVV (rest := []) hO dX8_markOf_36 (cs_X8_begin (22 : Int32) s0) (by omega) lk_X8_267 np_X8_begin (rc_183 rfl) rfl (Nat.le_of_ble_eq_true rfl) (fun s7 => ?_)
      refine S_ (R_aload_n hO dX8_markOf_39 rfl) ?_
      refine S_ (R_iload_n hO dX8_markOf_40 rfl) ?_
      refine S_callVI (rest := []) hO dX8_markOf_41 (cs_X8_woodMark p1 s7) (by omega) lk_X8_276 np_X8_woodMark (rc_183 rfl) rfl (Nat.le_of_ble_eq_true rfl) (fun x8 s9 => ?_)
      refine S_ (R_sipush (v := (1000 : Int32)) hO dX8_markOf_44 (by decide)) ?_
      refine S_ (R_isub hO dX8_markOf_47) ?_
      exact S_iret rfl hO hQ dX8_markOf_48 rfl
    · refine S_ (R_iload_n hO dX8_markOf_49 rfl) ?_
      refine S_ (R_iconst (v := (1 : Int32)) hO dX8_markOf_50 (by decide)) ?_
      refine S_icmp_ne (tgt := 60) hO dX8_markOf_51 (by decide) ?_ ?_
      · refine S_ (R_aload_n hO dX8_markOf_54 rfl) ?_
        refine S_ (R_iload_n hO dX8_markOf_55 rfl) ?_
        refine S_callVI (rest := []) hO dX8_markOf_56 (cs_X8_woodMark p1 s0) (by omega) lk_X8_276 np_X8_woodMark (rc_183 rfl) rfl (Nat.le_of_ble_eq_true rfl) (fun x10 s11 => ?_)
        exact S_iret rfl hO hQ dX8_markOf_59 rfl
      · refine S_ (R_aload_n hO dX8_markOf_60 rfl) ?_
        refine S_ (R_bipush (v := (23 : Int32)) hO dX8_markOf_61 (by decide)) ?_
        refine S_callVV (rest := []) hO dX8_markOf_63 (cs_X8_begin (23 : Int32) s0) (by omega) lk_X8_267 np_X8_begin (rc_183 rfl) rfl (Nat.le_of_ble_eq_true rfl) (fun s13 => ?_)
        refine S_ (R_aload_n hO dX8_markOf_66 rfl) ?_
        refine S_ (R_iload_n hO dX8_markOf_67 rfl) ?_
        refine S_ (R_bipush (v := (20 : Int32)) hO dX8_markOf_68 (by decide)) ?_
        refine S_callVI (rest := []) hO dX8_markOf_70 (cs_X8_lent p1 (20 : Int32) s13) (by omega) lk_X8_270 np_X8_lent (rc_183 rfl) rfl (Nat.le_of_ble_eq_true rfl) (fun x14 s15 => ?_)
        refine S_istore_n (L2 := fun x16 => [(3, .int x16), (2, .int x1), (0, .ref 183), (1, .int p1)]) hO dX8_markOf_73 (Nat.le_of_ble_eq_true rfl) (fun _ => rfl) (fun x16 => ?_)
        refine S_ (R_iload_n hO dX8_markOf_74 rfl) ?_
        refine S_ (R_aload_n hO dX8_markOf_75 rfl) ?_
        refine S_ (R_iload_n hO dX8_markOf_76 rfl) ?_
        refine S_callVI (rest := [.int x16]) hO dX8_markOf_77 (cs_X8_sizeOfParish p1 s15) (by omega) lk_X8_279 np_X8_sizeOfParish (rc_183 rfl) rfl (Nat.le_of_ble_eq_true rfl) (fun x17 s18 => ?_)
        refine S_ (R_isub hO dX8_markOf_80) ?_
        exact S_iret rfl hO hQ dX8_markOf_81 rfl
def f_X8_woodSize (p1 : Int32) (s0 : Mem) : Option (Int32 × Mem) := bd (f_X8_begin (11 : Int32) s0) fun s2 => bd2 (f_X8_lent p1 (10 : Int32) s2) fun x3 s4 => lt (x3) fun x5 => bd2 (f_X8_markOf p1 s4) fun x6 s7 => some (x5 + x6, s7)
theorem cs_X8_woodSize (p1 : Int32) (s0 : Mem) : CS 6 MX8_woodSize [.ref 183, .int p1] s0 ((f_X8_woodSize p1 s0).map wI) := by
  refine CS.of (by decide +kernel) (Nat.le_of_ble_eq_true rfl) (fun X Z hO hQ => ?_)
  show SIM X MX8_woodSize wI Z 0 [(0, .ref 183), (1, .int p1)] [] s0 _
  unfold f_X8_woodSize
  refine S_ (R_aload_n hO dX8_woodSize_0 rfl) ?_
  refine S_ (R_bipush (v := (11 : Int32)) hO dX8_woodSize_1 (by decide)) ?_
  refine S_callVV (rest := []) hO dX8_woodSize_3 (cs_X8_begin (11 : Int32) s0) (by omega) lk_X8_267 np_X8_begin (rc_183 rfl) rfl (Nat.le_of_ble_eq_true rfl) (fun s2 => ?_)
  refine S_ (R_aload_n hO dX8_woodSize_6 rfl) ?_
  refine S_ (R_iload_n hO dX8_woodSize_7 rfl) ?_
  refine S_ (R_bipush (v := (10 : Int32)) hO dX8_woodSize_8 (by decide)) ?_
  refine S_callVI (rest := []) hO dX8_woodSize_10 (cs_X8_lent p1 (10 : Int32) s2) (by omega) lk_X8_270 np_X8_lent (rc_183 rfl) rfl (Nat.le_of_ble_eq_true rfl) (fun x3 s4 => ?_)
  refine S_istore_n (L2 := fun x5 => [(2, .int x5), (0, .ref 183), (1, .int p1)]) hO dX8_woodSize_13 (Nat.le_of_ble_eq_true rfl) (fun _ => rfl) (fun x5 => ?_)
  refine S_ (R_iload_n hO dX8_woodSize_14 rfl) ?_
  refine S_ (R_aload_n hO dX8_woodSize_15 rfl) ?_
  refine S_ (R_iload_n hO dX8_woodSize_16 rfl) ?_
  refine S_callVI (rest := [.int x5]) hO dX8_woodSize_17 (cs_X8_markOf p1 s4) (by omega) lk_X8_282 np_X8_markOf (rc_183 rfl) rfl (Nat.le_of_ble_eq_true rfl) (fun x6 s7 => ?_)
  refine S_ (R_iadd hO dX8_woodSize_20) ?_
  exact S_iret rfl hO hQ dX8_woodSize_21 rfl
def f_X8_sizeOf (p1 : Int32) (s0 : Mem) : Option (Int32 × Mem) := ing ((5 : Int32) + p1) 29 <| lt (s0 187 ((5 : Int32) + p1).toNatClampNeg) fun x1 => if x1 = (2 : Int32) then (bd (f_X8_begin (12 : Int32) s0) fun s3 => bd2 (f_X8_woodSize p1 s3) fun x4 s5 => some (-x4, s5)) else if x1 < (4 : Int32) then (bd2 (f_X8_woodSize p1 s0) fun x8 s9 => some (x8, s9)) else bd2 (f_X8_sizeOfParish p1 s0) fun x6 s7 => some (x6, s7)
theorem cs_X8_sizeOf (p1 : Int32) (s0 : Mem) : CS 7 MX8_sizeOf [.ref 183, .int p1] s0 ((f_X8_sizeOf p1 s0).map wI) := by
  refine CS.of (by decide +kernel) (Nat.le_of_ble_eq_true rfl) (fun X Z hO hQ => ?_)
  show SIM X MX8_sizeOf wI Z 0 [(0, .ref 183), (1, .int p1)] [] s0 _
  unfold f_X8_sizeOf
  refine S_ (R_aload_n hO dX8_sizeOf_0 rfl) ?_
  refine S_getR hO dX8_sizeOf_1 fl_X8_19 sh_183 rfl ?_
  refine S_ (R_iconst (v := (5 : Int32)) hO dX8_sizeOf_4 (by decide)) ?_
  refine S_ (R_iload_n hO dX8_sizeOf_5 rfl) ?_
  refine S_ (R_iadd hO dX8_sizeOf_6) ?_
  refine S_iald hO dX8_sizeOf_7 sh_187 ?_
  refine S_istore_n (L2 := fun x1 => [(2, .int x1), (0, .ref 183), (1, .int p1)]) hO dX8_sizeOf_8 (Nat.le_of_ble_eq_true rfl) (fun _ => rfl) (fun x1 => ?_)
  refine S_ (R_iload_n hO dX8_sizeOf_9 rfl) ?_
  refine S_ (R_iconst (v := (2 : Int32)) hO dX8_sizeOf_10 (by decide)) ?_
  refine S_icmp_ne (tgt := 27) hO dX8_sizeOf_11 (by decide) ?_ ?_
  · refine S_ (R_aload_n hO dX8_sizeOf_14 rfl) ?_
    refine S_ (R_bipush (v := (12 : Int32)) hO dX8_sizeOf_15 (by decide)) ?_
    refine S_callVV (rest := []) hO dX8_sizeOf_17 (cs_X8_begin (12 : Int32) s0) (by omega) lk_X8_267 np_X8_begin (rc_183 rfl) rfl (Nat.le_of_ble_eq_true rfl) (fun s3 => ?_)
    refine S_ (R_aload_n hO dX8_sizeOf_20 rfl) ?_
    refine S_ (R_iload_n hO dX8_sizeOf_21 rfl) ?_
    refine S_callVI (rest := []) hO dX8_sizeOf_22 (cs_X8_woodSize p1 s3) (by omega) lk_X8_285 np_X8_woodSize (rc_183 rfl) rfl (Nat.le_of_ble_eq_true rfl) (fun x4 s5 => ?_)
    refine S_ (R_ineg hO dX8_sizeOf_25) ?_
    exact S_iret rfl hO hQ dX8_sizeOf_26 rfl
  · refine S_ (R_iload_n hO dX8_sizeOf_27 rfl) ?_
    refine S_ (R_iconst (v := (4 : Int32)) hO dX8_sizeOf_28 (by decide)) ?_
    refine S_icmp_lt (tgt := 40) hO dX8_sizeOf_29 (by decide) ?_ ?_
    · refine S_ (R_aload_n hO dX8_sizeOf_32 rfl) ?_
      refine S_ (R_iload_n hO dX8_sizeOf_33 rfl) ?_
      refine S_callVI (rest := []) hO dX8_sizeOf_34 (cs_X8_sizeOfParish p1 s0) (by omega) lk_X8_279 np_X8_sizeOfParish (rc_183 rfl) rfl (Nat.le_of_ble_eq_true rfl) (fun x6 s7 => ?_)
      refine S_ (R_goto (tgt := 45) hO dX8_sizeOf_37 (by decide)) ?_
      exact S_iret rfl hO hQ dX8_sizeOf_45 rfl
    · refine S_ (R_aload_n hO dX8_sizeOf_40 rfl) ?_
      refine S_ (R_iload_n hO dX8_sizeOf_41 rfl) ?_
      refine S_callVI (rest := []) hO dX8_sizeOf_42 (cs_X8_woodSize p1 s0) (by omega) lk_X8_285 np_X8_woodSize (rc_183 rfl) rfl (Nat.le_of_ble_eq_true rfl) (fun x8 s9 => ?_)
      exact S_iret rfl hO hQ dX8_sizeOf_45 rfl
def f_X8_ask (p1 : Int32) (p2 : Int32) (s0 : Mem) : Option (Int32 × Mem) := bd2 (f_X8_isHouse p1 s0) fun x1 s2 => if x1 = 0 then (some ((-1000001 : Int32), s2)) else bd2 (f_X8_in p2.toInt64 (0 : Int64) (1 : Int64) s2) fun x3 s4 => if x3 = 0 then (some ((-1000001 : Int32), s4)) else lt (st2 s4 183 23 (0 : Int32)) fun s5 => if p2 = 0 then (bd2 (f_X8_sizeOf p1 s5) fun x6 s7 => some (x6, s7)) else bd2 (f_X8_markOf p1 s5) fun x8 s9 => some (x8, s9)
theorem cs_X8_ask (p1 : Int32) (p2 : Int32) (s0 : Mem) : CS 8 MX8_ask [.ref 183, .int p1, .int p2] s0 ((f_X8_ask p1 p2 s0).map wI) := by
  refine CS.of (by decide +kernel) (Nat.le_of_ble_eq_true rfl) (fun X Z hO hQ => ?_)
  show SIM X MX8_ask wI Z 0 [(0, .ref 183), (1, .int p1), (2, .int p2)] [] s0 _
  unfold f_X8_ask
  refine S_ (R_aload_n hO dX8_ask_0 rfl) ?_
  refine S_ (R_iload_n hO dX8_ask_1 rfl) ?_
  refine S_callVI (rest := []) hO dX8_ask_2 (cs_X8_isHouse p1 s0) (by omega) lk_X8_175 np_X8_isHouse (rc_183 rfl) rfl (Nat.le_of_ble_eq_true rfl) (fun x1 s2 => ?_)
  refine S_if_eq (tgt := 18) hO dX8_ask_5 (by decide) ?_ ?_
  · refine S_ (R_iload_n hO dX8_ask_8 rfl) ?_
    refine S_ (R_i2l hO dX8_ask_9) ?_
    refine S_ (R_lconst (v := (0 : Int64)) hO dX8_ask_10 (by decide)) ?_
    refine S_ (R_lconst (v := (1 : Int64)) hO dX8_ask_11 (by decide)) ?_
    refine S_callSI (rest := []) hO dX8_ask_12 (cs_X8_in p2.toInt64 (0 : Int64) (1 : Int64) s2) (by omega) lk_X8_57 np_X8_in rfl (Nat.le_of_ble_eq_true rfl) (fun x3 s4 => ?_)
    refine S_if_ne (tgt := 21) hO dX8_ask_15 (by decide) ?_ ?_
    · refine S_ (R_ldc (v := (-1000001 : Int32)) hO dX8_ask_18 kc_X8_67) ?_
      exact S_iret rfl hO hQ dX8_ask_20 rfl
    · refine S_ (R_aload_n hO dX8_ask_21 rfl) ?_
      refine S_ (R_iconst (v := (0 : Int32)) hO dX8_ask_22 (by decide)) ?_
      refine S_put hO dX8_ask_23 fl_X8_264 sh_183 rfl (fun s5 => ?_)
      refine S_ (R_iload_n hO dX8_ask_26 rfl) ?_
      refine S_if_ne (tgt := 38) hO dX8_ask_27 (by decide) ?_ ?_
      · refine S_ (R_aload_n hO dX8_ask_30 rfl) ?_
        refine S_ (R_iload_n hO dX8_ask_31 rfl) ?_
        refine S_callVI (rest := []) hO dX8_ask_32 (cs_X8_sizeOf p1 s5) (by omega) lk_X8_288 np_X8_sizeOf (rc_183 rfl) rfl (Nat.le_of_ble_eq_true rfl) (fun x6 s7 => ?_)
        refine S_ (R_goto (tgt := 43) hO dX8_ask_35 (by decide)) ?_
        exact S_iret rfl hO hQ dX8_ask_43 rfl
      · refine S_ (R_aload_n hO dX8_ask_38 rfl) ?_
        refine S_ (R_iload_n hO dX8_ask_39 rfl) ?_
        refine S_callVI (rest := []) hO dX8_ask_40 (cs_X8_markOf p1 s5) (by omega) lk_X8_282 np_X8_markOf (rc_183 rfl) rfl (Nat.le_of_ble_eq_true rfl) (fun x8 s9 => ?_)
        exact S_iret rfl hO hQ dX8_ask_43 rfl
  · refine S_ (R_ldc (v := (-1000001 : Int32)) hO dX8_ask_18 kc_X8_67) ?_
    exact S_iret rfl hO hQ dX8_ask_20 rfl
def f_X8_trace (p1 : Int32) (s0 : Mem) : Option (Int32 × Mem) := bd2 (f_X8_in p1.toInt64 (0 : Int64) (((s0 183 23) - (1 : Int32)).toInt64) s0) fun x1 s2 => if x1 = 0 then (some ((-1000000 : Int32), s2)) else ing p1 16 <| some (s2 196 p1.toNatClampNeg, s2)
theorem cs_X8_trace (p1 : Int32) (s0 : Mem) : CS 2 MX8_trace [.ref 183, .int p1] s0 ((f_X8_trace p1 s0).map wI) := by
  refine CS.of (by decide +kernel) (Nat.le_of_ble_eq_true rfl) (fun X Z hO hQ => ?_)
  show SIM X MX8_trace wI Z 0 [(0, .ref 183), (1, .int p1)] [] s0 _
  unfold f_X8_trace
  refine S_ (R_iload_n hO dX8_trace_0 rfl) ?_
  refine S_ (R_i2l hO dX8_trace_1) ?_
  refine S_ (R_lconst (v := (0 : Int64)) hO dX8_trace_2 (by decide)) ?_
  refine S_ (R_aload_n hO dX8_trace_3 rfl) ?_
  refine S_getI hO dX8_trace_4 fl_X8_264 sh_183 rfl ?_
  refine S_ (R_iconst (v := (1 : Int32)) hO dX8_trace_7 (by decide)) ?_
  refine S_ (R_isub hO dX8_trace_8) ?_
  refine S_ (R_i2l hO dX8_trace_9) ?_
  refine S_callSI (rest := []) hO dX8_trace_10 (cs_X8_in p1.toInt64 (0 : Int64) (((s0 183 23) - (1 : Int32)).toInt64) s0) (by omega) lk_X8_57 np_X8_in rfl (Nat.le_of_ble_eq_true rfl) (fun x1 s2 => ?_)
  refine S_if_eq (tgt := 25) hO dX8_trace_13 (by decide) ?_ ?_
  · refine S_ (R_aload_n hO dX8_trace_16 rfl) ?_
    refine S_getR hO dX8_trace_17 fl_X8_47 sh_183 rfl ?_
    refine S_ (R_iload_n hO dX8_trace_20 rfl) ?_
    refine S_iald hO dX8_trace_21 sh_196 ?_
    refine S_ (R_goto (tgt := 27) hO dX8_trace_22 (by decide)) ?_
    exact S_iret rfl hO hQ dX8_trace_27 rfl
  · refine S_ (R_ldc (v := (-1000000 : Int32)) hO dX8_trace_25 kc_X8_202) ?_
    exact S_iret rfl hO hQ dX8_trace_27 rfl
def f_X8_count_4 (p1 : Int32) : Nat → Int32 → Int32 → Mem → Option (Int32 × Mem)
  | 0, _, _, _ => none
  | n + 1, m2, m3, s0 => if (8 : Int32) ≤ m3 then (swi p1 0 8 (fun j => match j with | 0 => (some (m2, s0)) | 1 => (ing (0 : Int32) 29 <| some (s0 187 (0 : Int32).toNatClampNeg, s0)) | 2 => (ing (3 : Int32) 29 <| some (s0 187 (3 : Int32).toNatClampNeg, s0)) | 3 => (bd2 (f_X8_standing s0) fun x5 s6 => bd2 (f_X8_ones x5 s6) fun x7 s8 => some (x7, s8)) | 4 => (bd2 (f_X8_spinOf (0 : Int32) (1 : Int32) s0) fun x9 s10 => some (x9, s10)) | 5 => (ing (4 : Int32) 29 <| some (s0 187 (4 : Int32).toNatClampNeg, s0)) | 6 => (some (s0 183 17, s0)) | 7 => (some (s0 183 8, s0)) | _ => none) (some ((-1000001 : Int32), s0))) else ing m3 8 <| if (s0 185 m3.toNatClampNeg) < 0 then (lt (m2 + (0 : Int32)) fun x3 => lt (m3 + (1 : Int32)) fun x4 => f_X8_count_4 p1 n x3 x4 s0) else lt (m2 + (1 : Int32)) fun x1 => lt (m3 + (1 : Int32)) fun x2 => f_X8_count_4 p1 n x1 x2 s0
theorem w_X8_count_4 {X : CX} {Z : Option Value × Mem → Prop} (hO : OKX X false 3 MX8_count) (hQ : OKS X Z) (p1 : Int32) : ∀ (n : Nat) (m2 : Int32) (m3 : Int32) (s0 : Mem), SIM X MX8_count wI Z 4 [(0, .ref 183), (1, .int p1), (2, .int m2), (3, .int m3)] [] s0 (f_X8_count_4 p1 n m2 m3 s0) := by
  intro n
  induction n with
  | zero => intros; exact S_none
  | succ n ih =>
    intro m2 m3 s0
    rw [f_X8_count_4]
    refine S_ (R_iload_n hO dX8_count_4 rfl) ?_
    refine S_ (R_bipush (v := (8 : Int32)) hO dX8_count_5 (by decide)) ?_
    refine S_icmp_ge (tgt := 33) hO dX8_count_7 (by decide) ?_ ?_
    · refine S_ (R_iload_n hO dX8_count_10 rfl) ?_
      refine S_ (R_aload_n hO dX8_count_11 rfl) ?_
      refine S_getR hO dX8_count_12 fl_X8_13 sh_183 rfl ?_
      refine S_ (R_iload_n hO dX8_count_15 rfl) ?_
      refine S_iald hO dX8_count_16 sh_185 ?_
      refine S_if_lt (tgt := 24) hO dX8_count_17 (by decide) ?_ ?_
      · refine S_ (R_iconst (v := (1 : Int32)) hO dX8_count_20 (by decide)) ?_
        refine S_ (R_goto (tgt := 25) hO dX8_count_21 (by decide)) ?_
        refine S_ (R_iadd hO dX8_count_25) ?_
        refine S_istore_n (L2 := fun x1 => [(2, .int x1), (0, .ref 183), (1, .int p1), (3, .int m3)]) hO dX8_count_26 (Nat.le_of_ble_eq_true rfl) (fun _ => rfl) (fun x1 => ?_)
        refine S_iinc (L2 := fun x2 => [(3, .int x2), (2, .int x1), (0, .ref 183), (1, .int p1)]) (v := (1 : Int32)) hO dX8_count_27 rfl (by decide) (Nat.le_of_ble_eq_true rfl) (fun _ => rfl) (fun x2 => ?_)
        refine S_ (R_goto (tgt := 4) hO dX8_count_30 (by decide)) ?_
        refine S_sub [2, 3, 1, 0] rfl ?_
        exact ih x1 x2 s0
      · refine S_ (R_iconst (v := (0 : Int32)) hO dX8_count_24 (by decide)) ?_
        refine S_ (R_iadd hO dX8_count_25) ?_
        refine S_istore_n (L2 := fun x3 => [(2, .int x3), (0, .ref 183), (1, .int p1), (3, .int m3)]) hO dX8_count_26 (Nat.le_of_ble_eq_true rfl) (fun _ => rfl) (fun x3 => ?_)
        refine S_iinc (L2 := fun x4 => [(3, .int x4), (2, .int x3), (0, .ref 183), (1, .int p1)]) (v := (1 : Int32)) hO dX8_count_27 rfl (by decide) (Nat.le_of_ble_eq_true rfl) (fun _ => rfl) (fun x4 => ?_)
        refine S_ (R_goto (tgt := 4) hO dX8_count_30 (by decide)) ?_
        refine S_sub [2, 3, 1, 0] rfl ?_
        exact ih x3 x4 s0
    · refine S_ (R_iload_n hO dX8_count_33 rfl) ?_
      refine S_tsw (lo := 0) (n := 8) (tgt := fun j => ([80, 82, 89, 96, 104, 111, 118, 123] : List Nat).getD j 0) (tgd := 128) hO dX8_count_34 (by decide) (by decide) (by decide) ?_ ?_
      · refine S_ (R_ldc (v := (-1000001 : Int32)) hO dX8_count_128 kc_X8_67) ?_
        exact S_iret rfl hO hQ dX8_count_130 rfl
      · intro j hj
        rcases (show j = 0 ∨ j = 1 ∨ j = 2 ∨ j = 3 ∨ j = 4 ∨ j = 5 ∨ j = 6 ∨ j = 7 by omega) with rfl | rfl | rfl | rfl | rfl | rfl | rfl | rfl
        · refine S_ (R_iload_n hO dX8_count_80 rfl) ?_
          exact S_iret rfl hO hQ dX8_count_81 rfl
        · refine S_ (R_aload_n hO dX8_count_82 rfl) ?_
          refine S_getR hO dX8_count_83 fl_X8_19 sh_183 rfl ?_
          refine S_ (R_iconst (v := (0 : Int32)) hO dX8_count_86 (by decide)) ?_
          refine S_iald hO dX8_count_87 sh_187 ?_
          exact S_iret rfl hO hQ dX8_count_88 rfl
        · refine S_ (R_aload_n hO dX8_count_89 rfl) ?_
          refine S_getR hO dX8_count_90 fl_X8_19 sh_183 rfl ?_
          refine S_ (R_iconst (v := (3 : Int32)) hO dX8_count_93 (by decide)) ?_
          refine S_iald hO dX8_count_94 sh_187 ?_
          exact S_iret rfl hO hQ dX8_count_95 rfl
        · refine S_ (R_aload_n hO dX8_count_96 rfl) ?_
          refine S_callVI (rest := []) hO dX8_count_97 (cs_X8_standing s0) (by omega) lk_X8_155 np_X8_standing (rc_183 rfl) rfl (Nat.le_of_ble_eq_true rfl) (fun x5 s6 => ?_)
          refine S_callSI (rest := []) hO dX8_count_100 (cs_X8_ones x5 s6) (by omega) lk_X8_215 np_X8_ones rfl (Nat.le_of_ble_eq_true rfl) (fun x7 s8 => ?_)
          exact S_iret rfl hO hQ dX8_count_103 rfl
        · refine S_ (R_aload_n hO dX8_count_104 rfl) ?_
          refine S_ (R_iconst (v := (0 : Int32)) hO dX8_count_105 (by decide)) ?_
          refine S_ (R_iconst (v := (1 : Int32)) hO dX8_count_106 (by decide)) ?_
          refine S_callVI (rest := []) hO dX8_count_107 (cs_X8_spinOf (0 : Int32) (1 : Int32) s0) (by omega) lk_X8_184 np_X8_spinOf (rc_183 rfl) rfl (Nat.le_of_ble_eq_true rfl) (fun x9 s10 => ?_)
          exact S_iret rfl hO hQ dX8_count_110 rfl
        · refine S_ (R_aload_n hO dX8_count_111 rfl) ?_
          refine S_getR hO dX8_count_112 fl_X8_19 sh_183 rfl ?_
          refine S_ (R_iconst (v := (4 : Int32)) hO dX8_count_115 (by decide)) ?_
          refine S_iald hO dX8_count_116 sh_187 ?_
          exact S_iret rfl hO hQ dX8_count_117 rfl
        · refine S_ (R_aload_n hO dX8_count_118 rfl) ?_
          refine S_getI hO dX8_count_119 fl_X8_139 sh_183 rfl ?_
          exact S_iret rfl hO hQ dX8_count_122 rfl
        · refine S_ (R_aload_n hO dX8_count_123 rfl) ?_
          refine S_getI hO dX8_count_124 fl_X8_81 sh_183 rfl ?_
          exact S_iret rfl hO hQ dX8_count_127 rfl
def f_X8_count (p1 : Int32) (s0 : Mem) : Option (Int32 × Mem) := lt ((0 : Int32)) fun x1 => lt ((0 : Int32)) fun x2 => f_X8_count_4 p1 FU x1 x2 s0
theorem cs_X8_count (p1 : Int32) (s0 : Mem) : CS 3 MX8_count [.ref 183, .int p1] s0 ((f_X8_count p1 s0).map wI) := by
  refine CS.of (by decide +kernel) (Nat.le_of_ble_eq_true rfl) (fun X Z hO hQ => ?_)
  show SIM X MX8_count wI Z 0 [(0, .ref 183), (1, .int p1)] [] s0 _
  unfold f_X8_count
  refine S_ (R_iconst (v := (0 : Int32)) hO dX8_count_0 (by decide)) ?_
  refine S_istore_n (L2 := fun x1 => [(2, .int x1), (0, .ref 183), (1, .int p1)]) hO dX8_count_1 (Nat.le_of_ble_eq_true rfl) (fun _ => rfl) (fun x1 => ?_)
  refine S_ (R_iconst (v := (0 : Int32)) hO dX8_count_2 (by decide)) ?_
  refine S_istore_n (L2 := fun x2 => [(3, .int x2), (2, .int x1), (0, .ref 183), (1, .int p1)]) hO dX8_count_3 (Nat.le_of_ble_eq_true rfl) (fun _ => rfl) (fun x2 => ?_)
  refine S_sub [2, 3, 1, 0] rfl ?_
  exact w_X8_count_4 hO hQ p1 FU x1 x2 s0
def f_X8_status (s0 : Mem) : Option (Int32 × Mem) := some (s0 183 3, s0)
theorem cs_X8_status (s0 : Mem) : CS 1 MX8_status [.ref 183] s0 ((f_X8_status s0).map wI) := by
  refine CS.of (by decide +kernel) (Nat.le_of_ble_eq_true rfl) (fun X Z hO hQ => ?_)
  show SIM X MX8_status wI Z 0 [(0, .ref 183)] [] s0 _
  unfold f_X8_status
  refine S_ (R_aload_n hO dX8_status_0 rfl) ?_
  refine S_getI hO dX8_status_1 fl_X8_50 sh_183 rfl ?_
  exact S_iret rfl hO hQ dX8_status_4 rfl
