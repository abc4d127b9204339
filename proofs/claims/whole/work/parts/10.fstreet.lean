def f_X7_within (p0 : Int32) (p1 : Int32) (p2 : Int32) (s0 : Mem) : Option (Int32 × Mem) := if p0 < p1 then (some ((0 : Int32), s0)) else if p2 < p0 then (some ((0 : Int32), s0)) else some ((1 : Int32), s0)
theorem cs_X7_within (p0 : Int32) (p1 : Int32) (p2 : Int32) (s0 : Mem) : CS 1 MX7_within [.int p0, .int p1, .int p2] s0 ((f_X7_within p0 p1 p2 s0).map wI) := by
  refine CS.of (by decide +kernel) (Nat.le_of_ble_eq_true rfl) (fun X Z hO hQ => ?_)
  show SIM X MX7_within wI Z 0 [(0, .int p0), (1, .int p1), (2, .int p2)] [] s0 _
  unfold f_X7_within
  refine S_ (R_iload_n hO dX7_within_0 rfl) ?_
  refine S_ (R_iload_n hO dX7_within_1 rfl) ?_
  refine S_icmp_lt (tgt := 14) hO dX7_within_2 (by decide) ?_ ?_
  · refine S_ (R_iload_n hO dX7_within_5 rfl) ?_
    refine S_ (R_iload_n hO dX7_within_6 rfl) ?_
    refine S_icmp_gt (tgt := 14) hO dX7_within_7 (by decide) ?_ ?_
    · refine S_ (R_iconst (v := (1 : Int32)) hO dX7_within_10 (by decide)) ?_
      refine S_ (R_goto (tgt := 15) hO dX7_within_11 (by decide)) ?_
      exact S_zret0 rfl hO hQ dX7_within_15 rfl (by decide)
    · refine S_ (R_iconst (v := (0 : Int32)) hO dX7_within_14 (by decide)) ?_
      exact S_zret0 rfl hO hQ dX7_within_15 rfl (by decide)
  · refine S_ (R_iconst (v := (0 : Int32)) hO dX7_within_14 (by decide)) ?_
    exact S_zret0 rfl hO hQ dX7_within_15 rfl (by decide)
def f_X4_make_17 (b : Nat) (p1 : Int32) (p2 : Int32) : Nat → Int32 → Mem → Option (Mem)
  | 0, _, _ => none
  | n + 1, m3, s0 => if (40 : Int32) ≤ m3 then (some s0) else ing m3 40 <| lt (st2 s0 (b + 1) m3.toNatClampNeg (0 : Int32)) fun s1 => lt (m3 + (1 : Int32)) fun x2 => f_X4_make_17 b p1 p2 n x2 s1
theorem w_X4_make_17 {X : CX} {Z : Option Value × Mem → Prop} (hO : OKX X false 1 MX4_make) (hQ : OKS X Z) (b : Nat) (hb : isRw b) (p1 : Int32) (p2 : Int32) : ∀ (n : Nat) (m3 : Int32) (s0 : Mem), SIM X MX4_make wV Z 17 [(0, .ref b), (3, .int m3)] [] s0 (f_X4_make_17 b p1 p2 n m3 s0) := by
  intro n
  induction n with
  | zero => intros; exact S_none
  | succ n ih =>
    intro m3 s0
    rw [f_X4_make_17]
    refine S_ (R_iload_n hO dX4_make_17 rfl) ?_
    refine S_ (R_bipush (v := (40 : Int32)) hO dX4_make_18 (by decide)) ?_
    refine S_icmp_ge (tgt := 36) hO dX4_make_20 (by decide) ?_ ?_
    · refine S_ (R_aload_n hO dX4_make_23 rfl) ?_
      refine S_getR hO dX4_make_24 fl_X4_9 hb.1 rfl ?_
      refine S_ (R_iload_n hO dX4_make_27 rfl) ?_
      refine S_ (R_iconst (v := (0 : Int32)) hO dX4_make_28 (by decide)) ?_
      refine S_iast hO dX4_make_29 hb.2 (fun s1 => ?_)
      refine S_iinc (L2 := fun x2 => [(3, .int x2), (0, .ref b)]) (v := (1 : Int32)) hO dX4_make_30 rfl (by decide) (Nat.le_of_ble_eq_true rfl) (fun _ => rfl) (fun x2 => ?_)
      refine S_ (R_goto (tgt := 17) hO dX4_make_33 (by decide)) ?_
      refine S_sub [1, 0] rfl ?_
      exact ih x2 s1
    · exact S_vret rfl hO hQ dX4_make_36 rfl
def f_X4_make (b : Nat) (p1 : Int32) (p2 : Int32) (s0 : Mem) : Option (Mem) := lt (st2 s0 b 1 (0 : Int32)) fun s1 => lt (st2 s1 b 2 p1) fun s2 => lt (st2 s2 b 3 p2) fun s3 => lt ((0 : Int32)) fun x4 => f_X4_make_17 b p1 p2 FU x4 s3
theorem cs_X4_make (b : Nat) (hb : isRw b) (p1 : Int32) (p2 : Int32) (s0 : Mem) : CS 1 MX4_make [.ref b, .int p1, .int p2] s0 ((f_X4_make b p1 p2 s0).map wV) := by
  refine CS.of (by decide +kernel) (Nat.le_of_ble_eq_true rfl) (fun X Z hO hQ => ?_)
  show SIM X MX4_make wV Z 0 [(0, .ref b), (1, .int p1), (2, .int p2)] [] s0 _
  unfold f_X4_make
  refine S_ (R_aload_n hO dX4_make_0 rfl) ?_
  refine S_ (R_iconst (v := (0 : Int32)) hO dX4_make_1 (by decide)) ?_
  refine S_putZ hO dX4_make_2 fl_X4_15 (by decide) hb.1 rfl (fun s1 => ?_)
  refine S_ (R_aload_n hO dX4_make_5 rfl) ?_
  refine S_ (R_iload_n hO dX4_make_6 rfl) ?_
  refine S_put hO dX4_make_7 fl_X4_19 hb.1 rfl (fun s2 => ?_)
  refine S_ (R_aload_n hO dX4_make_10 rfl) ?_
  refine S_ (R_iload_n hO dX4_make_11 rfl) ?_
  refine S_put hO dX4_make_12 fl_X4_23 hb.1 rfl (fun s3 => ?_)
  refine S_ (R_iconst (v := (0 : Int32)) hO dX4_make_15 (by decide)) ?_
  refine S_istore_n (L2 := fun x4 => [(3, .int x4), (0, .ref b), (1, .int p1), (2, .int p2)]) hO dX4_make_16 (Nat.le_of_ble_eq_true rfl) (fun _ => rfl) (fun x4 => ?_)
  refine S_sub [1, 0] rfl ?_
  exact w_X4_make_17 hO hQ b hb p1 p2 FU x4 s3
def f_X4_spanFinding (b : Nat) (p1 : Int32) (p2 : Int32) (s0 : Mem) : Option (Int32 × Mem) := if (s0 b 1) = 0 then (if p1 < 0 then (some ((2 : Int32), s0)) else if p2 < 0 then (some ((2 : Int32), s0)) else if (s0 b 3) < p1 then (some ((2 : Int32), s0)) else if p2 ≤ ((s0 b 3) - p1) then (some ((0 : Int32), s0)) else some ((2 : Int32), s0)) else some ((1 : Int32), s0)
theorem cs_X4_spanFinding (b : Nat) (hb : isRw b) (p1 : Int32) (p2 : Int32) (s0 : Mem) : CS 1 MX4_spanFinding [.ref b, .int p1, .int p2] s0 ((f_X4_spanFinding b p1 p2 s0).map wI) := by
  refine CS.of (by decide +kernel) (Nat.le_of_ble_eq_true rfl) (fun X Z hO hQ => ?_)
  show SIM X MX4_spanFinding wI Z 0 [(0, .ref b), (1, .int p1), (2, .int p2)] [] s0 _
  unfold f_X4_spanFinding
  refine S_ (R_aload_n hO dX4_spanFinding_0 rfl) ?_
  refine S_getI hO dX4_spanFinding_1 fl_X4_15 hb.1 rfl ?_
  refine S_if_eq (tgt := 9) hO dX4_spanFinding_4 (by decide) ?_ ?_
  · refine S_ (R_iconst (v := (1 : Int32)) hO dX4_spanFinding_7 (by decide)) ?_
    exact S_iret rfl hO hQ dX4_spanFinding_8 rfl
  · refine S_ (R_iload_n hO dX4_spanFinding_9 rfl) ?_
    refine S_if_lt (tgt := 35) hO dX4_spanFinding_10 (by decide) ?_ ?_
    · refine S_ (R_iload_n hO dX4_spanFinding_13 rfl) ?_
      refine S_if_lt (tgt := 35) hO dX4_spanFinding_14 (by decide) ?_ ?_
      · refine S_ (R_iload_n hO dX4_spanFinding_17 rfl) ?_
        refine S_ (R_aload_n hO dX4_spanFinding_18 rfl) ?_
        refine S_getI hO dX4_spanFinding_19 fl_X4_23 hb.1 rfl ?_
        refine S_icmp_gt (tgt := 35) hO dX4_spanFinding_22 (by decide) ?_ ?_
        · refine S_ (R_iload_n hO dX4_spanFinding_25 rfl) ?_
          refine S_ (R_aload_n hO dX4_spanFinding_26 rfl) ?_
          refine S_getI hO dX4_spanFinding_27 fl_X4_23 hb.1 rfl ?_
          refine S_ (R_iload_n hO dX4_spanFinding_30 rfl) ?_
          refine S_ (R_isub hO dX4_spanFinding_31) ?_
          refine S_icmp_le (tgt := 39) hO dX4_spanFinding_32 (by decide) ?_ ?_
          · refine S_ (R_iconst (v := (2 : Int32)) hO dX4_spanFinding_35 (by decide)) ?_
            refine S_ (R_goto (tgt := 40) hO dX4_spanFinding_36 (by decide)) ?_
            exact S_iret rfl hO hQ dX4_spanFinding_40 rfl
          · refine S_ (R_iconst (v := (0 : Int32)) hO dX4_spanFinding_39 (by decide)) ?_
            exact S_iret rfl hO hQ dX4_spanFinding_40 rfl
        · refine S_ (R_iconst (v := (2 : Int32)) hO dX4_spanFinding_35 (by decide)) ?_
          refine S_ (R_goto (tgt := 40) hO dX4_spanFinding_36 (by decide)) ?_
          exact S_iret rfl hO hQ dX4_spanFinding_40 rfl
      · refine S_ (R_iconst (v := (2 : Int32)) hO dX4_spanFinding_35 (by decide)) ?_
        refine S_ (R_goto (tgt := 40) hO dX4_spanFinding_36 (by decide)) ?_
        exact S_iret rfl hO hQ dX4_spanFinding_40 rfl
    · refine S_ (R_iconst (v := (2 : Int32)) hO dX4_spanFinding_35 (by decide)) ?_
      refine S_ (R_goto (tgt := 40) hO dX4_spanFinding_36 (by decide)) ?_
      exact S_iret rfl hO hQ dX4_spanFinding_40 rfl
def f_X4_put (b : Nat) (p1 : Int32) (p2 : Int32) (s0 : Mem) : Option (Int32 × Mem) := if (s0 b 2) = 0 then (ing p1 40 <| lt (st2 s0 (b + 1) p1.toNatClampNeg p2.toInt8.toInt32) fun s1 => ing p1 40 <| some (s1 (b + 1) p1.toNatClampNeg, s1)) else if (s0 b 2) = (1 : Int32) then (ing p1 40 <| lt (st2 s0 (b + 1) p1.toNatClampNeg p2.toInt16.toInt32) fun s2 => ing p1 40 <| some (s2 (b + 1) p1.toNatClampNeg, s2)) else ing p1 40 <| lt (st2 s0 (b + 1) p1.toNatClampNeg p2) fun s3 => ing p1 40 <| some (s3 (b + 1) p1.toNatClampNeg, s3)
theorem cs_X4_put (b : Nat) (hb : isRw b) (p1 : Int32) (p2 : Int32) (s0 : Mem) : CS 1 MX4_put [.ref b, .int p1, .int p2] s0 ((f_X4_put b p1 p2 s0).map wI) := by
  refine CS.of (by decide +kernel) (Nat.le_of_ble_eq_true rfl) (fun X Z hO hQ => ?_)
  show SIM X MX4_put wI Z 0 [(0, .ref b), (1, .int p1), (2, .int p2)] [] s0 _
  unfold f_X4_put
  refine S_ (R_aload_n hO dX4_put_0 rfl) ?_
  refine S_getI hO dX4_put_1 fl_X4_19 hb.1 rfl ?_
  refine S_if_ne (tgt := 18) hO dX4_put_4 (by decide) ?_ ?_
  · refine S_ (R_aload_n hO dX4_put_7 rfl) ?_
    refine S_getR hO dX4_put_8 fl_X4_9 hb.1 rfl ?_
    refine S_ (R_iload_n hO dX4_put_11 rfl) ?_
    refine S_ (R_iload_n hO dX4_put_12 rfl) ?_
    refine S_ (R_i2b hO dX4_put_13) ?_
    refine S_iast hO dX4_put_14 hb.2 (fun s1 => ?_)
    refine S_ (R_goto (tgt := 38) hO dX4_put_15 (by decide)) ?_
    refine S_ (R_aload_n hO dX4_put_38 rfl) ?_
    refine S_getR hO dX4_put_39 fl_X4_9 hb.1 rfl ?_
    refine S_ (R_iload_n hO dX4_put_42 rfl) ?_
    refine S_iald hO dX4_put_43 hb.2 ?_
    exact S_iret rfl hO hQ dX4_put_44 rfl
  · refine S_ (R_aload_n hO dX4_put_18 rfl) ?_
    refine S_getR hO dX4_put_19 fl_X4_9 hb.1 rfl ?_
    refine S_ (R_iload_n hO dX4_put_22 rfl) ?_
    refine S_ (R_aload_n hO dX4_put_23 rfl) ?_
    refine S_getI hO dX4_put_24 fl_X4_19 hb.1 rfl ?_
    refine S_ (R_iconst (v := (1 : Int32)) hO dX4_put_27 (by decide)) ?_
    refine S_icmp_ne (tgt := 36) hO dX4_put_28 (by decide) ?_ ?_
    · refine S_ (R_iload_n hO dX4_put_31 rfl) ?_
      refine S_ (R_i2s hO dX4_put_32) ?_
      refine S_ (R_goto (tgt := 37) hO dX4_put_33 (by decide)) ?_
      refine S_iast hO dX4_put_37 hb.2 (fun s2 => ?_)
      refine S_ (R_aload_n hO dX4_put_38 rfl) ?_
      refine S_getR hO dX4_put_39 fl_X4_9 hb.1 rfl ?_
      refine S_ (R_iload_n hO dX4_put_42 rfl) ?_
      refine S_iald hO dX4_put_43 hb.2 ?_
      exact S_iret rfl hO hQ dX4_put_44 rfl
    · refine S_ (R_iload_n hO dX4_put_36 rfl) ?_
      refine S_iast hO dX4_put_37 hb.2 (fun s3 => ?_)
      refine S_ (R_aload_n hO dX4_put_38 rfl) ?_
      refine S_getR hO dX4_put_39 fl_X4_9 hb.1 rfl ?_
      refine S_ (R_iload_n hO dX4_put_42 rfl) ?_
      refine S_iald hO dX4_put_43 hb.2 ?_
      exact S_iret rfl hO hQ dX4_put_44 rfl
def f_X5_add (b : Nat) (p1 : Int32) (p2 : Int32) (p3 : Int32) (s0 : Mem) : Option (Mem) := if (8 : Int32) ≤ (s0 b 3) then (some s0) else ing (s0 b 3) 8 <| lt (st2 s0 (b + 1) (s0 b 3).toNatClampNeg p1) fun s1 => ing (s1 b 3) 8 <| lt (st2 s1 (b + 3) (s1 b 3).toNatClampNeg p2) fun s2 => ing (s2 b 3) 8 <| lt (st2 s2 (b + 2) (s2 b 3).toNatClampNeg p3) fun s3 => lt (st2 s3 b 3 ((s3 b 3) + (1 : Int32))) fun s4 => some s4
theorem cs_X5_add (b : Nat) (hb : isSt b) (p1 : Int32) (p2 : Int32) (p3 : Int32) (s0 : Mem) : CS 1 MX5_add [.ref b, .int p1, .int p2, .int p3] s0 ((f_X5_add b p1 p2 p3 s0).map wV) := by
  refine CS.of (by decide +kernel) (Nat.le_of_ble_eq_true rfl) (fun X Z hO hQ => ?_)
  show SIM X MX5_add wV Z 0 [(0, .ref b), (1, .int p1), (2, .int p2), (3, .int p3)] [] s0 _
  unfold f_X5_add
  refine S_ (R_aload_n hO dX5_add_0 rfl) ?_
  refine S_getI hO dX5_add_1 fl_X5_21 hb.1 rfl ?_
  refine S_ (R_bipush (v := (8 : Int32)) hO dX5_add_4 (by decide)) ?_
  refine S_icmp_ge (tgt := 49) hO dX5_add_6 (by decide) ?_ ?_
  · refine S_ (R_aload_n hO dX5_add_9 rfl) ?_
    refine S_getR hO dX5_add_10 fl_X5_9 hb.1 rfl ?_
    refine S_ (R_aload_n hO dX5_add_13 rfl) ?_
    refine S_getI hO dX5_add_14 fl_X5_21 hb.1 rfl ?_
    refine S_ (R_iload_n hO dX5_add_17 rfl) ?_
    refine S_iast hO dX5_add_18 hb.2.1 (fun s1 => ?_)
    refine S_ (R_aload_n hO dX5_add_19 rfl) ?_
    refine S_getR hO dX5_add_20 fl_X5_18 hb.1 rfl ?_
    refine S_ (R_aload_n hO dX5_add_23 rfl) ?_
    refine S_getI hO dX5_add_24 fl_X5_21 hb.1 rfl ?_
    refine S_ (R_iload_n hO dX5_add_27 rfl) ?_
    refine S_iast hO dX5_add_28 hb.2.2.2 (fun s2 => ?_)
    refine S_ (R_aload_n hO dX5_add_29 rfl) ?_
    refine S_getR hO dX5_add_30 fl_X5_15 hb.1 rfl ?_
    refine S_ (R_aload_n hO dX5_add_33 rfl) ?_
    refine S_getI hO dX5_add_34 fl_X5_21 hb.1 rfl ?_
    refine S_ (R_iload_n hO dX5_add_37 rfl) ?_
    refine S_iast hO dX5_add_38 hb.2.2.1 (fun s3 => ?_)
    refine S_ (R_aload_n hO dX5_add_39 rfl) ?_
    refine S_ (R_dup hO dX5_add_40 rfl) ?_
    refine S_getI hO dX5_add_41 fl_X5_21 hb.1 rfl ?_
    refine S_ (R_iconst (v := (1 : Int32)) hO dX5_add_44 (by decide)) ?_
    refine S_ (R_iadd hO dX5_add_45) ?_
    refine S_put hO dX5_add_46 fl_X5_21 hb.1 rfl (fun s4 => ?_)
    exact S_vret rfl hO hQ dX5_add_49 rfl
  · exact S_vret rfl hO hQ dX5_add_49 rfl
def f_X5_take (b : Nat) (c : Nat) (s0 : Mem) : Option (Mem) := cpg s0 (c + 1) (b + 1) (0 : Int32) (0 : Int32) (8 : Int32) 8 8 fun s1 => cpg s1 (c + 2) (b + 2) (0 : Int32) (0 : Int32) (8 : Int32) 8 8 fun s2 => cpg s2 (c + 3) (b + 3) (0 : Int32) (0 : Int32) (8 : Int32) 8 8 fun s3 => lt (st2 s3 b 3 (s3 c 3)) fun s4 => lt (st2 s4 b 4 (s4 c 4)) fun s5 => lt (st2 s5 b 5 (s5 c 5)) fun s6 => lt (st2 s6 b 6 (s6 c 6)) fun s7 => lt (st2 s7 b 7 (s7 c 7)) fun s8 => some s8
theorem cs_X5_take (b : Nat) (hb : isSt b) (c : Nat) (hc : isSt c) (s0 : Mem) : CS 2 MX5_take [.ref b, .ref c] s0 ((f_X5_take b c s0).map wV) := by
  refine CS.of (by decide +kernel) (Nat.le_of_ble_eq_true rfl) (fun X Z hO hQ => ?_)
  show SIM X MX5_take wV Z 0 [(0, .ref b), (1, .ref c)] [] s0 _
  unfold f_X5_take
  refine S_ (R_aload_n hO dX5_take_0 rfl) ?_
  refine S_getR hO dX5_take_1 fl_X5_9 hc.1 rfl ?_
  refine S_ (R_iconst (v := (0 : Int32)) hO dX5_take_4 (by decide)) ?_
  refine S_ (R_aload_n hO dX5_take_5 rfl) ?_
  refine S_getR hO dX5_take_6 fl_X5_9 hb.1 rfl ?_
  refine S_ (R_iconst (v := (0 : Int32)) hO dX5_take_9 (by decide)) ?_
  refine S_ (R_bipush (v := (8 : Int32)) hO dX5_take_10 (by decide)) ?_
  refine S_copy hO dX5_take_12 (by omega) kcp_X5_25 kw_copy hc.2.1 hb.2.1 (Nat.le_of_ble_eq_true rfl) (fun s1 => ?_)
  refine S_ (R_aload_n hO dX5_take_15 rfl) ?_
  refine S_getR hO dX5_take_16 fl_X5_15 hc.1 rfl ?_
  refine S_ (R_iconst (v := (0 : Int32)) hO dX5_take_19 (by decide)) ?_
  refine S_ (R_aload_n hO dX5_take_20 rfl) ?_
  refine S_getR hO dX5_take_21 fl_X5_15 hb.1 rfl ?_
  refine S_ (R_iconst (v := (0 : Int32)) hO dX5_take_24 (by decide)) ?_
  refine S_ (R_bipush (v := (8 : Int32)) hO dX5_take_25 (by decide)) ?_
  refine S_copy hO dX5_take_27 (by omega) kcp_X5_25 kw_copy hc.2.2.1 hb.2.2.1 (Nat.le_of_ble_eq_true rfl) (fun s2 => ?_)
  refine S_ (R_aload_n hO dX5_take_30 rfl) ?_
  refine S_getR hO dX5_take_31 fl_X5_18 hc.1 rfl ?_
  refine S_ (R_iconst (v := (0 : Int32)) hO dX5_take_34 (by decide)) ?_
  refine S_ (R_aload_n hO dX5_take_35 rfl) ?_
  refine S_getR hO dX5_take_36 fl_X5_18 hb.1 rfl ?_
  refine S_ (R_iconst (v := (0 : Int32)) hO dX5_take_39 (by decide)) ?_
  refine S_ (R_bipush (v := (8 : Int32)) hO dX5_take_40 (by decide)) ?_
  refine S_copy hO dX5_take_42 (by omega) kcp_X5_25 kw_copy hc.2.2.2 hb.2.2.2 (Nat.le_of_ble_eq_true rfl) (fun s3 => ?_)
  refine S_ (R_aload_n hO dX5_take_45 rfl) ?_
  refine S_ (R_aload_n hO dX5_take_46 rfl) ?_
  refine S_getI hO dX5_take_47 fl_X5_21 hc.1 rfl ?_
  refine S_put hO dX5_take_50 fl_X5_21 hb.1 rfl (fun s4 => ?_)
  refine S_ (R_aload_n hO dX5_take_53 rfl) ?_
  refine S_ (R_aload_n hO dX5_take_54 rfl) ?_
  refine S_getI hO dX5_take_55 fl_X5_31 hc.1 rfl ?_
  refine S_put hO dX5_take_58 fl_X5_31 hb.1 rfl (fun s5 => ?_)
  refine S_ (R_aload_n hO dX5_take_61 rfl) ?_
  refine S_ (R_aload_n hO dX5_take_62 rfl) ?_
  refine S_getI hO dX5_take_63 fl_X5_34 hc.1 rfl ?_
  refine S_put hO dX5_take_66 fl_X5_34 hb.1 rfl (fun s6 => ?_)
  refine S_ (R_aload_n hO dX5_take_69 rfl) ?_
  refine S_ (R_aload_n hO dX5_take_70 rfl) ?_
  refine S_getI hO dX5_take_71 fl_X5_37 hc.1 rfl ?_
  refine S_put hO dX5_take_74 fl_X5_37 hb.1 rfl (fun s7 => ?_)
  refine S_ (R_aload_n hO dX5_take_77 rfl) ?_
  refine S_ (R_aload_n hO dX5_take_78 rfl) ?_
  refine S_getI hO dX5_take_79 fl_X5_40 hc.1 rfl ?_
  refine S_put hO dX5_take_82 fl_X5_40 hb.1 rfl (fun s8 => ?_)
  exact S_vret rfl hO hQ dX5_take_85 rfl
def f_X5_standing_4 (b : Nat) : Nat → Int32 → Int32 → Mem → Option (Int32 × Mem)
  | 0, _, _, _ => none
  | n + 1, m1, m2, s0 => if (s0 b 3) ≤ m2 then (some (m1, s0)) else ing m2 8 <| if (s0 (b + 3) m2.toNatClampNeg) ≤ 0 then (lt (m1 ||| (0 : Int32)) fun x3 => lt (m2 + (1 : Int32)) fun x4 => f_X5_standing_4 b n x3 x4 s0) else lt (m1 ||| ((1 : Int32) <<< (m2 &&& 31))) fun x1 => lt (m2 + (1 : Int32)) fun x2 => f_X5_standing_4 b n x1 x2 s0
theorem w_X5_standing_4 {X : CX} {Z : Option Value × Mem → Prop} (hO : OKX X false 1 MX5_standing) (hQ : OKS X Z) (b : Nat) (hb : isSt b) : ∀ (n : Nat) (m1 : Int32) (m2 : Int32) (s0 : Mem), SIM X MX5_standing wI Z 4 [(0, .ref b), (1, .int m1), (2, .int m2)] [] s0 (f_X5_standing_4 b n m1 m2 s0) := by
  intro n
  induction n with
  | zero => intros; exact S_none
  | succ n ih =>
    intro m1 m2 s0
    rw [f_X5_standing_4]
    refine S_ (R_iload_n hO dX5_standing_4 rfl) ?_
    refine S_ (R_aload_n hO dX5_standing_5 rfl) ?_
    refine S_getI hO dX5_standing_6 fl_X5_21 hb.1 rfl ?_
    refine S_icmp_ge (tgt := 37) hO dX5_standing_9 (by decide) ?_ ?_
    · refine S_ (R_iload_n hO dX5_standing_12 rfl) ?_
      refine S_ (R_aload_n hO dX5_standing_13 rfl) ?_
      refine S_getR hO dX5_standing_14 fl_X5_18 hb.1 rfl ?_
      refine S_ (R_iload_n hO dX5_standing_17 rfl) ?_
      refine S_iald hO dX5_standing_18 hb.2.2.2 ?_
      refine S_if_le (tgt := 28) hO dX5_standing_19 (by decide) ?_ ?_
      · refine S_ (R_iconst (v := (1 : Int32)) hO dX5_standing_22 (by decide)) ?_
        refine S_ (R_iload_n hO dX5_standing_23 rfl) ?_
        refine S_ (R_ishl hO dX5_standing_24) ?_
        refine S_ (R_goto (tgt := 29) hO dX5_standing_25 (by decide)) ?_
        refine S_ (R_ior hO dX5_standing_29) ?_
        refine S_istore_n (L2 := fun x1 => [(1, .int x1), (0, .ref b), (2, .int m2)]) hO dX5_standing_30 (Nat.le_of_ble_eq_true rfl) (fun _ => rfl) (fun x1 => ?_)
        refine S_iinc (L2 := fun x2 => [(2, .int x2), (1, .int x1), (0, .ref b)]) (v := (1 : Int32)) hO dX5_standing_31 rfl (by decide) (Nat.le_of_ble_eq_true rfl) (fun _ => rfl) (fun x2 => ?_)
        refine S_ (R_goto (tgt := 4) hO dX5_standing_34 (by decide)) ?_
        refine S_sub [2, 1, 0] rfl ?_
        exact ih x1 x2 s0
      · refine S_ (R_iconst (v := (0 : Int32)) hO dX5_standing_28 (by decide)) ?_
        refine S_ (R_ior hO dX5_standing_29) ?_
        refine S_istore_n (L2 := fun x3 => [(1, .int x3), (0, .ref b), (2, .int m2)]) hO dX5_standing_30 (Nat.le_of_ble_eq_true rfl) (fun _ => rfl) (fun x3 => ?_)
        refine S_iinc (L2 := fun x4 => [(2, .int x4), (1, .int x3), (0, .ref b)]) (v := (1 : Int32)) hO dX5_standing_31 rfl (by decide) (Nat.le_of_ble_eq_true rfl) (fun _ => rfl) (fun x4 => ?_)
        refine S_ (R_goto (tgt := 4) hO dX5_standing_34 (by decide)) ?_
        refine S_sub [2, 1, 0] rfl ?_
        exact ih x3 x4 s0
    · refine S_ (R_iload_n hO dX5_standing_37 rfl) ?_
      exact S_iret rfl hO hQ dX5_standing_38 rfl
def f_X5_standing (b : Nat) (s0 : Mem) : Option (Int32 × Mem) := lt ((0 : Int32)) fun x1 => lt ((0 : Int32)) fun x2 => f_X5_standing_4 b FU x1 x2 s0
theorem cs_X5_standing (b : Nat) (hb : isSt b) (s0 : Mem) : CS 1 MX5_standing [.ref b] s0 ((f_X5_standing b s0).map wI) := by
  refine CS.of (by decide +kernel) (Nat.le_of_ble_eq_true rfl) (fun X Z hO hQ => ?_)
  show SIM X MX5_standing wI Z 0 [(0, .ref b)] [] s0 _
  unfold f_X5_standing
  refine S_ (R_iconst (v := (0 : Int32)) hO dX5_standing_0 (by decide)) ?_
  refine S_istore_n (L2 := fun x1 => [(1, .int x1), (0, .ref b)]) hO dX5_standing_1 (Nat.le_of_ble_eq_true rfl) (fun _ => rfl) (fun x1 => ?_)
  refine S_ (R_iconst (v := (0 : Int32)) hO dX5_standing_2 (by decide)) ?_
  refine S_istore_n (L2 := fun x2 => [(2, .int x2), (1, .int x1), (0, .ref b)]) hO dX5_standing_3 (Nat.le_of_ble_eq_true rfl) (fun _ => rfl) (fun x2 => ?_)
  refine S_sub [2, 1, 0] rfl ?_
  exact w_X5_standing_4 hO hQ b hb FU x1 x2 s0
def f_X5_leans (b : Nat) (p1 : Int32) (s0 : Mem) : Option (Int32 × Mem) := ing p1 8 <| if (s0 (b + 3) p1.toNatClampNeg) ≤ 0 then (some ((0 : Int32), s0)) else ing p1 8 <| if (s0 b 5) ≤ (s0 (b + 3) p1.toNatClampNeg) then (some ((0 : Int32), s0)) else some ((1 : Int32), s0)
theorem cs_X5_leans (b : Nat) (hb : isSt b) (p1 : Int32) (s0 : Mem) : CS 1 MX5_leans [.ref b, .int p1] s0 ((f_X5_leans b p1 s0).map wI) := by
  refine CS.of (by decide +kernel) (Nat.le_of_ble_eq_true rfl) (fun X Z hO hQ => ?_)
  show SIM X MX5_leans wI Z 0 [(0, .ref b), (1, .int p1)] [] s0 _
  unfold f_X5_leans
  refine S_ (R_aload_n hO dX5_leans_0 rfl) ?_
  refine S_getR hO dX5_leans_1 fl_X5_18 hb.1 rfl ?_
  refine S_ (R_iload_n hO dX5_leans_4 rfl) ?_
  refine S_iald hO dX5_leans_5 hb.2.2.2 ?_
  refine S_if_le (tgt := 26) hO dX5_leans_6 (by decide) ?_ ?_
  · refine S_ (R_aload_n hO dX5_leans_9 rfl) ?_
    refine S_getR hO dX5_leans_10 fl_X5_18 hb.1 rfl ?_
    refine S_ (R_iload_n hO dX5_leans_13 rfl) ?_
    refine S_iald hO dX5_leans_14 hb.2.2.2 ?_
    refine S_ (R_aload_n hO dX5_leans_15 rfl) ?_
    refine S_getI hO dX5_leans_16 fl_X5_34 hb.1 rfl ?_
    refine S_icmp_ge (tgt := 26) hO dX5_leans_19 (by decide) ?_ ?_
    · refine S_ (R_iconst (v := (1 : Int32)) hO dX5_leans_22 (by decide)) ?_
      refine S_ (R_goto (tgt := 27) hO dX5_leans_23 (by decide)) ?_
      exact S_zret0 rfl hO hQ dX5_leans_27 rfl (by decide)
    · refine S_ (R_iconst (v := (0 : Int32)) hO dX5_leans_26 (by decide)) ?_
      exact S_zret0 rfl hO hQ dX5_leans_27 rfl (by decide)
  · refine S_ (R_iconst (v := (0 : Int32)) hO dX5_leans_26 (by decide)) ?_
    exact S_zret0 rfl hO hQ dX5_leans_27 rfl (by decide)
def f_X5_wallsOf_18 (b : Nat) (p1 : Int32) (t0 : Int32) (s0 : Mem) : Option (Int32 × Mem) := lt (t0) fun x1 => some (x1 + (((s0 b 7) >>> (p1 &&& 31)) &&& (1 : Int32)), s0)
theorem w_X5_wallsOf_18 {X : CX} {Z : Option Value × Mem → Prop} (hO : OKX X false 1 MX5_wallsOf) (hQ : OKS X Z) (b : Nat) (hb : isSt b) (p1 : Int32) (t0 : Int32) (s0 : Mem) : SIM X MX5_wallsOf wI Z 18 [(0, .ref b), (1, .int p1)] [.int t0] s0 (f_X5_wallsOf_18 b p1 t0 s0) := by
  unfold f_X5_wallsOf_18
  refine S_istore_n (L2 := fun x1 => [(2, .int x1), (0, .ref b), (1, .int p1)]) hO dX5_wallsOf_18 (Nat.le_of_ble_eq_true rfl) (fun _ => rfl) (fun x1 => ?_)
  refine S_ (R_iload_n hO dX5_wallsOf_19 rfl) ?_
  refine S_ (R_aload_n hO dX5_wallsOf_20 rfl) ?_
  refine S_getI hO dX5_wallsOf_21 fl_X5_40 hb.1 rfl ?_
  refine S_ (R_iload_n hO dX5_wallsOf_24 rfl) ?_
  refine S_ (R_ishr hO dX5_wallsOf_25) ?_
  refine S_ (R_iconst (v := (1 : Int32)) hO dX5_wallsOf_26 (by decide)) ?_
  refine S_ (R_iand hO dX5_wallsOf_27) ?_
  refine S_ (R_iadd hO dX5_wallsOf_28) ?_
  exact S_iret rfl hO hQ dX5_wallsOf_29 rfl
def f_X5_wallsOf (b : Nat) (p1 : Int32) (s0 : Mem) : Option (Int32 × Mem) := if p1 ≤ 0 then (f_X5_wallsOf_18 b p1 (0 : Int32) s0) else f_X5_wallsOf_18 b p1 (((s0 b 7) >>> ((p1 - (1 : Int32)) &&& 31)) &&& (1 : Int32)) s0
theorem cs_X5_wallsOf (b : Nat) (hb : isSt b) (p1 : Int32) (s0 : Mem) : CS 1 MX5_wallsOf [.ref b, .int p1] s0 ((f_X5_wallsOf b p1 s0).map wI) := by
  refine CS.of (by decide +kernel) (Nat.le_of_ble_eq_true rfl) (fun X Z hO hQ => ?_)
  show SIM X MX5_wallsOf wI Z 0 [(0, .ref b), (1, .int p1)] [] s0 _
  unfold f_X5_wallsOf
  refine S_ (R_iload_n hO dX5_wallsOf_0 rfl) ?_
  refine S_if_le (tgt := 17) hO dX5_wallsOf_1 (by decide) ?_ ?_
  · refine S_ (R_aload_n hO dX5_wallsOf_4 rfl) ?_
    refine S_getI hO dX5_wallsOf_5 fl_X5_40 hb.1 rfl ?_
    refine S_ (R_iload_n hO dX5_wallsOf_8 rfl) ?_
    refine S_ (R_iconst (v := (1 : Int32)) hO dX5_wallsOf_9 (by decide)) ?_
    refine S_ (R_isub hO dX5_wallsOf_10) ?_
    refine S_ (R_ishr hO dX5_wallsOf_11) ?_
    refine S_ (R_iconst (v := (1 : Int32)) hO dX5_wallsOf_12 (by decide)) ?_
    refine S_ (R_iand hO dX5_wallsOf_13) ?_
    refine S_ (R_goto (tgt := 18) hO dX5_wallsOf_14 (by decide)) ?_
    refine S_sub [0, 1] rfl ?_
    exact w_X5_wallsOf_18 hO hQ b hb p1 (((s0 b 7) >>> ((p1 - (1 : Int32)) &&& 31)) &&& (1 : Int32)) s0
  · refine S_ (R_iconst (v := (0 : Int32)) hO dX5_wallsOf_17 (by decide)) ?_
    refine S_sub [0, 1] rfl ?_
    exact w_X5_wallsOf_18 hO hQ b hb p1 (0 : Int32) s0
def f_X5_loss (b : Nat) (p1 : Int32) (s0 : Mem) : Option (Int32 × Mem) := ing p1 8 <| if (s0 (b + 3) p1.toNatClampNeg) = 0 then (some ((0 : Int32), s0)) else ing p1 8 <| swi (s0 (b + 1) p1.toNatClampNeg) 2 4 (fun j => match j with | 0 => (bd2 (f_X5_leans b p1 s0) fun x1 s2 => if x1 = 0 then (ing p1 8 <| some (s2 (b + 2) p1.toNatClampNeg, s2)) else ing p1 8 <| some ((2 : Int32) * (s2 (b + 2) p1.toNatClampNeg), s2)) | 1 => (ing p1 8 <| some (imax (1 : Int32) ((s0 (b + 2) p1.toNatClampNeg) / (2 : Int32)), s0)) | 2 => (bd2 (f_X5_wallsOf b p1 s0) fun x3 s4 => some ((1 : Int32) + x3, s4)) | 3 => (ing p1 8 <| if (s0 (b + 3) p1.toNatClampNeg) < (50 : Int32) then (bd2 (f_X5_wallsOf b p1 s0) fun x5 s6 => some ((1 : Int32) + x5, s6)) else some ((0 : Int32), s0)) | _ => none) (ing p1 8 <| some (s0 (b + 2) p1.toNatClampNeg, s0))
theorem cs_X5_loss (b : Nat) (hb : isSt b) (p1 : Int32) (s0 : Mem) : CS 2 MX5_loss [.ref b, .int p1] s0 ((f_X5_loss b p1 s0).map wI) := by
  refine CS.of (by decide +kernel) (Nat.le_of_ble_eq_true rfl) (fun X Z hO hQ => ?_)
  show SIM X MX5_loss wI Z 0 [(0, .ref b), (1, .int p1)] [] s0 _
  unfold f_X5_loss
  refine S_ (R_aload_n hO dX5_loss_0 rfl) ?_
  refine S_getR hO dX5_loss_1 fl_X5_18 hb.1 rfl ?_
  refine S_ (R_iload_n hO dX5_loss_4 rfl) ?_
  refine S_iald hO dX5_loss_5 hb.2.2.2 ?_
  refine S_if_ne (tgt := 11) hO dX5_loss_6 (by decide) ?_ ?_
  · refine S_ (R_iconst (v := (0 : Int32)) hO dX5_loss_9 (by decide)) ?_
    exact S_iret rfl hO hQ dX5_loss_10 rfl
  · refine S_ (R_aload_n hO dX5_loss_11 rfl) ?_
    refine S_getR hO dX5_loss_12 fl_X5_9 hb.1 rfl ?_
    refine S_ (R_iload_n hO dX5_loss_15 rfl) ?_
    refine S_iald hO dX5_loss_16 hb.2.1 ?_
    refine S_tsw (lo := 2) (n := 4) (tgt := fun j => ([48, 74, 87, 95] : List Nat).getD j 0) (tgd := 118) hO dX5_loss_17 (by decide) (by decide) (by decide) ?_ ?_
    · refine S_ (R_aload_n hO dX5_loss_118 rfl) ?_
      refine S_getR hO dX5_loss_119 fl_X5_15 hb.1 rfl ?_
      refine S_ (R_iload_n hO dX5_loss_122 rfl) ?_
      refine S_iald hO dX5_loss_123 hb.2.2.1 ?_
      exact S_iret rfl hO hQ dX5_loss_124 rfl
    · intro j hj
      rcases (show j = 0 ∨ j = 1 ∨ j = 2 ∨ j = 3 by omega) with rfl | rfl | rfl | rfl
      · refine S_ (R_aload_n hO dX5_loss_48 rfl) ?_
        refine S_ (R_iload_n hO dX5_loss_49 rfl) ?_
        refine S_callVI (rest := []) hO dX5_loss_50 (cs_X5_leans b hb p1 s0) (by omega) lk_X5_49 np_X5_leans (rc_St hb rfl) rfl (Nat.le_of_ble_eq_true rfl) (fun x1 s2 => ?_)
        refine S_if_eq (tgt := 67) hO dX5_loss_53 (by decide) ?_ ?_
        · refine S_ (R_iconst (v := (2 : Int32)) hO dX5_loss_56 (by decide)) ?_
          refine S_ (R_aload_n hO dX5_loss_57 rfl) ?_
          refine S_getR hO dX5_loss_58 fl_X5_15 hb.1 rfl ?_
          refine S_ (R_iload_n hO dX5_loss_61 rfl) ?_
          refine S_iald hO dX5_loss_62 hb.2.2.1 ?_
          refine S_ (R_imul hO dX5_loss_63) ?_
          refine S_ (R_goto (tgt := 73) hO dX5_loss_64 (by decide)) ?_
          exact S_iret rfl hO hQ dX5_loss_73 rfl
        · refine S_ (R_aload_n hO dX5_loss_67 rfl) ?_
          refine S_getR hO dX5_loss_68 fl_X5_15 hb.1 rfl ?_
          refine S_ (R_iload_n hO dX5_loss_71 rfl) ?_
          refine S_iald hO dX5_loss_72 hb.2.2.1 ?_
          exact S_iret rfl hO hQ dX5_loss_73 rfl
      · refine S_ (R_iconst (v := (1 : Int32)) hO dX5_loss_74 (by decide)) ?_
        refine S_ (R_aload_n hO dX5_loss_75 rfl) ?_
        refine S_getR hO dX5_loss_76 fl_X5_15 hb.1 rfl ?_
        refine S_ (R_iload_n hO dX5_loss_79 rfl) ?_
        refine S_iald hO dX5_loss_80 hb.2.2.1 ?_
        refine S_ (R_iconst (v := (2 : Int32)) hO dX5_loss_81 (by decide)) ?_
        refine S_ (R_idiv hO dX5_loss_82 (by decide)) ?_
        refine S_max hO dX5_loss_83 (by omega) kmm_max_X5_53 kw_max (Nat.le_of_ble_eq_true rfl) ?_
        exact S_iret rfl hO hQ dX5_loss_86 rfl
      · refine S_ (R_iconst (v := (1 : Int32)) hO dX5_loss_87 (by decide)) ?_
        refine S_ (R_aload_n hO dX5_loss_88 rfl) ?_
        refine S_ (R_iload_n hO dX5_loss_89 rfl) ?_
        refine S_callVI (rest := [.int (1 : Int32)]) hO dX5_loss_90 (cs_X5_wallsOf b hb p1 s0) (by omega) lk_X5_56 np_X5_wallsOf (rc_St hb rfl) rfl (Nat.le_of_ble_eq_true rfl) (fun x3 s4 => ?_)
        refine S_ (R_iadd hO dX5_loss_93) ?_
        exact S_iret rfl hO hQ dX5_loss_94 rfl
      · refine S_ (R_aload_n hO dX5_loss_95 rfl) ?_
        refine S_getR hO dX5_loss_96 fl_X5_18 hb.1 rfl ?_
        refine S_ (R_iload_n hO dX5_loss_99 rfl) ?_
        refine S_iald hO dX5_loss_100 hb.2.2.2 ?_
        refine S_ (R_bipush (v := (50 : Int32)) hO dX5_loss_101 (by decide)) ?_
        refine S_icmp_lt (tgt := 110) hO dX5_loss_103 (by decide) ?_ ?_
        · refine S_ (R_iconst (v := (0 : Int32)) hO dX5_loss_106 (by decide)) ?_
          refine S_ (R_goto (tgt := 117) hO dX5_loss_107 (by decide)) ?_
          exact S_iret rfl hO hQ dX5_loss_117 rfl
        · refine S_ (R_iconst (v := (1 : Int32)) hO dX5_loss_110 (by decide)) ?_
          refine S_ (R_aload_n hO dX5_loss_111 rfl) ?_
          refine S_ (R_iload_n hO dX5_loss_112 rfl) ?_
          refine S_callVI (rest := [.int (1 : Int32)]) hO dX5_loss_113 (cs_X5_wallsOf b hb p1 s0) (by omega) lk_X5_56 np_X5_wallsOf (rc_St hb rfl) rfl (Nat.le_of_ble_eq_true rfl) (fun x5 s6 => ?_)
          refine S_ (R_iadd hO dX5_loss_116) ?_
          exact S_iret rfl hO hQ dX5_loss_117 rfl
def f_X5_pass_134 (b : Nat) : Nat → Int32 → Int32 → Mem → Option (Mem)
  | 0, _, _, _ => none
  | n + 1, m1, m2, s0 => if (s0 b 3) ≤ (m2 + (1 : Int32)) then (lt (st2 s0 b 6 ((s0 b 6) + (1 : Int32))) fun s5 => some s5) else if ((m1 >>> (m2 &&& 31)) &&& (1 : Int32)) = 0 then (lt (m2 + (1 : Int32)) fun x4 => f_X5_pass_134 b n m1 x4 s0) else ing m2 8 <| if (s0 (b + 3) m2.toNatClampNeg) = 0 then (ing (m2 + (1 : Int32)) 8 <| ing (m2 + (1 : Int32)) 8 <| lt (st2 s0 (b + 3) (m2 + (1 : Int32)).toNatClampNeg (imax (0 : Int32) ((s0 (b + 3) (m2 + (1 : Int32)).toNatClampNeg) - (s0 b 5)))) fun s1 => lt (m2 + (1 : Int32)) fun x2 => f_X5_pass_134 b n m1 x2 s1) else lt (m2 + (1 : Int32)) fun x3 => f_X5_pass_134 b n m1 x3 s0
theorem w_X5_pass_134 {X : CX} {Z : Option Value × Mem → Prop} (hO : OKX X false 3 MX5_pass) (hQ : OKS X Z) (b : Nat) (hb : isSt b) : ∀ (n : Nat) (m1 : Int32) (m2 : Int32) (s0 : Mem), SIM X MX5_pass wV Z 134 [(0, .ref b), (1, .int m1), (2, .int m2)] [] s0 (f_X5_pass_134 b n m1 m2 s0) := by
  intro n
  induction n with
  | zero => intros; exact S_none
  | succ n ih =>
    intro m1 m2 s0
    rw [f_X5_pass_134]
    refine S_ (R_iload_n hO dX5_pass_134 rfl) ?_
    refine S_ (R_iconst (v := (1 : Int32)) hO dX5_pass_135 (by decide)) ?_
    refine S_ (R_iadd hO dX5_pass_136) ?_
    refine S_ (R_aload_n hO dX5_pass_137 rfl) ?_
    refine S_getI hO dX5_pass_138 fl_X5_21 hb.1 rfl ?_
    refine S_icmp_ge (tgt := 192) hO dX5_pass_141 (by decide) ?_ ?_
    · refine S_ (R_iload_n hO dX5_pass_144 rfl) ?_
      refine S_ (R_iload_n hO dX5_pass_145 rfl) ?_
      refine S_ (R_ishr hO dX5_pass_146) ?_
      refine S_ (R_iconst (v := (1 : Int32)) hO dX5_pass_147 (by decide)) ?_
      refine S_ (R_iand hO dX5_pass_148) ?_
      refine S_if_eq (tgt := 186) hO dX5_pass_149 (by decide) ?_ ?_
      · refine S_ (R_aload_n hO dX5_pass_152 rfl) ?_
        refine S_getR hO dX5_pass_153 fl_X5_18 hb.1 rfl ?_
        refine S_ (R_iload_n hO dX5_pass_156 rfl) ?_
        refine S_iald hO dX5_pass_157 hb.2.2.2 ?_
        refine S_if_ne (tgt := 186) hO dX5_pass_158 (by decide) ?_ ?_
        · refine S_ (R_aload_n hO dX5_pass_161 rfl) ?_
          refine S_getR hO dX5_pass_162 fl_X5_18 hb.1 rfl ?_
          refine S_ (R_iload_n hO dX5_pass_165 rfl) ?_
          refine S_ (R_iconst (v := (1 : Int32)) hO dX5_pass_166 (by decide)) ?_
          refine S_ (R_iadd hO dX5_pass_167) ?_
          refine S_ (R_iconst (v := (0 : Int32)) hO dX5_pass_168 (by decide)) ?_
          refine S_ (R_aload_n hO dX5_pass_169 rfl) ?_
          refine S_getR hO dX5_pass_170 fl_X5_18 hb.1 rfl ?_
          refine S_ (R_iload_n hO dX5_pass_173 rfl) ?_
          refine S_ (R_iconst (v := (1 : Int32)) hO dX5_pass_174 (by decide)) ?_
          refine S_ (R_iadd hO dX5_pass_175) ?_
          refine S_iald hO dX5_pass_176 hb.2.2.2 ?_
          refine S_ (R_aload_n hO dX5_pass_177 rfl) ?_
          refine S_getI hO dX5_pass_178 fl_X5_34 hb.1 rfl ?_
          refine S_ (R_isub hO dX5_pass_181) ?_
          refine S_max hO dX5_pass_182 (by omega) kmm_max_X5_53 kw_max (Nat.le_of_ble_eq_true rfl) ?_
          refine S_iast hO dX5_pass_185 hb.2.2.2 (fun s1 => ?_)
          refine S_iinc (L2 := fun x2 => [(2, .int x2), (0, .ref b), (1, .int m1)]) (v := (1 : Int32)) hO dX5_pass_186 rfl (by decide) (Nat.le_of_ble_eq_true rfl) (fun _ => rfl) (fun x2 => ?_)
          refine S_ (R_goto (tgt := 134) hO dX5_pass_189 (by decide)) ?_
          refine S_sub [1, 2, 0] rfl ?_
          exact ih m1 x2 s1
        · refine S_iinc (L2 := fun x3 => [(2, .int x3), (0, .ref b), (1, .int m1)]) (v := (1 : Int32)) hO dX5_pass_186 rfl (by decide) (Nat.le_of_ble_eq_true rfl) (fun _ => rfl) (fun x3 => ?_)
          refine S_ (R_goto (tgt := 134) hO dX5_pass_189 (by decide)) ?_
          refine S_sub [1, 2, 0] rfl ?_
          exact ih m1 x3 s0
      · refine S_iinc (L2 := fun x4 => [(2, .int x4), (0, .ref b), (1, .int m1)]) (v := (1 : Int32)) hO dX5_pass_186 rfl (by decide) (Nat.le_of_ble_eq_true rfl) (fun _ => rfl) (fun x4 => ?_)
        refine S_ (R_goto (tgt := 134) hO dX5_pass_189 (by decide)) ?_
        refine S_sub [1, 2, 0] rfl ?_
        exact ih m1 x4 s0
    · refine S_ (R_aload_n hO dX5_pass_192 rfl) ?_
      refine S_ (R_dup hO dX5_pass_193 rfl) ?_
      refine S_getI hO dX5_pass_194 fl_X5_37 hb.1 rfl ?_
      refine S_ (R_iconst (v := (1 : Int32)) hO dX5_pass_197 (by decide)) ?_
      refine S_ (R_iadd hO dX5_pass_198) ?_
      refine S_put hO dX5_pass_199 fl_X5_37 hb.1 rfl (fun s5 => ?_)
      exact S_vret rfl hO hQ dX5_pass_202 rfl
def f_X5_pass_45 (b : Nat) : Nat → Int32 → Int32 → Mem → Option (Mem)
  | 0, _, _, _ => none
  | n + 1, m1, m2, s0 => if (s0 b 3) ≤ (m2 + (1 : Int32)) then (lt ((0 : Int32)) fun x8 => f_X5_pass_134 b FU m1 x8 s0) else if (((s0 b 7) >>> (m2 &&& 31)) &&& (1 : Int32)) = 0 then (lt (m2 + (1 : Int32)) fun x7 => f_X5_pass_45 b n m1 x7 s0) else ing m2 8 <| if (s0 (b + 3) m2.toNatClampNeg) ≤ 0 then (lt (m2 + (1 : Int32)) fun x6 => f_X5_pass_45 b n m1 x6 s0) else ing (m2 + (1 : Int32)) 8 <| if (s0 (b + 3) (m2 + (1 : Int32)).toNatClampNeg) ≤ 0 then (lt (m2 + (1 : Int32)) fun x5 => f_X5_pass_45 b n m1 x5 s0) else ing m2 8 <| ing (m2 + (1 : Int32)) 8 <| lt (((s0 (b + 3) m2.toNatClampNeg) - (s0 (b + 3) (m2 + (1 : Int32)).toNatClampNeg)) / (4 : Int32)) fun x1 => ing m2 8 <| ing m2 8 <| lt (st2 s0 (b + 3) m2.toNatClampNeg ((s0 (b + 3) m2.toNatClampNeg) - x1)) fun s2 => ing (m2 + (1 : Int32)) 8 <| ing (m2 + (1 : Int32)) 8 <| lt (st2 s2 (b + 3) (m2 + (1 : Int32)).toNatClampNeg ((s2 (b + 3) (m2 + (1 : Int32)).toNatClampNeg) + x1)) fun s3 => lt (m2 + (1 : Int32)) fun x4 => f_X5_pass_45 b n m1 x4 s3
theorem w_X5_pass_45 {X : CX} {Z : Option Value × Mem → Prop} (hO : OKX X false 3 MX5_pass) (hQ : OKS X Z) (b : Nat) (hb : isSt b) : ∀ (n : Nat) (m1 : Int32) (m2 : Int32) (s0 : Mem), SIM X MX5_pass wV Z 45 [(0, .ref b), (1, .int m1), (2, .int m2)] [] s0 (f_X5_pass_45 b n m1 m2 s0) := by
  intro n
  induction n with
  | zero => intros; exact S_none
  | succ n ih =>
    intro m1 m2 s0
    rw [f_X5_pass_45]
    refine S_ (R_iload_n hO dX5_pass_45 rfl) ?_
    refine S_ (R_iconst (v := (1 : Int32)) hO dX5_pass_46 (by decide)) ?_
    refine S_ (R_iadd hO dX5_pass_47) ?_
    refine S_ (R_aload_n hO dX5_pass_48 rfl) ?_
    refine S_getI hO dX5_pass_49 fl_X5_21 hb.1 rfl ?_
    refine S_icmp_ge (tgt := 132) hO dX5_pass_52 (by decide) ?_ ?_
    · refine S_ (R_aload_n hO dX5_pass_55 rfl) ?_
      refine S_getI hO dX5_pass_56 fl_X5_40 hb.1 rfl ?_
      refine S_ (R_iload_n hO dX5_pass_59 rfl) ?_
      refine S_ (R_ishr hO dX5_pass_60) ?_
      refine S_ (R_iconst (v := (1 : Int32)) hO dX5_pass_61 (by decide)) ?_
      refine S_ (R_iand hO dX5_pass_62) ?_
      refine S_if_eq (tgt := 126) hO dX5_pass_63 (by decide) ?_ ?_
      · refine S_ (R_aload_n hO dX5_pass_66 rfl) ?_
        refine S_getR hO dX5_pass_67 fl_X5_18 hb.1 rfl ?_
        refine S_ (R_iload_n hO dX5_pass_70 rfl) ?_
        refine S_iald hO dX5_pass_71 hb.2.2.2 ?_
        refine S_if_le (tgt := 126) hO dX5_pass_72 (by decide) ?_ ?_
        · refine S_ (R_aload_n hO dX5_pass_75 rfl) ?_
          refine S_getR hO dX5_pass_76 fl_X5_18 hb.1 rfl ?_
          refine S_ (R_iload_n hO dX5_pass_79 rfl) ?_
          refine S_ (R_iconst (v := (1 : Int32)) hO dX5_pass_80 (by decide)) ?_
          refine S_ (R_iadd hO dX5_pass_81) ?_
          refine S_iald hO dX5_pass_82 hb.2.2.2 ?_
          refine S_if_le (tgt := 126) hO dX5_pass_83 (by decide) ?_ ?_
          · refine S_ (R_aload_n hO dX5_pass_86 rfl) ?_
            refine S_getR hO dX5_pass_87 fl_X5_18 hb.1 rfl ?_
            refine S_ (R_iload_n hO dX5_pass_90 rfl) ?_
            refine S_iald hO dX5_pass_91 hb.2.2.2 ?_
            refine S_ (R_aload_n hO dX5_pass_92 rfl) ?_
            refine S_getR hO dX5_pass_93 fl_X5_18 hb.1 rfl ?_
            refine S_ (R_iload_n hO dX5_pass_96 rfl) ?_
            refine S_ (R_iconst (v := (1 : Int32)) hO dX5_pass_97 (by decide)) ?_
            refine S_ (R_iadd hO dX5_pass_98) ?_
            refine S_iald hO dX5_pass_99 hb.2.2.2 ?_
            refine S_ (R_isub hO dX5_pass_100) ?_
            refine S_ (R_iconst (v := (4 : Int32)) hO dX5_pass_101 (by decide)) ?_
            refine S_ (R_idiv hO dX5_pass_102 (by decide)) ?_
            refine S_istore_n (L2 := fun x1 => [(3, .int x1), (0, .ref b), (1, .int m1), (2, .int m2)]) hO dX5_pass_103 (Nat.le_of_ble_eq_true rfl) (fun _ => rfl) (fun x1 => ?_)
            refine S_ (R_aload_n hO dX5_pass_104 rfl) ?_
            refine S_getR hO dX5_pass_105 fl_X5_18 hb.1 rfl ?_
            refine S_ (R_iload_n hO dX5_pass_108 rfl) ?_
            refine S_ (R_dup2 hO dX5_pass_109 rfl rfl) ?_
            refine S_iald hO dX5_pass_110 hb.2.2.2 ?_
            refine S_ (R_iload_n hO dX5_pass_111 rfl) ?_
            refine S_ (R_isub hO dX5_pass_112) ?_
            refine S_iast hO dX5_pass_113 hb.2.2.2 (fun s2 => ?_)
            refine S_ (R_aload_n hO dX5_pass_114 rfl) ?_
            refine S_getR hO dX5_pass_115 fl_X5_18 hb.1 rfl ?_
            refine S_ (R_iload_n hO dX5_pass_118 rfl) ?_
            refine S_ (R_iconst (v := (1 : Int32)) hO dX5_pass_119 (by decide)) ?_
            refine S_ (R_iadd hO dX5_pass_120) ?_
            refine S_ (R_dup2 hO dX5_pass_121 rfl rfl) ?_
            refine S_iald hO dX5_pass_122 hb.2.2.2 ?_
            refine S_ (R_iload_n hO dX5_pass_123 rfl) ?_
            refine S_ (R_iadd hO dX5_pass_124) ?_
            refine S_iast hO dX5_pass_125 hb.2.2.2 (fun s3 => ?_)
            refine S_iinc (L2 := fun x4 => [(2, .int x4), (3, .int x1), (0, .ref b), (1, .int m1)]) (v := (1 : Int32)) hO dX5_pass_126 rfl (by decide) (Nat.le_of_ble_eq_true rfl) (fun _ => rfl) (fun x4 => ?_)
            refine S_ (R_goto (tgt := 45) hO dX5_pass_129 (by decide)) ?_
            refine S_sub [2, 3, 0] rfl ?_
            exact ih m1 x4 s3
          · refine S_iinc (L2 := fun x5 => [(2, .int x5), (0, .ref b), (1, .int m1)]) (v := (1 : Int32)) hO dX5_pass_126 rfl (by decide) (Nat.le_of_ble_eq_true rfl) (fun _ => rfl) (fun x5 => ?_)
            refine S_ (R_goto (tgt := 45) hO dX5_pass_129 (by decide)) ?_
            refine S_sub [1, 2, 0] rfl ?_
            exact ih m1 x5 s0
        · refine S_iinc (L2 := fun x6 => [(2, .int x6), (0, .ref b), (1, .int m1)]) (v := (1 : Int32)) hO dX5_pass_126 rfl (by decide) (Nat.le_of_ble_eq_true rfl) (fun _ => rfl) (fun x6 => ?_)
          refine S_ (R_goto (tgt := 45) hO dX5_pass_129 (by decide)) ?_
          refine S_sub [1, 2, 0] rfl ?_
          exact ih m1 x6 s0
      · refine S_iinc (L2 := fun x7 => [(2, .int x7), (0, .ref b), (1, .int m1)]) (v := (1 : Int32)) hO dX5_pass_126 rfl (by decide) (Nat.le_of_ble_eq_true rfl) (fun _ => rfl) (fun x7 => ?_)
        refine S_ (R_goto (tgt := 45) hO dX5_pass_129 (by decide)) ?_
        refine S_sub [1, 2, 0] rfl ?_
        exact ih m1 x7 s0
    · refine S_ (R_iconst (v := (0 : Int32)) hO dX5_pass_132 (by decide)) ?_
      refine S_istore_n (L2 := fun x8 => [(2, .int x8), (0, .ref b), (1, .int m1)]) hO dX5_pass_133 (Nat.le_of_ble_eq_true rfl) (fun _ => rfl) (fun x8 => ?_)
      refine S_sub [1, 2, 0] rfl ?_
      exact w_X5_pass_134 hO hQ b hb FU m1 x8 s0
def f_X5_pass_7 (b : Nat) : Nat → Int32 → Int32 → Mem → Option (Mem)
  | 0, _, _, _ => none
  | n + 1, m1, m2, s0 => if (s0 b 3) ≤ m2 then (lt ((0 : Int32)) fun x5 => f_X5_pass_45 b FU m1 x5 s0) else ing m2 8 <| bd2 (f_X5_loss b m2 s0) fun x1 s2 => ing m2 8 <| lt (st2 s2 (b + 3) m2.toNatClampNeg (imax (0 : Int32) ((s0 (b + 3) m2.toNatClampNeg) - x1))) fun s3 => lt (m2 + (1 : Int32)) fun x4 => f_X5_pass_7 b n m1 x4 s3
theorem w_X5_pass_7 {X : CX} {Z : Option Value × Mem → Prop} (hO : OKX X false 3 MX5_pass) (hQ : OKS X Z) (b : Nat) (hb : isSt b) : ∀ (n : Nat) (m1 : Int32) (m2 : Int32) (s0 : Mem), SIM X MX5_pass wV Z 7 [(0, .ref b), (1, .int m1), (2, .int m2)] [] s0 (f_X5_pass_7 b n m1 m2 s0) := by
  intro n
  induction n with
  | zero => intros; exact S_none
  | succ n ih =>
    intro m1 m2 s0
    rw [f_X5_pass_7]
    refine S_ (R_iload_n hO dX5_pass_7 rfl) ?_
    refine S_ (R_aload_n hO dX5_pass_8 rfl) ?_
    refine S_getI hO dX5_pass_9 fl_X5_21 hb.1 rfl ?_
    refine S_icmp_ge (tgt := 43) hO dX5_pass_12 (by decide) ?_ ?_
    · refine S_ (R_aload_n hO dX5_pass_15 rfl) ?_
      refine S_getR hO dX5_pass_16 fl_X5_18 hb.1 rfl ?_
      refine S_ (R_iload_n hO dX5_pass_19 rfl) ?_
      refine S_ (R_iconst (v := (0 : Int32)) hO dX5_pass_20 (by decide)) ?_
      refine S_ (R_aload_n hO dX5_pass_21 rfl) ?_
      refine S_getR hO dX5_pass_22 fl_X5_18 hb.1 rfl ?_
      refine S_ (R_iload_n hO dX5_pass_25 rfl) ?_
      refine S_iald hO dX5_pass_26 hb.2.2.2 ?_
      refine S_ (R_aload_n hO dX5_pass_27 rfl) ?_
      refine S_ (R_iload_n hO dX5_pass_28 rfl) ?_
      refine S_callVI (rest := [.int (s0 (b + 3) m2.toNatClampNeg), .int (0 : Int32), .int m2, .ref (b + 3)]) hO dX5_pass_29 (cs_X5_loss b hb m2 s0) (by omega) lk_X5_64 np_X5_loss (rc_St hb rfl) rfl (Nat.le_of_ble_eq_true rfl) (fun x1 s2 => ?_)
      refine S_ (R_isub hO dX5_pass_32) ?_
      refine S_max hO dX5_pass_33 (by omega) kmm_max_X5_53 kw_max (Nat.le_of_ble_eq_true rfl) ?_
      refine S_iast hO dX5_pass_36 hb.2.2.2 (fun s3 => ?_)
      refine S_iinc (L2 := fun x4 => [(2, .int x4), (0, .ref b), (1, .int m1)]) (v := (1 : Int32)) hO dX5_pass_37 rfl (by decide) (Nat.le_of_ble_eq_true rfl) (fun _ => rfl) (fun x4 => ?_)
      refine S_ (R_goto (tgt := 7) hO dX5_pass_40 (by decide)) ?_
      refine S_sub [1, 2, 0] rfl ?_
      exact ih m1 x4 s3
    · refine S_ (R_iconst (v := (0 : Int32)) hO dX5_pass_43 (by decide)) ?_
      refine S_istore_n (L2 := fun x5 => [(2, .int x5), (0, .ref b), (1, .int m1)]) hO dX5_pass_44 (Nat.le_of_ble_eq_true rfl) (fun _ => rfl) (fun x5 => ?_)
      refine S_sub [1, 2, 0] rfl ?_
      exact w_X5_pass_45 hO hQ b hb FU m1 x5 s0
def f_X5_pass (b : Nat) (s0 : Mem) : Option (Mem) := bd2 (f_X5_standing b s0) fun x1 s2 => lt (x1) fun x3 => lt ((0 : Int32)) fun x4 => f_X5_pass_7 b FU x3 x4 s2
theorem cs_X5_pass (b : Nat) (hb : isSt b) (s0 : Mem) : CS 3 MX5_pass [.ref b] s0 ((f_X5_pass b s0).map wV) := by
  refine CS.of (by decide +kernel) (Nat.le_of_ble_eq_true rfl) (fun X Z hO hQ => ?_)
  show SIM X MX5_pass wV Z 0 [(0, .ref b)] [] s0 _
  unfold f_X5_pass
  refine S_ (R_aload_n hO dX5_pass_0 rfl) ?_
  refine S_callVI (rest := []) hO dX5_pass_1 (cs_X5_standing b hb s0) (by omega) lk_X5_60 np_X5_standing (rc_St hb rfl) rfl (Nat.le_of_ble_eq_true rfl) (fun x1 s2 => ?_)
  refine S_istore_n (L2 := fun x3 => [(1, .int x3), (0, .ref b)]) hO dX5_pass_4 (Nat.le_of_ble_eq_true rfl) (fun _ => rfl) (fun x3 => ?_)
  refine S_ (R_iconst (v := (0 : Int32)) hO dX5_pass_5 (by decide)) ?_
  refine S_istore_n (L2 := fun x4 => [(2, .int x4), (1, .int x3), (0, .ref b)]) hO dX5_pass_6 (Nat.le_of_ble_eq_true rfl) (fun _ => rfl) (fun x4 => ?_)
  refine S_sub [2, 1, 0] rfl ?_
  exact w_X5_pass_7 hO hQ b hb FU x3 x4 s2
def f_X5_raise (b : Nat) (p1 : Int32) (p2 : Int32) (s0 : Mem) : Option (Mem) := ing p1 8 <| ing p1 8 <| lt (st2 s0 (b + 3) p1.toNatClampNeg (imin (99 : Int32) ((s0 (b + 3) p1.toNatClampNeg) + p2))) fun s1 => some s1
theorem cs_X5_raise (b : Nat) (hb : isSt b) (p1 : Int32) (p2 : Int32) (s0 : Mem) : CS 2 MX5_raise [.ref b, .int p1, .int p2] s0 ((f_X5_raise b p1 p2 s0).map wV) := by
  refine CS.of (by decide +kernel) (Nat.le_of_ble_eq_true rfl) (fun X Z hO hQ => ?_)
  show SIM X MX5_raise wV Z 0 [(0, .ref b), (1, .int p1), (2, .int p2)] [] s0 _
  unfold f_X5_raise
  refine S_ (R_aload_n hO dX5_raise_0 rfl) ?_
  refine S_getR hO dX5_raise_1 fl_X5_18 hb.1 rfl ?_
  refine S_ (R_iload_n hO dX5_raise_4 rfl) ?_
  refine S_ (R_bipush (v := (99 : Int32)) hO dX5_raise_5 (by decide)) ?_
  refine S_ (R_aload_n hO dX5_raise_7 rfl) ?_
  refine S_getR hO dX5_raise_8 fl_X5_18 hb.1 rfl ?_
  refine S_ (R_iload_n hO dX5_raise_11 rfl) ?_
  refine S_iald hO dX5_raise_12 hb.2.2.2 ?_
  refine S_ (R_iload_n hO dX5_raise_13 rfl) ?_
  refine S_ (R_iadd hO dX5_raise_14) ?_
  refine S_min hO dX5_raise_15 (by omega) kmm_min_X5_43 kw_min (Nat.le_of_ble_eq_true rfl) ?_
  refine S_iast hO dX5_raise_18 hb.2.2.2 (fun s1 => ?_)
  exact S_vret rfl hO hQ dX5_raise_19 rfl
def f_X5_leaning_4 (b : Nat) : Nat → Int32 → Int32 → Mem → Option (Int32 × Mem)
  | 0, _, _, _ => none
  | n + 1, m1, m2, s0 => if (s0 b 3) ≤ m2 then (some (m1, s0)) else bd2 (f_X5_leans b m2 s0) fun x1 s2 => if x1 = 0 then (lt (m1 ||| (0 : Int32)) fun x5 => lt (m2 + (1 : Int32)) fun x6 => f_X5_leaning_4 b n x5 x6 s2) else lt (m1 ||| ((1 : Int32) <<< (m2 &&& 31))) fun x3 => lt (m2 + (1 : Int32)) fun x4 => f_X5_leaning_4 b n x3 x4 s2
theorem w_X5_leaning_4 {X : CX} {Z : Option Value × Mem → Prop} (hO : OKX X false 2 MX5_leaning) (hQ : OKS X Z) (b : Nat) (hb : isSt b) : ∀ (n : Nat) (m1 : Int32) (m2 : Int32) (s0 : Mem), SIM X MX5_leaning wI Z 4 [(0, .ref b), (1, .int m1), (2, .int m2)] [] s0 (f_X5_leaning_4 b n m1 m2 s0) := by
  intro n
  induction n with
  | zero => intros; exact S_none
  | succ n ih =>
    intro m1 m2 s0
    rw [f_X5_leaning_4]
    refine S_ (R_iload_n hO dX5_leaning_4 rfl) ?_
    refine S_ (R_aload_n hO dX5_leaning_5 rfl) ?_
    refine S_getI hO dX5_leaning_6 fl_X5_21 hb.1 rfl ?_
    refine S_icmp_ge (tgt := 36) hO dX5_leaning_9 (by decide) ?_ ?_
    · refine S_ (R_iload_n hO dX5_leaning_12 rfl) ?_
      refine S_ (R_aload_n hO dX5_leaning_13 rfl) ?_
      refine S_ (R_iload_n hO dX5_leaning_14 rfl) ?_
      refine S_callVI (rest := [.int m1]) hO dX5_leaning_15 (cs_X5_leans b hb m2 s0) (by omega) lk_X5_49 np_X5_leans (rc_St hb rfl) rfl (Nat.le_of_ble_eq_true rfl) (fun x1 s2 => ?_)
      refine S_if_eq (tgt := 27) hO dX5_leaning_18 (by decide) ?_ ?_
      · refine S_ (R_iconst (v := (1 : Int32)) hO dX5_leaning_21 (by decide)) ?_
        refine S_ (R_iload_n hO dX5_leaning_22 rfl) ?_
        refine S_ (R_ishl hO dX5_leaning_23) ?_
        refine S_ (R_goto (tgt := 28) hO dX5_leaning_24 (by decide)) ?_
        refine S_ (R_ior hO dX5_leaning_28) ?_
        refine S_istore_n (L2 := fun x3 => [(1, .int x3), (0, .ref b), (2, .int m2)]) hO dX5_leaning_29 (Nat.le_of_ble_eq_true rfl) (fun _ => rfl) (fun x3 => ?_)
        refine S_iinc (L2 := fun x4 => [(2, .int x4), (1, .int x3), (0, .ref b)]) (v := (1 : Int32)) hO dX5_leaning_30 rfl (by decide) (Nat.le_of_ble_eq_true rfl) (fun _ => rfl) (fun x4 => ?_)
        refine S_ (R_goto (tgt := 4) hO dX5_leaning_33 (by decide)) ?_
        refine S_sub [2, 1, 0] rfl ?_
        exact ih x3 x4 s2
      · refine S_ (R_iconst (v := (0 : Int32)) hO dX5_leaning_27 (by decide)) ?_
        refine S_ (R_ior hO dX5_leaning_28) ?_
        refine S_istore_n (L2 := fun x5 => [(1, .int x5), (0, .ref b), (2, .int m2)]) hO dX5_leaning_29 (Nat.le_of_ble_eq_true rfl) (fun _ => rfl) (fun x5 => ?_)
        refine S_iinc (L2 := fun x6 => [(2, .int x6), (1, .int x5), (0, .ref b)]) (v := (1 : Int32)) hO dX5_leaning_30 rfl (by decide) (Nat.le_of_ble_eq_true rfl) (fun _ => rfl) (fun x6 => ?_)
        refine S_ (R_goto (tgt := 4) hO dX5_leaning_33 (by decide)) ?_
        refine S_sub [2, 1, 0] rfl ?_
        exact ih x5 x6 s2
    · refine S_ (R_iload_n hO dX5_leaning_36 rfl) ?_
      exact S_iret rfl hO hQ dX5_leaning_37 rfl
def f_X5_leaning (b : Nat) (s0 : Mem) : Option (Int32 × Mem) := lt ((0 : Int32)) fun x1 => lt ((0 : Int32)) fun x2 => f_X5_leaning_4 b FU x1 x2 s0
theorem cs_X5_leaning (b : Nat) (hb : isSt b) (s0 : Mem) : CS 2 MX5_leaning [.ref b] s0 ((f_X5_leaning b s0).map wI) := by
  refine CS.of (by decide +kernel) (Nat.le_of_ble_eq_true rfl) (fun X Z hO hQ => ?_)
  show SIM X MX5_leaning wI Z 0 [(0, .ref b)] [] s0 _
  unfold f_X5_leaning
  refine S_ (R_iconst (v := (0 : Int32)) hO dX5_leaning_0 (by decide)) ?_
  refine S_istore_n (L2 := fun x1 => [(1, .int x1), (0, .ref b)]) hO dX5_leaning_1 (Nat.le_of_ble_eq_true rfl) (fun _ => rfl) (fun x1 => ?_)
  refine S_ (R_iconst (v := (0 : Int32)) hO dX5_leaning_2 (by decide)) ?_
  refine S_istore_n (L2 := fun x2 => [(2, .int x2), (1, .int x1), (0, .ref b)]) hO dX5_leaning_3 (Nat.le_of_ble_eq_true rfl) (fun _ => rfl) (fun x2 => ?_)
  refine S_sub [2, 1, 0] rfl ?_
  exact w_X5_leaning_4 hO hQ b hb FU x1 x2 s0
def f_X5_allSpin_4 (b : Nat) : Nat → Int32 → Int32 → Mem → Option (Int32 × Mem)
  | 0, _, _, _ => none
  | n + 1, m1, m2, s0 => if (s0 b 3) ≤ m2 then (some (m1, s0)) else ing m2 8 <| lt (m1 + (s0 (b + 3) m2.toNatClampNeg)) fun x1 => lt (m2 + (1 : Int32)) fun x2 => f_X5_allSpin_4 b n x1 x2 s0
theorem w_X5_allSpin_4 {X : CX} {Z : Option Value × Mem → Prop} (hO : OKX X false 1 MX5_allSpin) (hQ : OKS X Z) (b : Nat) (hb : isSt b) : ∀ (n : Nat) (m1 : Int32) (m2 : Int32) (s0 : Mem), SIM X MX5_allSpin wI Z 4 [(0, .ref b), (1, .int m1), (2, .int m2)] [] s0 (f_X5_allSpin_4 b n m1 m2 s0) := by
  intro n
  induction n with
  | zero => intros; exact S_none
  | succ n ih =>
    intro m1 m2 s0
    rw [f_X5_allSpin_4]
    refine S_ (R_iload_n hO dX5_allSpin_4 rfl) ?_
    refine S_ (R_aload_n hO dX5_allSpin_5 rfl) ?_
    refine S_getI hO dX5_allSpin_6 fl_X5_21 hb.1 rfl ?_
    refine S_icmp_ge (tgt := 27) hO dX5_allSpin_9 (by decide) ?_ ?_
    · refine S_ (R_iload_n hO dX5_allSpin_12 rfl) ?_
      refine S_ (R_aload_n hO dX5_allSpin_13 rfl) ?_
      refine S_getR hO dX5_allSpin_14 fl_X5_18 hb.1 rfl ?_
      refine S_ (R_iload_n hO dX5_allSpin_17 rfl) ?_
      refine S_iald hO dX5_allSpin_18 hb.2.2.2 ?_
      refine S_ (R_iadd hO dX5_allSpin_19) ?_
      refine S_istore_n (L2 := fun x1 => [(1, .int x1), (0, .ref b), (2, .int m2)]) hO dX5_allSpin_20 (Nat.le_of_ble_eq_true rfl) (fun _ => rfl) (fun x1 => ?_)
      refine S_iinc (L2 := fun x2 => [(2, .int x2), (1, .int x1), (0, .ref b)]) (v := (1 : Int32)) hO dX5_allSpin_21 rfl (by decide) (Nat.le_of_ble_eq_true rfl) (fun _ => rfl) (fun x2 => ?_)
      refine S_ (R_goto (tgt := 4) hO dX5_allSpin_24 (by decide)) ?_
      refine S_sub [2, 1, 0] rfl ?_
      exact ih x1 x2 s0
    · refine S_ (R_iload_n hO dX5_allSpin_27 rfl) ?_
      exact S_iret rfl hO hQ dX5_allSpin_28 rfl
def f_X5_allSpin (b : Nat) (s0 : Mem) : Option (Int32 × Mem) := lt ((0 : Int32)) fun x1 => lt ((0 : Int32)) fun x2 => f_X5_allSpin_4 b FU x1 x2 s0
theorem cs_X5_allSpin (b : Nat) (hb : isSt b) (s0 : Mem) : CS 1 MX5_allSpin [.ref b] s0 ((f_X5_allSpin b s0).map wI) := by
  refine CS.of (by decide +kernel) (Nat.le_of_ble_eq_true rfl) (fun X Z hO hQ => ?_)
  show SIM X MX5_allSpin wI Z 0 [(0, .ref b)] [] s0 _
  unfold f_X5_allSpin
  refine S_ (R_iconst (v := (0 : Int32)) hO dX5_allSpin_0 (by decide)) ?_
  refine S_istore_n (L2 := fun x1 => [(1, .int x1), (0, .ref b)]) hO dX5_allSpin_1 (Nat.le_of_ble_eq_true rfl) (fun _ => rfl) (fun x1 => ?_)
  refine S_ (R_iconst (v := (0 : Int32)) hO dX5_allSpin_2 (by decide)) ?_
  refine S_istore_n (L2 := fun x2 => [(2, .int x2), (1, .int x1), (0, .ref b)]) hO dX5_allSpin_3 (Nat.le_of_ble_eq_true rfl) (fun _ => rfl) (fun x2 => ?_)
  refine S_sub [2, 1, 0] rfl ?_
  exact w_X5_allSpin_4 hO hQ b hb FU x1 x2 s0
def f_X5_passAll_2 (b : Nat) (p1 : Int32) : Nat → Int32 → Mem → Option (Mem)
  | 0, _, _ => none
  | n + 1, m2, s0 => if p1 ≤ m2 then (some s0) else bd (f_X5_pass b s0) fun s2 => lt (m2 + (1 : Int32)) fun x3 => f_X5_passAll_2 b p1 n x3 s2
theorem w_X5_passAll_2 {X : CX} {Z : Option Value × Mem → Prop} (hO : OKX X false 4 MX5_passAll) (hQ : OKS X Z) (b : Nat) (hb : isSt b) (p1 : Int32) : ∀ (n : Nat) (m2 : Int32) (s0 : Mem), SIM X MX5_passAll wV Z 2 [(0, .ref b), (1, .int p1), (2, .int m2)] [] s0 (f_X5_passAll_2 b p1 n m2 s0) := by
  intro n
  induction n with
  | zero => intros; exact S_none
  | succ n ih =>
    intro m2 s0
    rw [f_X5_passAll_2]
    refine S_ (R_iload_n hO dX5_passAll_2 rfl) ?_
    refine S_ (R_iload_n hO dX5_passAll_3 rfl) ?_
    refine S_icmp_ge (tgt := 17) hO dX5_passAll_4 (by decide) ?_ ?_
    · refine S_ (R_aload_n hO dX5_passAll_7 rfl) ?_
      refine S_callVV (rest := []) hO dX5_passAll_8 (cs_X5_pass b hb s0) (by omega) lk_X5_67 np_X5_pass (rc_St hb rfl) rfl (Nat.le_of_ble_eq_true rfl) (fun s2 => ?_)
      refine S_iinc (L2 := fun x3 => [(2, .int x3), (0, .ref b), (1, .int p1)]) (v := (1 : Int32)) hO dX5_passAll_11 rfl (by decide) (Nat.le_of_ble_eq_true rfl) (fun _ => rfl) (fun x3 => ?_)
      refine S_ (R_goto (tgt := 2) hO dX5_passAll_14 (by decide)) ?_
      refine S_sub [1, 2, 0] rfl ?_
      exact ih x3 s2
    · exact S_vret rfl hO hQ dX5_passAll_17 rfl
def f_X5_passAll (b : Nat) (p1 : Int32) (s0 : Mem) : Option (Mem) := lt ((0 : Int32)) fun x1 => f_X5_passAll_2 b p1 FU x1 s0
theorem cs_X5_passAll (b : Nat) (hb : isSt b) (p1 : Int32) (s0 : Mem) : CS 4 MX5_passAll [.ref b, .int p1] s0 ((f_X5_passAll b p1 s0).map wV) := by
  refine CS.of (by decide +kernel) (Nat.le_of_ble_eq_true rfl) (fun X Z hO hQ => ?_)
  show SIM X MX5_passAll wV Z 0 [(0, .ref b), (1, .int p1)] [] s0 _
  unfold f_X5_passAll
  refine S_ (R_iconst (v := (0 : Int32)) hO dX5_passAll_0 (by decide)) ?_
  refine S_istore_n (L2 := fun x1 => [(2, .int x1), (0, .ref b), (1, .int p1)]) hO dX5_passAll_1 (Nat.le_of_ble_eq_true rfl) (fun _ => rfl) (fun x1 => ?_)
  refine S_sub [1, 2, 0] rfl ?_
  exact w_X5_passAll_2 hO hQ b hb p1 FU x1 s0
def f_X5_lacking (b : Nat) (p1 : Int32) (s0 : Mem) : Option (Int32 × Mem) := ing p1 8 <| if (s0 (b + 3) p1.toNatClampNeg) ≤ 0 then (some ((0 : Int32), s0)) else ing p1 8 <| some ((99 : Int32) - (s0 (b + 3) p1.toNatClampNeg), s0)
theorem cs_X5_lacking (b : Nat) (hb : isSt b) (p1 : Int32) (s0 : Mem) : CS 1 MX5_lacking [.ref b, .int p1] s0 ((f_X5_lacking b p1 s0).map wI) := by
  refine CS.of (by decide +kernel) (Nat.le_of_ble_eq_true rfl) (fun X Z hO hQ => ?_)
  show SIM X MX5_lacking wI Z 0 [(0, .ref b), (1, .int p1)] [] s0 _
  unfold f_X5_lacking
  refine S_ (R_aload_n hO dX5_lacking_0 rfl) ?_
  refine S_getR hO dX5_lacking_1 fl_X5_18 hb.1 rfl ?_
  refine S_ (R_iload_n hO dX5_lacking_4 rfl) ?_
  refine S_iald hO dX5_lacking_5 hb.2.2.2 ?_
  refine S_if_le (tgt := 21) hO dX5_lacking_6 (by decide) ?_ ?_
  · refine S_ (R_bipush (v := (99 : Int32)) hO dX5_lacking_9 (by decide)) ?_
    refine S_ (R_aload_n hO dX5_lacking_11 rfl) ?_
    refine S_getR hO dX5_lacking_12 fl_X5_18 hb.1 rfl ?_
    refine S_ (R_iload_n hO dX5_lacking_15 rfl) ?_
    refine S_iald hO dX5_lacking_16 hb.2.2.2 ?_
    refine S_ (R_isub hO dX5_lacking_17) ?_
    refine S_ (R_goto (tgt := 22) hO dX5_lacking_18 (by decide)) ?_
    exact S_iret rfl hO hQ dX5_lacking_22 rfl
  · refine S_ (R_iconst (v := (0 : Int32)) hO dX5_lacking_21 (by decide)) ?_
    exact S_iret rfl hO hQ dX5_lacking_22 rfl
def f_X5_yards_119 (b : Nat) (p1 : Int32) (p2 : Int32) (m3 : Int32) (t0 : Int32) (s0 : Mem) : Option (Int32 × Mem) := lt (t0) fun x1 => bd2 (f_X5_lacking b p1 s0) fun x2 s3 => gd (¬ m3 = 0) <| some (((p2 * x2) / m3) + x1, s3)
theorem w_X5_yards_119 {X : CX} {Z : Option Value × Mem → Prop} (hO : OKX X false 2 MX5_yards) (hQ : OKS X Z) (b : Nat) (hb : isSt b) (p1 : Int32) (p2 : Int32) (m3 : Int32) (t0 : Int32) (s0 : Mem) : SIM X MX5_yards wI Z 119 [(0, .ref b), (1, .int p1), (2, .int p2), (3, .int m3)] [.int t0] s0 (f_X5_yards_119 b p1 p2 m3 t0 s0) := by
  unfold f_X5_yards_119
  refine S_istore (L2 := fun x1 => [(6, .int x1), (0, .ref b), (1, .int p1), (2, .int p2), (3, .int m3)]) hO dX5_yards_119 (Nat.le_of_ble_eq_true rfl) (fun _ => rfl) (fun x1 => ?_)
  refine S_ (R_iload_n hO dX5_yards_121 rfl) ?_
  refine S_ (R_aload_n hO dX5_yards_122 rfl) ?_
  refine S_ (R_iload_n hO dX5_yards_123 rfl) ?_
  refine S_callVI (rest := [.int p2]) hO dX5_yards_124 (cs_X5_lacking b hb p1 s0) (by omega) lk_X5_70 np_X5_lacking (rc_St hb rfl) rfl (Nat.le_of_ble_eq_true rfl) (fun x2 s3 => ?_)
  refine S_ (R_imul hO dX5_yards_127) ?_
  refine S_ (R_iload_n hO dX5_yards_128 rfl) ?_
  refine S_idiv hO dX5_yards_129 ?_
  refine S_ (R_iload hO dX5_yards_130 rfl) ?_
  refine S_ (R_iadd hO dX5_yards_132) ?_
  exact S_iret rfl hO hQ dX5_yards_133 rfl
def f_X5_yards_44 (b : Nat) (p1 : Int32) (p2 : Int32) : Nat → Int32 → Int32 → Int32 → Int32 → Mem → Option (Int32 × Mem)
  | 0, _, _, _, _, _ => none
  | n + 1, m3, m4, m5, m6, s0 => if (s0 b 3) ≤ m6 then (bd2 (f_X5_lacking b p1 s0) fun x12 s13 => if x12 ≤ 0 then (f_X5_yards_119 b p1 p2 m3 (0 : Int32) s13) else if m4 ≤ m5 then (f_X5_yards_119 b p1 p2 m3 (0 : Int32) s13) else f_X5_yards_119 b p1 p2 m3 (1 : Int32) s13) else bd2 (f_X5_lacking b m6 s0) fun x1 s2 => gd (¬ m3 = 0) <| lt (m4 - ((p2 * x1) / m3)) fun x3 => if p1 ≤ m6 then (lt (m5 + (0 : Int32)) fun x10 => lt (m6 + (1 : Int32)) fun x11 => f_X5_yards_44 b p1 p2 n m3 x3 x10 x11 s2) else bd2 (f_X5_lacking b m6 s2) fun x4 s5 => if x4 ≤ 0 then (lt (m5 + (0 : Int32)) fun x8 => lt (m6 + (1 : Int32)) fun x9 => f_X5_yards_44 b p1 p2 n m3 x3 x8 x9 s5) else lt (m5 + (1 : Int32)) fun x6 => lt (m6 + (1 : Int32)) fun x7 => f_X5_yards_44 b p1 p2 n m3 x3 x6 x7 s5
theorem w_X5_yards_44 {X : CX} {Z : Option Value × Mem → Prop} (hO : OKX X false 2 MX5_yards) (hQ : OKS X Z) (b : Nat) (hb : isSt b) (p1 : Int32) (p2 : Int32) : ∀ (n : Nat) (m3 : Int32) (m4 : Int32) (m5 : Int32) (m6 : Int32) (s0 : Mem), SIM X MX5_yards wI Z 44 [(0, .ref b), (1, .int p1), (2, .int p2), (3, .int m3), (4, .int m4), (5, .int m5), (6, .int m6)] [] s0 (f_X5_yards_44 b p1 p2 n m3 m4 m5 m6 s0) := by
  intro n
  induction n with
  | zero => intros; exact S_none
  | succ n ih =>
    intro m3 m4 m5 m6 s0
    rw [f_X5_yards_44]
    refine S_ (R_iload hO dX5_yards_44 rfl) ?_
    refine S_ (R_aload_n hO dX5_yards_46 rfl) ?_
    refine S_getI hO dX5_yards_47 fl_X5_21 hb.1 rfl ?_
    refine S_icmp_ge (tgt := 99) hO dX5_yards_50 (by decide) ?_ ?_
    · refine S_ (R_iload hO dX5_yards_53 rfl) ?_
      refine S_ (R_iload_n hO dX5_yards_55 rfl) ?_
      refine S_ (R_aload_n hO dX5_yards_56 rfl) ?_
      refine S_ (R_iload hO dX5_yards_57 rfl) ?_
      refine S_callVI (rest := [.int p2, .int m4]) hO dX5_yards_59 (cs_X5_lacking b hb m6 s0) (by omega) lk_X5_70 np_X5_lacking (rc_St hb rfl) rfl (Nat.le_of_ble_eq_true rfl) (fun x1 s2 => ?_)
      refine S_ (R_imul hO dX5_yards_62) ?_
      refine S_ (R_iload_n hO dX5_yards_63 rfl) ?_
      refine S_idiv hO dX5_yards_64 ?_
      refine S_ (R_isub hO dX5_yards_65) ?_
      refine S_istore (L2 := fun x3 => [(4, .int x3), (0, .ref b), (1, .int p1), (2, .int p2), (3, .int m3), (5, .int m5), (6, .int m6)]) hO dX5_yards_66 (Nat.le_of_ble_eq_true rfl) (fun _ => rfl) (fun x3 => ?_)
      refine S_ (R_iload hO dX5_yards_68 rfl) ?_
      refine S_ (R_iload hO dX5_yards_70 rfl) ?_
      refine S_ (R_iload_n hO dX5_yards_72 rfl) ?_
      refine S_icmp_ge (tgt := 89) hO dX5_yards_73 (by decide) ?_ ?_
      · refine S_ (R_aload_n hO dX5_yards_76 rfl) ?_
        refine S_ (R_iload hO dX5_yards_77 rfl) ?_
        refine S_callVI (rest := [.int m5]) hO dX5_yards_79 (cs_X5_lacking b hb m6 s2) (by omega) lk_X5_70 np_X5_lacking (rc_St hb rfl) rfl (Nat.le_of_ble_eq_true rfl) (fun x4 s5 => ?_)
        refine S_if_le (tgt := 89) hO dX5_yards_82 (by decide) ?_ ?_
        · refine S_ (R_iconst (v := (1 : Int32)) hO dX5_yards_85 (by decide)) ?_
          refine S_ (R_goto (tgt := 90) hO dX5_yards_86 (by decide)) ?_
          refine S_ (R_iadd hO dX5_yards_90) ?_
          refine S_istore (L2 := fun x6 => [(5, .int x6), (4, .int x3), (0, .ref b), (1, .int p1), (2, .int p2), (3, .int m3), (6, .int m6)]) hO dX5_yards_91 (Nat.le_of_ble_eq_true rfl) (fun _ => rfl) (fun x6 => ?_)
          refine S_iinc (L2 := fun x7 => [(6, .int x7), (5, .int x6), (4, .int x3), (0, .ref b), (1, .int p1), (2, .int p2), (3, .int m3)]) (v := (1 : Int32)) hO dX5_yards_93 rfl (by decide) (Nat.le_of_ble_eq_true rfl) (fun _ => rfl) (fun x7 => ?_)
          refine S_ (R_goto (tgt := 44) hO dX5_yards_96 (by decide)) ?_
          refine S_sub [3, 4, 5, 6, 2, 1, 0] rfl ?_
          exact ih m3 x3 x6 x7 s5
        · refine S_ (R_iconst (v := (0 : Int32)) hO dX5_yards_89 (by decide)) ?_
          refine S_ (R_iadd hO dX5_yards_90) ?_
          refine S_istore (L2 := fun x8 => [(5, .int x8), (4, .int x3), (0, .ref b), (1, .int p1), (2, .int p2), (3, .int m3), (6, .int m6)]) hO dX5_yards_91 (Nat.le_of_ble_eq_true rfl) (fun _ => rfl) (fun x8 => ?_)
          refine S_iinc (L2 := fun x9 => [(6, .int x9), (5, .int x8), (4, .int x3), (0, .ref b), (1, .int p1), (2, .int p2), (3, .int m3)]) (v := (1 : Int32)) hO dX5_yards_93 rfl (by decide) (Nat.le_of_ble_eq_true rfl) (fun _ => rfl) (fun x9 => ?_)
          refine S_ (R_goto (tgt := 44) hO dX5_yards_96 (by decide)) ?_
          refine S_sub [3, 4, 5, 6, 2, 1, 0] rfl ?_
          exact ih m3 x3 x8 x9 s5
      · refine S_ (R_iconst (v := (0 : Int32)) hO dX5_yards_89 (by decide)) ?_
        refine S_ (R_iadd hO dX5_yards_90) ?_
        refine S_istore (L2 := fun x10 => [(5, .int x10), (4, .int x3), (0, .ref b), (1, .int p1), (2, .int p2), (3, .int m3), (6, .int m6)]) hO dX5_yards_91 (Nat.le_of_ble_eq_true rfl) (fun _ => rfl) (fun x10 => ?_)
        refine S_iinc (L2 := fun x11 => [(6, .int x11), (5, .int x10), (4, .int x3), (0, .ref b), (1, .int p1), (2, .int p2), (3, .int m3)]) (v := (1 : Int32)) hO dX5_yards_93 rfl (by decide) (Nat.le_of_ble_eq_true rfl) (fun _ => rfl) (fun x11 => ?_)
        refine S_ (R_goto (tgt := 44) hO dX5_yards_96 (by decide)) ?_
        refine S_sub [3, 4, 5, 6, 2, 1, 0] rfl ?_
        exact ih m3 x3 x10 x11 s2
    · refine S_ (R_aload_n hO dX5_yards_99 rfl) ?_
      refine S_ (R_iload_n hO dX5_yards_100 rfl) ?_
      refine S_callVI (rest := []) hO dX5_yards_101 (cs_X5_lacking b hb p1 s0) (by omega) lk_X5_70 np_X5_lacking (rc_St hb rfl) rfl (Nat.le_of_ble_eq_true rfl) (fun x12 s13 => ?_)
      refine S_if_le (tgt := 118) hO dX5_yards_104 (by decide) ?_ ?_
      · refine S_ (R_iload hO dX5_yards_107 rfl) ?_
        refine S_ (R_iload hO dX5_yards_109 rfl) ?_
        refine S_icmp_ge (tgt := 118) hO dX5_yards_111 (by decide) ?_ ?_
        · refine S_ (R_iconst (v := (1 : Int32)) hO dX5_yards_114 (by decide)) ?_
          refine S_ (R_goto (tgt := 119) hO dX5_yards_115 (by decide)) ?_
          refine S_sub [0, 1, 2, 3] rfl ?_
          exact w_X5_yards_119 hO hQ b hb p1 p2 m3 (1 : Int32) s13
        · refine S_ (R_iconst (v := (0 : Int32)) hO dX5_yards_118 (by decide)) ?_
          refine S_sub [0, 1, 2, 3] rfl ?_
          exact w_X5_yards_119 hO hQ b hb p1 p2 m3 (0 : Int32) s13
      · refine S_ (R_iconst (v := (0 : Int32)) hO dX5_yards_118 (by decide)) ?_
        refine S_sub [0, 1, 2, 3] rfl ?_
        exact w_X5_yards_119 hO hQ b hb p1 p2 m3 (0 : Int32) s13
def f_X5_yards_5 (b : Nat) (p1 : Int32) (p2 : Int32) : Nat → Int32 → Int32 → Mem → Option (Int32 × Mem)
  | 0, _, _, _ => none
  | n + 1, m3, m4, s0 => if (s0 b 3) ≤ m4 then (if m3 = 0 then (some ((0 : Int32), s0)) else lt (p2) fun x5 => lt ((0 : Int32)) fun x6 => lt ((0 : Int32)) fun x7 => f_X5_yards_44 b p1 p2 FU m3 x5 x6 x7 s0) else bd2 (f_X5_lacking b m4 s0) fun x1 s2 => lt (m3 + x1) fun x3 => lt (m4 + (1 : Int32)) fun x4 => f_X5_yards_5 b p1 p2 n x3 x4 s2
theorem w_X5_yards_5 {X : CX} {Z : Option Value × Mem → Prop} (hO : OKX X false 2 MX5_yards) (hQ : OKS X Z) (b : Nat) (hb : isSt b) (p1 : Int32) (p2 : Int32) : ∀ (n : Nat) (m3 : Int32) (m4 : Int32) (s0 : Mem), SIM X MX5_yards wI Z 5 [(0, .ref b), (1, .int p1), (2, .int p2), (3, .int m3), (4, .int m4)] [] s0 (f_X5_yards_5 b p1 p2 n m3 m4 s0) := by
  intro n
  induction n with
  | zero => intros; exact S_none
  | succ n ih =>
    intro m3 m4 s0
    rw [f_X5_yards_5]
    refine S_ (R_iload hO dX5_yards_5 rfl) ?_
    refine S_ (R_aload_n hO dX5_yards_7 rfl) ?_
    refine S_getI hO dX5_yards_8 fl_X5_21 hb.1 rfl ?_
    refine S_icmp_ge (tgt := 29) hO dX5_yards_11 (by decide) ?_ ?_
    · refine S_ (R_iload_n hO dX5_yards_14 rfl) ?_
      refine S_ (R_aload_n hO dX5_yards_15 rfl) ?_
      refine S_ (R_iload hO dX5_yards_16 rfl) ?_
      refine S_callVI (rest := [.int m3]) hO dX5_yards_18 (cs_X5_lacking b hb m4 s0) (by omega) lk_X5_70 np_X5_lacking (rc_St hb rfl) rfl (Nat.le_of_ble_eq_true rfl) (fun x1 s2 => ?_)
      refine S_ (R_iadd hO dX5_yards_21) ?_
      refine S_istore_n (L2 := fun x3 => [(3, .int x3), (0, .ref b), (1, .int p1), (2, .int p2), (4, .int m4)]) hO dX5_yards_22 (Nat.le_of_ble_eq_true rfl) (fun _ => rfl) (fun x3 => ?_)
      refine S_iinc (L2 := fun x4 => [(4, .int x4), (3, .int x3), (0, .ref b), (1, .int p1), (2, .int p2)]) (v := (1 : Int32)) hO dX5_yards_23 rfl (by decide) (Nat.le_of_ble_eq_true rfl) (fun _ => rfl) (fun x4 => ?_)
      refine S_ (R_goto (tgt := 5) hO dX5_yards_26 (by decide)) ?_
      refine S_sub [2, 3, 4, 1, 0] rfl ?_
      exact ih x3 x4 s2
    · refine S_ (R_iload_n hO dX5_yards_29 rfl) ?_
      refine S_if_ne (tgt := 35) hO dX5_yards_30 (by decide) ?_ ?_
      · refine S_ (R_iconst (v := (0 : Int32)) hO dX5_yards_33 (by decide)) ?_
        exact S_iret rfl hO hQ dX5_yards_34 rfl
      · refine S_ (R_iload_n hO dX5_yards_35 rfl) ?_
        refine S_istore (L2 := fun x5 => [(4, .int x5), (0, .ref b), (1, .int p1), (2, .int p2), (3, .int m3)]) hO dX5_yards_36 (Nat.le_of_ble_eq_true rfl) (fun _ => rfl) (fun x5 => ?_)
        refine S_ (R_iconst (v := (0 : Int32)) hO dX5_yards_38 (by decide)) ?_
        refine S_istore (L2 := fun x6 => [(5, .int x6), (4, .int x5), (0, .ref b), (1, .int p1), (2, .int p2), (3, .int m3)]) hO dX5_yards_39 (Nat.le_of_ble_eq_true rfl) (fun _ => rfl) (fun x6 => ?_)
        refine S_ (R_iconst (v := (0 : Int32)) hO dX5_yards_41 (by decide)) ?_
        refine S_istore (L2 := fun x7 => [(6, .int x7), (5, .int x6), (4, .int x5), (0, .ref b), (1, .int p1), (2, .int p2), (3, .int m3)]) hO dX5_yards_42 (Nat.le_of_ble_eq_true rfl) (fun _ => rfl) (fun x7 => ?_)
        refine S_sub [3, 4, 5, 6, 2, 1, 0] rfl ?_
        exact w_X5_yards_44 hO hQ b hb p1 p2 FU m3 x5 x6 x7 s0
def f_X5_yards (b : Nat) (p1 : Int32) (p2 : Int32) (s0 : Mem) : Option (Int32 × Mem) := lt ((0 : Int32)) fun x1 => lt ((0 : Int32)) fun x2 => f_X5_yards_5 b p1 p2 FU x1 x2 s0
theorem cs_X5_yards (b : Nat) (hb : isSt b) (p1 : Int32) (p2 : Int32) (s0 : Mem) : CS 2 MX5_yards [.ref b, .int p1, .int p2] s0 ((f_X5_yards b p1 p2 s0).map wI) := by
  refine CS.of (by decide +kernel) (Nat.le_of_ble_eq_true rfl) (fun X Z hO hQ => ?_)
  show SIM X MX5_yards wI Z 0 [(0, .ref b), (1, .int p1), (2, .int p2)] [] s0 _
  unfold f_X5_yards
  refine S_ (R_iconst (v := (0 : Int32)) hO dX5_yards_0 (by decide)) ?_
  refine S_istore_n (L2 := fun x1 => [(3, .int x1), (0, .ref b), (1, .int p1), (2, .int p2)]) hO dX5_yards_1 (Nat.le_of_ble_eq_true rfl) (fun _ => rfl) (fun x1 => ?_)
  refine S_ (R_iconst (v := (0 : Int32)) hO dX5_yards_2 (by decide)) ?_
  refine S_istore (L2 := fun x2 => [(4, .int x2), (3, .int x1), (0, .ref b), (1, .int p1), (2, .int p2)]) hO dX5_yards_3 (Nat.le_of_ble_eq_true rfl) (fun _ => rfl) (fun x2 => ?_)
  refine S_sub [2, 3, 4, 1, 0] rfl ?_
  exact w_X5_yards_5 hO hQ b hb p1 p2 FU x1 x2 s0
