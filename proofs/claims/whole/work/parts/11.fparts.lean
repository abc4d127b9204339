def f_X6_add (p1 : Int32) (s0 : Mem) : Option (Int32 × Mem) := ing (s0 2 1) 100 <| lt (st2 s0 7 (s0 2 1).toNatClampNeg p1) fun s1 => lt (st2 s1 2 1 ((s1 2 1) + (1 : Int32))) fun s2 => some (s2 2 1, s2)
theorem cs_X6_add (p1 : Int32) (s0 : Mem) : CS 1 MX6_add [.ref 2, .int p1] s0 ((f_X6_add p1 s0).map wI) := by
  refine CS.of (by decide +kernel) (Nat.le_of_ble_eq_true rfl) (fun X Z hO hQ => ?_)
  show SIM X MX6_add wI Z 0 [(0, .ref 2), (1, .int p1)] [] s0 _
  unfold f_X6_add
  refine S_ (R_aload_n hO dX6_add_0 rfl) ?_
  refine S_getR hO dX6_add_1 fl_X6_18 sh_2 rfl ?_
  refine S_ (R_aload_n hO dX6_add_4 rfl) ?_
  refine S_getI hO dX6_add_5 fl_X6_22 sh_2 rfl ?_
  refine S_ (R_iload_n hO dX6_add_8 rfl) ?_
  refine S_iast hO dX6_add_9 sh_7 (fun s1 => ?_)
  refine S_ (R_aload_n hO dX6_add_10 rfl) ?_
  refine S_ (R_dup hO dX6_add_11 rfl) ?_
  refine S_getI hO dX6_add_12 fl_X6_22 sh_2 rfl ?_
  refine S_ (R_iconst (v := (1 : Int32)) hO dX6_add_15 (by decide)) ?_
  refine S_ (R_iadd hO dX6_add_16) ?_
  refine S_put hO dX6_add_17 fl_X6_22 sh_2 rfl (fun s2 => ?_)
  refine S_ (R_aload_n hO dX6_add_20 rfl) ?_
  refine S_getI hO dX6_add_21 fl_X6_22 sh_2 rfl ?_
  exact S_iret rfl hO hQ dX6_add_24 rfl
def f_X6_step (p1 : Int32) (s0 : Mem) : Option (Mem) := if (s0 2 3) = 0 then (if p1 = 0 then (lt (st2 s0 2 3 (1 : Int32)) fun s2 => some s2) else lt (st2 s0 2 2 ((s0 2 2) + (1 : Int32))) fun s1 => some s1) else some s0
theorem cs_X6_step (p1 : Int32) (s0 : Mem) : CS 1 MX6_step [.ref 2, .int p1] s0 ((f_X6_step p1 s0).map wV) := by
  refine CS.of (by decide +kernel) (Nat.le_of_ble_eq_true rfl) (fun X Z hO hQ => ?_)
  show SIM X MX6_step wV Z 0 [(0, .ref 2), (1, .int p1)] [] s0 _
  unfold f_X6_step
  refine S_ (R_aload_n hO dX6_step_0 rfl) ?_
  refine S_getI hO dX6_step_1 fl_X6_29 sh_2 rfl ?_
  refine S_if_eq (tgt := 8) hO dX6_step_4 (by decide) ?_ ?_
  · exact S_vret rfl hO hQ dX6_step_7 rfl
  · refine S_ (R_iload_n hO dX6_step_8 rfl) ?_
    refine S_if_eq (tgt := 25) hO dX6_step_9 (by decide) ?_ ?_
    · refine S_ (R_aload_n hO dX6_step_12 rfl) ?_
      refine S_ (R_dup hO dX6_step_13 rfl) ?_
      refine S_getI hO dX6_step_14 fl_X6_26 sh_2 rfl ?_
      refine S_ (R_iconst (v := (1 : Int32)) hO dX6_step_17 (by decide)) ?_
      refine S_ (R_iadd hO dX6_step_18) ?_
      refine S_put hO dX6_step_19 fl_X6_26 sh_2 rfl (fun s1 => ?_)
      refine S_ (R_goto (tgt := 30) hO dX6_step_22 (by decide)) ?_
      exact S_vret rfl hO hQ dX6_step_30 rfl
    · refine S_ (R_aload_n hO dX6_step_25 rfl) ?_
      refine S_ (R_iconst (v := (1 : Int32)) hO dX6_step_26 (by decide)) ?_
      refine S_put hO dX6_step_27 fl_X6_29 sh_2 rfl (fun s2 => ?_)
      exact S_vret rfl hO hQ dX6_step_30 rfl
def f_X6_readSign_30 (p1 : Int32) (t0 : Int32) (s0 : Mem) : Option (Mem) := bd (f_X6_step t0 s0) fun s2 => some s2
theorem w_X6_readSign_30 {X : CX} {Z : Option Value × Mem → Prop} (hO : OKX X false 2 MX6_readSign) (hQ : OKS X Z) (p1 : Int32) (t0 : Int32) (s0 : Mem) : SIM X MX6_readSign wV Z 30 [] [.int t0, .ref 2] s0 (f_X6_readSign_30 p1 t0 s0) := by
  unfold f_X6_readSign_30
  refine S_callVV (rest := []) hO dX6_readSign_30 (cs_X6_step t0 s0) (by omega) lk_X6_68 np_X6_step (rc_2 rfl) rfl (Nat.le_of_ble_eq_true rfl) (fun s2 => ?_)
  exact S_vret rfl hO hQ dX6_readSign_33 rfl
def f_X6_readSign (p1 : Int32) (s0 : Mem) : Option (Mem) := if (s0 2 1) ≤ (s0 2 2) then (f_X6_readSign_30 p1 (0 : Int32) s0) else ing (s0 2 2) 100 <| if (s0 7 (s0 2 2).toNatClampNeg) = p1 then (f_X6_readSign_30 p1 (1 : Int32) s0) else f_X6_readSign_30 p1 (0 : Int32) s0
theorem cs_X6_readSign (p1 : Int32) (s0 : Mem) : CS 2 MX6_readSign [.ref 2, .int p1] s0 ((f_X6_readSign p1 s0).map wV) := by
  refine CS.of (by decide +kernel) (Nat.le_of_ble_eq_true rfl) (fun X Z hO hQ => ?_)
  show SIM X MX6_readSign wV Z 0 [(0, .ref 2), (1, .int p1)] [] s0 _
  unfold f_X6_readSign
  refine S_ (R_aload_n hO dX6_readSign_0 rfl) ?_
  refine S_ (R_aload_n hO dX6_readSign_1 rfl) ?_
  refine S_getI hO dX6_readSign_2 fl_X6_26 sh_2 rfl ?_
  refine S_ (R_aload_n hO dX6_readSign_5 rfl) ?_
  refine S_getI hO dX6_readSign_6 fl_X6_22 sh_2 rfl ?_
  refine S_icmp_ge (tgt := 29) hO dX6_readSign_9 (by decide) ?_ ?_
  · refine S_ (R_aload_n hO dX6_readSign_12 rfl) ?_
    refine S_getR hO dX6_readSign_13 fl_X6_18 sh_2 rfl ?_
    refine S_ (R_aload_n hO dX6_readSign_16 rfl) ?_
    refine S_getI hO dX6_readSign_17 fl_X6_26 sh_2 rfl ?_
    refine S_iald hO dX6_readSign_20 sh_7 ?_
    refine S_ (R_iload_n hO dX6_readSign_21 rfl) ?_
    refine S_icmp_ne (tgt := 29) hO dX6_readSign_22 (by decide) ?_ ?_
    · refine S_ (R_iconst (v := (1 : Int32)) hO dX6_readSign_25 (by decide)) ?_
      refine S_ (R_goto (tgt := 30) hO dX6_readSign_26 (by decide)) ?_
      refine S_sub [] rfl ?_
      exact w_X6_readSign_30 hO hQ p1 (1 : Int32) s0
    · refine S_ (R_iconst (v := (0 : Int32)) hO dX6_readSign_29 (by decide)) ?_
      refine S_sub [] rfl ?_
      exact w_X6_readSign_30 hO hQ p1 (0 : Int32) s0
  · refine S_ (R_iconst (v := (0 : Int32)) hO dX6_readSign_29 (by decide)) ?_
    refine S_sub [] rfl ?_
    exact w_X6_readSign_30 hO hQ p1 (0 : Int32) s0
def f_X6_readNumber_78 (p1 : Int32) (p2 : Int32) (m3 : Int32) (m4 : Int32) (s0 : Mem) : Option (Int32 × Mem) := bd2 (f_X7_within m3 (1 : Int32) (2 : Int32) s0) fun x1 s2 => if x1 = 0 then (lt (st2 s2 2 3 (1 : Int32)) fun s3 => some (m4, s3)) else bd2 (f_X7_within m4 p1 p2 s2) fun x4 s5 => if x4 = 0 then (lt (st2 s5 2 3 (2 : Int32)) fun s6 => some (m4, s6)) else lt (st2 s5 2 2 ((s5 2 2) + m3)) fun s7 => some (m4, s7)
theorem w_X6_readNumber_78 {X : CX} {Z : Option Value × Mem → Prop} (hO : OKX X false 2 MX6_readNumber) (hQ : OKS X Z) (p1 : Int32) (p2 : Int32) (m3 : Int32) (m4 : Int32) (s0 : Mem) : SIM X MX6_readNumber wI Z 78 [(0, .ref 2), (1, .int p1), (2, .int p2), (3, .int m3), (4, .int m4)] [] s0 (f_X6_readNumber_78 p1 p2 m3 m4 s0) := by
  unfold f_X6_readNumber_78
  refine S_ (R_iload_n hO dX6_readNumber_78 rfl) ?_
  refine S_ (R_iconst (v := (1 : Int32)) hO dX6_readNumber_79 (by decide)) ?_
  refine S_ (R_iconst (v := (2 : Int32)) hO dX6_readNumber_80 (by decide)) ?_
  refine S_callNI (rest := []) hO dX6_readNumber_81 (cs_X7_within m3 (1 : Int32) (2 : Int32) s0) (by omega) lk_X6_72 np_X7_within rfl (Nat.le_of_ble_eq_true rfl) (fun x1 s2 => ?_)
  refine S_if_ne (tgt := 95) hO dX6_readNumber_84 (by decide) ?_ ?_
  · refine S_ (R_aload_n hO dX6_readNumber_87 rfl) ?_
    refine S_ (R_iconst (v := (1 : Int32)) hO dX6_readNumber_88 (by decide)) ?_
    refine S_put hO dX6_readNumber_89 fl_X6_29 sh_2 rfl (fun s3 => ?_)
    refine S_ (R_goto (tgt := 123) hO dX6_readNumber_92 (by decide)) ?_
    refine S_ (R_iload hO dX6_readNumber_123 rfl) ?_
    exact S_iret rfl hO hQ dX6_readNumber_125 rfl
  · refine S_ (R_iload hO dX6_readNumber_95 rfl) ?_
    refine S_ (R_iload_n hO dX6_readNumber_97 rfl) ?_
    refine S_ (R_iload_n hO dX6_readNumber_98 rfl) ?_
    refine S_callNI (rest := []) hO dX6_readNumber_99 (cs_X7_within m4 p1 p2 s2) (by omega) lk_X6_72 np_X7_within rfl (Nat.le_of_ble_eq_true rfl) (fun x4 s5 => ?_)
    refine S_if_ne (tgt := 113) hO dX6_readNumber_102 (by decide) ?_ ?_
    · refine S_ (R_aload_n hO dX6_readNumber_105 rfl) ?_
      refine S_ (R_iconst (v := (2 : Int32)) hO dX6_readNumber_106 (by decide)) ?_
      refine S_put hO dX6_readNumber_107 fl_X6_29 sh_2 rfl (fun s6 => ?_)
      refine S_ (R_goto (tgt := 123) hO dX6_readNumber_110 (by decide)) ?_
      refine S_ (R_iload hO dX6_readNumber_123 rfl) ?_
      exact S_iret rfl hO hQ dX6_readNumber_125 rfl
    · refine S_ (R_aload_n hO dX6_readNumber_113 rfl) ?_
      refine S_ (R_dup hO dX6_readNumber_114 rfl) ?_
      refine S_getI hO dX6_readNumber_115 fl_X6_26 sh_2 rfl ?_
      refine S_ (R_iload_n hO dX6_readNumber_118 rfl) ?_
      refine S_ (R_iadd hO dX6_readNumber_119) ?_
      refine S_put hO dX6_readNumber_120 fl_X6_26 sh_2 rfl (fun s7 => ?_)
      refine S_ (R_iload hO dX6_readNumber_123 rfl) ?_
      exact S_iret rfl hO hQ dX6_readNumber_125 rfl
def f_X6_readNumber_20 (p1 : Int32) (p2 : Int32) : Nat → Int32 → Int32 → Int32 → Mem → Option (Int32 × Mem)
  | 0, _, _, _, _ => none
  | n + 1, m3, m4, m5, s0 => if (s0 2 1) ≤ m5 then (f_X6_readNumber_78 p1 p2 m3 m4 s0) else if (3 : Int32) ≤ m3 then (f_X6_readNumber_78 p1 p2 m3 m4 s0) else ing m5 100 <| bd2 (f_X7_within (s0 7 m5.toNatClampNeg) (48 : Int32) (57 : Int32) s0) fun x1 s2 => if x1 = 0 then (f_X6_readNumber_78 p1 p2 m3 m4 s2) else ing m5 100 <| lt ((((10 : Int32) * m4) + (s2 7 m5.toNatClampNeg)) - (48 : Int32)) fun x3 => lt (m3 + (1 : Int32)) fun x4 => lt (m5 + (1 : Int32)) fun x5 => f_X6_readNumber_20 p1 p2 n x4 x3 x5 s2
theorem w_X6_readNumber_20 {X : CX} {Z : Option Value × Mem → Prop} (hO : OKX X false 2 MX6_readNumber) (hQ : OKS X Z) (p1 : Int32) (p2 : Int32) : ∀ (n : Nat) (m3 : Int32) (m4 : Int32) (m5 : Int32) (s0 : Mem), SIM X MX6_readNumber wI Z 20 [(0, .ref 2), (1, .int p1), (2, .int p2), (3, .int m3), (4, .int m4), (5, .int m5)] [] s0 (f_X6_readNumber_20 p1 p2 n m3 m4 m5 s0) := by
  intro n
  induction n with
  | zero => intros; exact S_none
  | succ n ih =>
    intro m3 m4 m5 s0
    rw [f_X6_readNumber_20]
    refine S_ (R_iload hO dX6_readNumber_20 rfl) ?_
    refine S_ (R_aload_n hO dX6_readNumber_22 rfl) ?_
    refine S_getI hO dX6_readNumber_23 fl_X6_22 sh_2 rfl ?_
    refine S_icmp_ge (tgt := 78) hO dX6_readNumber_26 (by decide) ?_ ?_
    · refine S_ (R_iload_n hO dX6_readNumber_29 rfl) ?_
      refine S_ (R_iconst (v := (3 : Int32)) hO dX6_readNumber_30 (by decide)) ?_
      refine S_icmp_ge (tgt := 78) hO dX6_readNumber_31 (by decide) ?_ ?_
      · refine S_ (R_aload_n hO dX6_readNumber_34 rfl) ?_
        refine S_getR hO dX6_readNumber_35 fl_X6_18 sh_2 rfl ?_
        refine S_ (R_iload hO dX6_readNumber_38 rfl) ?_
        refine S_iald hO dX6_readNumber_40 sh_7 ?_
        refine S_ (R_bipush (v := (48 : Int32)) hO dX6_readNumber_41 (by decide)) ?_
        refine S_ (R_bipush (v := (57 : Int32)) hO dX6_readNumber_43 (by decide)) ?_
        refine S_callNI (rest := []) hO dX6_readNumber_45 (cs_X7_within (s0 7 m5.toNatClampNeg) (48 : Int32) (57 : Int32) s0) (by omega) lk_X6_72 np_X7_within rfl (Nat.le_of_ble_eq_true rfl) (fun x1 s2 => ?_)
        refine S_if_eq (tgt := 78) hO dX6_readNumber_48 (by decide) ?_ ?_
        · refine S_ (R_bipush (v := (10 : Int32)) hO dX6_readNumber_51 (by decide)) ?_
          refine S_ (R_iload hO dX6_readNumber_53 rfl) ?_
          refine S_ (R_imul hO dX6_readNumber_55) ?_
          refine S_ (R_aload_n hO dX6_readNumber_56 rfl) ?_
          refine S_getR hO dX6_readNumber_57 fl_X6_18 sh_2 rfl ?_
          refine S_ (R_iload hO dX6_readNumber_60 rfl) ?_
          refine S_iald hO dX6_readNumber_62 sh_7 ?_
          refine S_ (R_iadd hO dX6_readNumber_63) ?_
          refine S_ (R_bipush (v := (48 : Int32)) hO dX6_readNumber_64 (by decide)) ?_
          refine S_ (R_isub hO dX6_readNumber_66) ?_
          refine S_istore (L2 := fun x3 => [(4, .int x3), (0, .ref 2), (1, .int p1), (2, .int p2), (3, .int m3), (5, .int m5)]) hO dX6_readNumber_67 (Nat.le_of_ble_eq_true rfl) (fun _ => rfl) (fun x3 => ?_)
          refine S_iinc (L2 := fun x4 => [(3, .int x4), (4, .int x3), (0, .ref 2), (1, .int p1), (2, .int p2), (5, .int m5)]) (v := (1 : Int32)) hO dX6_readNumber_69 rfl (by decide) (Nat.le_of_ble_eq_true rfl) (fun _ => rfl) (fun x4 => ?_)
          refine S_iinc (L2 := fun x5 => [(5, .int x5), (3, .int x4), (4, .int x3), (0, .ref 2), (1, .int p1), (2, .int p2)]) (v := (1 : Int32)) hO dX6_readNumber_72 rfl (by decide) (Nat.le_of_ble_eq_true rfl) (fun _ => rfl) (fun x5 => ?_)
          refine S_ (R_goto (tgt := 20) hO dX6_readNumber_75 (by decide)) ?_
          refine S_sub [3, 4, 5, 1, 2, 0] rfl ?_
          exact ih x4 x3 x5 s2
        · refine S_sub [0, 1, 2, 3, 4] rfl ?_
          exact w_X6_readNumber_78 hO hQ p1 p2 m3 m4 s2
      · refine S_sub [0, 1, 2, 3, 4] rfl ?_
        exact w_X6_readNumber_78 hO hQ p1 p2 m3 m4 s0
    · refine S_sub [0, 1, 2, 3, 4] rfl ?_
      exact w_X6_readNumber_78 hO hQ p1 p2 m3 m4 s0
def f_X6_readNumber (p1 : Int32) (p2 : Int32) (s0 : Mem) : Option (Int32 × Mem) := if (s0 2 3) = 0 then (lt ((0 : Int32)) fun x1 => lt ((0 : Int32)) fun x2 => lt (s0 2 2) fun x3 => f_X6_readNumber_20 p1 p2 FU x1 x2 x3 s0) else some (p1, s0)
theorem cs_X6_readNumber (p1 : Int32) (p2 : Int32) (s0 : Mem) : CS 2 MX6_readNumber [.ref 2, .int p1, .int p2] s0 ((f_X6_readNumber p1 p2 s0).map wI) := by
  refine CS.of (by decide +kernel) (Nat.le_of_ble_eq_true rfl) (fun X Z hO hQ => ?_)
  show SIM X MX6_readNumber wI Z 0 [(0, .ref 2), (1, .int p1), (2, .int p2)] [] s0 _
  unfold f_X6_readNumber
  refine S_ (R_aload_n hO dX6_readNumber_0 rfl) ?_
  refine S_getI hO dX6_readNumber_1 fl_X6_29 sh_2 rfl ?_
  refine S_if_eq (tgt := 9) hO dX6_readNumber_4 (by decide) ?_ ?_
  · refine S_ (R_iload_n hO dX6_readNumber_7 rfl) ?_
    exact S_iret rfl hO hQ dX6_readNumber_8 rfl
  · refine S_ (R_iconst (v := (0 : Int32)) hO dX6_readNumber_9 (by decide)) ?_
    refine S_istore_n (L2 := fun x1 => [(3, .int x1), (0, .ref 2), (1, .int p1), (2, .int p2)]) hO dX6_readNumber_10 (Nat.le_of_ble_eq_true rfl) (fun _ => rfl) (fun x1 => ?_)
    refine S_ (R_iconst (v := (0 : Int32)) hO dX6_readNumber_11 (by decide)) ?_
    refine S_istore (L2 := fun x2 => [(4, .int x2), (3, .int x1), (0, .ref 2), (1, .int p1), (2, .int p2)]) hO dX6_readNumber_12 (Nat.le_of_ble_eq_true rfl) (fun _ => rfl) (fun x2 => ?_)
    refine S_ (R_aload_n hO dX6_readNumber_14 rfl) ?_
    refine S_getI hO dX6_readNumber_15 fl_X6_26 sh_2 rfl ?_
    refine S_istore (L2 := fun x3 => [(5, .int x3), (4, .int x2), (3, .int x1), (0, .ref 2), (1, .int p1), (2, .int p2)]) hO dX6_readNumber_18 (Nat.le_of_ble_eq_true rfl) (fun _ => rfl) (fun x3 => ?_)
    refine S_sub [3, 4, 5, 2, 1, 0] rfl ?_
    exact w_X6_readNumber_20 hO hQ p1 p2 FU x1 x2 x3 s0
def f_X0_forget (s0 : Mem) : Option (Mem) := lt (st2 s0 13 2 (0 : Int32)) fun s1 => some s1
theorem cs_X0_forget (s0 : Mem) : CS 1 MX0_forget [.ref 13] s0 ((f_X0_forget s0).map wV) := by
  refine CS.of (by decide +kernel) (Nat.le_of_ble_eq_true rfl) (fun X Z hO hQ => ?_)
  show SIM X MX0_forget wV Z 0 [(0, .ref 13)] [] s0 _
  unfold f_X0_forget
  refine S_ (R_aload_n hO dX0_forget_0 rfl) ?_
  refine S_ (R_iconst (v := (0 : Int32)) hO dX0_forget_1 (by decide)) ?_
  refine S_put hO dX0_forget_2 fl_X0_18 sh_13 rfl (fun s1 => ?_)
  exact S_vret rfl hO hQ dX0_forget_5 rfl
def f_X0_takeBack (b : Nat) (s0 : Mem) : Option (Mem) := if (s0 13 2) ≤ 0 then (some s0) else lt (st2 s0 13 2 ((s0 13 2) - (1 : Int32))) fun s1 => ing (((s1 13 1) + (s1 13 2)) - ((s1 13 1) + (s1 13 2)) / (24 : Int32) * (24 : Int32)) 24 <| bd (f_X5_take b (15 + 4 * (((s1 13 1) + (s1 13 2)) - ((s1 13 1) + (s1 13 2)) / (24 : Int32) * (24 : Int32)).toNatClampNeg) s1) fun s3 => some s3
theorem cs_X0_takeBack (b : Nat) (hb : isSt b) (s0 : Mem) : CS 3 MX0_takeBack [.ref 13, .ref b] s0 ((f_X0_takeBack b s0).map wV) := by
  refine CS.of (by decide +kernel) (Nat.le_of_ble_eq_true rfl) (fun X Z hO hQ => ?_)
  show SIM X MX0_takeBack wV Z 0 [(0, .ref 13), (1, .ref b)] [] s0 _
  unfold f_X0_takeBack
  refine S_ (R_aload_n hO dX0_takeBack_0 rfl) ?_
  refine S_getI hO dX0_takeBack_1 fl_X0_18 sh_13 rfl ?_
  refine S_if_le (tgt := 38) hO dX0_takeBack_4 (by decide) ?_ ?_
  · refine S_ (R_aload_n hO dX0_takeBack_7 rfl) ?_
    refine S_ (R_dup hO dX0_takeBack_8 rfl) ?_
    refine S_getI hO dX0_takeBack_9 fl_X0_18 sh_13 rfl ?_
    refine S_ (R_iconst (v := (1 : Int32)) hO dX0_takeBack_12 (by decide)) ?_
    refine S_ (R_isub hO dX0_takeBack_13) ?_
    refine S_put hO dX0_takeBack_14 fl_X0_18 sh_13 rfl (fun s1 => ?_)
    refine S_ (R_aload_n hO dX0_takeBack_17 rfl) ?_
    refine S_ (R_aload_n hO dX0_takeBack_18 rfl) ?_
    refine S_getR hO dX0_takeBack_19 fl_X0_11 sh_13 rfl ?_
    refine S_ (R_aload_n hO dX0_takeBack_22 rfl) ?_
    refine S_getI hO dX0_takeBack_23 fl_X0_22 sh_13 rfl ?_
    refine S_ (R_aload_n hO dX0_takeBack_26 rfl) ?_
    refine S_getI hO dX0_takeBack_27 fl_X0_18 sh_13 rfl ?_
    refine S_ (R_iadd hO dX0_takeBack_30) ?_
    refine S_ (R_bipush (v := (24 : Int32)) hO dX0_takeBack_31 (by decide)) ?_
    refine S_ (R_irem hO dX0_takeBack_33 (by decide)) ?_
    refine S_aald (n := 24) (b0 := 15) (s0 := 4) hO dX0_takeBack_34 (Or.inl rfl) sh_14 (fun hl1 => ?_)
    refine S_callVV (rest := []) hO dX0_takeBack_35 (cs_X5_take b hb (15 + 4 * (((s1 13 1) + (s1 13 2)) - ((s1 13 1) + (s1 13 2)) / (24 : Int32) * (24 : Int32)).toNatClampNeg) (is_14 hl1) s1) (by omega) lk_X0_25 np_X5_take (rc_St hb rfl) rfl (Nat.le_of_ble_eq_true rfl) (fun s3 => ?_)
    exact S_vret rfl hO hQ dX0_takeBack_38 rfl
  · exact S_vret rfl hO hQ dX0_takeBack_38 rfl
def f_X0_keep (b : Nat) (s0 : Mem) : Option (Mem) := ing (((s0 13 1) + (s0 13 2)) - ((s0 13 1) + (s0 13 2)) / (24 : Int32) * (24 : Int32)) 24 <| bd (f_X5_take (15 + 4 * (((s0 13 1) + (s0 13 2)) - ((s0 13 1) + (s0 13 2)) / (24 : Int32) * (24 : Int32)).toNatClampNeg) b s0) fun s2 => if (24 : Int32) ≤ (s2 13 2) then (lt (st2 s2 13 1 (((s2 13 1) + (1 : Int32)) - ((s2 13 1) + (1 : Int32)) / (24 : Int32) * (24 : Int32))) fun s4 => some s4) else lt (st2 s2 13 2 ((s2 13 2) + (1 : Int32))) fun s3 => some s3
theorem cs_X0_keep (b : Nat) (hb : isSt b) (s0 : Mem) : CS 3 MX0_keep [.ref 13, .ref b] s0 ((f_X0_keep b s0).map wV) := by
  refine CS.of (by decide +kernel) (Nat.le_of_ble_eq_true rfl) (fun X Z hO hQ => ?_)
  show SIM X MX0_keep wV Z 0 [(0, .ref 13), (1, .ref b)] [] s0 _
  unfold f_X0_keep
  refine S_ (R_aload_n hO dX0_keep_0 rfl) ?_
  refine S_getR hO dX0_keep_1 fl_X0_11 sh_13 rfl ?_
  refine S_ (R_aload_n hO dX0_keep_4 rfl) ?_
  refine S_getI hO dX0_keep_5 fl_X0_22 sh_13 rfl ?_
  refine S_ (R_aload_n hO dX0_keep_8 rfl) ?_
  refine S_getI hO dX0_keep_9 fl_X0_18 sh_13 rfl ?_
  refine S_ (R_iadd hO dX0_keep_12) ?_
  refine S_ (R_bipush (v := (24 : Int32)) hO dX0_keep_13 (by decide)) ?_
  refine S_ (R_irem hO dX0_keep_15 (by decide)) ?_
  refine S_aald (n := 24) (b0 := 15) (s0 := 4) hO dX0_keep_16 (Or.inl rfl) sh_14 (fun hl1 => ?_)
  refine S_ (R_aload_n hO dX0_keep_17 rfl) ?_
  refine S_callVV (rest := []) hO dX0_keep_18 (cs_X5_take (15 + 4 * (((s0 13 1) + (s0 13 2)) - ((s0 13 1) + (s0 13 2)) / (24 : Int32) * (24 : Int32)).toNatClampNeg) (is_14 hl1) b hb s0) (by omega) lk_X0_25 np_X5_take (rc_St (is_14 hl1) rfl) rfl (Nat.le_of_ble_eq_true rfl) (fun s2 => ?_)
  refine S_ (R_aload_n hO dX0_keep_21 rfl) ?_
  refine S_getI hO dX0_keep_22 fl_X0_18 sh_13 rfl ?_
  refine S_ (R_bipush (v := (24 : Int32)) hO dX0_keep_25 (by decide)) ?_
  refine S_icmp_ge (tgt := 43) hO dX0_keep_27 (by decide) ?_ ?_
  · refine S_ (R_aload_n hO dX0_keep_30 rfl) ?_
    refine S_ (R_dup hO dX0_keep_31 rfl) ?_
    refine S_getI hO dX0_keep_32 fl_X0_18 sh_13 rfl ?_
    refine S_ (R_iconst (v := (1 : Int32)) hO dX0_keep_35 (by decide)) ?_
    refine S_ (R_iadd hO dX0_keep_36) ?_
    refine S_put hO dX0_keep_37 fl_X0_18 sh_13 rfl (fun s3 => ?_)
    refine S_ (R_goto (tgt := 56) hO dX0_keep_40 (by decide)) ?_
    exact S_vret rfl hO hQ dX0_keep_56 rfl
  · refine S_ (R_aload_n hO dX0_keep_43 rfl) ?_
    refine S_ (R_aload_n hO dX0_keep_44 rfl) ?_
    refine S_getI hO dX0_keep_45 fl_X0_22 sh_13 rfl ?_
    refine S_ (R_iconst (v := (1 : Int32)) hO dX0_keep_48 (by decide)) ?_
    refine S_ (R_iadd hO dX0_keep_49) ?_
    refine S_ (R_bipush (v := (24 : Int32)) hO dX0_keep_50 (by decide)) ?_
    refine S_ (R_irem hO dX0_keep_52 (by decide)) ?_
    refine S_put hO dX0_keep_53 fl_X0_22 sh_13 rfl (fun s4 => ?_)
    exact S_vret rfl hO hQ dX0_keep_56 rfl
def f_X2_after (b : Nat) (p2 : Int32) (s0 : Mem) : Option (Mem) := bd (f_X5_take 112 b s0) fun s2 => bd (f_X5_passAll 112 p2 s2) fun s4 => some s4
theorem cs_X2_after (b : Nat) (hb : isSt b) (p2 : Int32) (s0 : Mem) : CS 5 MX2_after [.ref 111, .ref b, .int p2] s0 ((f_X2_after b p2 s0).map (wR 112)) := by
  refine CS.of (by decide +kernel) (Nat.le_of_ble_eq_true rfl) (fun X Z hO hQ => ?_)
  show SIM X MX2_after (wR 112) Z 0 [(0, .ref 111), (1, .ref b), (2, .int p2)] [] s0 _
  unfold f_X2_after
  refine S_ (R_aload_n hO dX2_after_0 rfl) ?_
  refine S_getR hO dX2_after_1 fl_X2_12 sh_111 rfl ?_
  refine S_ (R_aload_n hO dX2_after_4 rfl) ?_
  refine S_callVV (rest := []) hO dX2_after_5 (cs_X5_take 112 isSt_112 b hb s0) (by omega) lk_X2_25 np_X5_take (rc_St isSt_112 rfl) rfl (Nat.le_of_ble_eq_true rfl) (fun s2 => ?_)
  refine S_ (R_aload_n hO dX2_after_8 rfl) ?_
  refine S_getR hO dX2_after_9 fl_X2_12 sh_111 rfl ?_
  refine S_ (R_iload_n hO dX2_after_12 rfl) ?_
  refine S_callVV (rest := []) hO dX2_after_13 (cs_X5_passAll 112 isSt_112 p2 s2) (by omega) lk_X2_29 np_X5_passAll (rc_St isSt_112 rfl) rfl (Nat.le_of_ble_eq_true rfl) (fun s4 => ?_)
  refine S_ (R_aload_n hO dX2_after_16 rfl) ?_
  refine S_getR hO dX2_after_17 fl_X2_12 sh_111 rfl ?_
  exact S_rret rfl hO hQ dX2_after_20 rfl rfl
def f_X2_hoursUntil_51 (b : Nat) (p2 : Int32) (p3 : Int32) (K11 : Int32 → Mem → Option (Int32 × Mem)) (m4 : Int32) (s0 : Mem) : Option (Int32 × Mem) := bd (f_X5_pass 112 s0) fun s2 => lt (m4 + (1 : Int32)) fun x3 => K11 x3 s2
theorem w_X2_hoursUntil_51 {X : CX} {Z : Option Value × Mem → Prop} (hO : OKX X false 4 MX2_hoursUntil) (hQ : OKS X Z) (b : Nat) (hb : isSt b) (p2 : Int32) (p3 : Int32) (K11 : Int32 → Mem → Option (Int32 × Mem)) (h11 : ∀ m4 τ, SIM X MX2_hoursUntil wI Z 11 [(0, .ref 111), (2, .int p2), (3, .int p3), (4, .int m4)] [] τ (K11 m4 τ)) (m4 : Int32) (s0 : Mem) : SIM X MX2_hoursUntil wI Z 51 [(0, .ref 111), (2, .int p2), (3, .int p3), (4, .int m4)] [] s0 (f_X2_hoursUntil_51 b p2 p3 K11 m4 s0) := by
  unfold f_X2_hoursUntil_51
  refine S_ (R_aload_n hO dX2_hoursUntil_51 rfl) ?_
  refine S_getR hO dX2_hoursUntil_52 fl_X2_12 sh_111 rfl ?_
  refine S_callVV (rest := []) hO dX2_hoursUntil_55 (cs_X5_pass 112 isSt_112 s0) (by omega) lk_X2_40 np_X5_pass (rc_St isSt_112 rfl) rfl (Nat.le_of_ble_eq_true rfl) (fun s2 => ?_)
  refine S_iinc (L2 := fun x3 => [(4, .int x3), (0, .ref 111), (2, .int p2), (3, .int p3)]) (v := (1 : Int32)) hO dX2_hoursUntil_58 rfl (by decide) (Nat.le_of_ble_eq_true rfl) (fun _ => rfl) (fun x3 => ?_)
  refine S_ (R_goto (tgt := 11) hO dX2_hoursUntil_61 (by decide)) ?_
  refine S_sub [1, 2, 3, 0] rfl ?_
  exact h11 x3 s2
def f_X2_hoursUntil_11 (b : Nat) (p2 : Int32) (p3 : Int32) : Nat → Int32 → Mem → Option (Int32 × Mem)
  | 0, _, _ => none
  | n + 1, m4, s0 => if (60 : Int32) < m4 then (some ((-1000000 : Int32), s0)) else if p3 = 0 then (ing p2 8 <| if (s0 (112 + 3) p2.toNatClampNeg) = 0 then (some (m4, s0)) else f_X2_hoursUntil_51 b p2 p3 (f_X2_hoursUntil_11 b p2 p3 n) m4 s0) else bd2 (f_X5_leans 112 p2 s0) fun x1 s2 => if x1 = 0 then (f_X2_hoursUntil_51 b p2 p3 (f_X2_hoursUntil_11 b p2 p3 n) m4 s2) else some (m4, s2)
theorem w_X2_hoursUntil_11 {X : CX} {Z : Option Value × Mem → Prop} (hO : OKX X false 4 MX2_hoursUntil) (hQ : OKS X Z) (b : Nat) (hb : isSt b) (p2 : Int32) (p3 : Int32) : ∀ (n : Nat) (m4 : Int32) (s0 : Mem), SIM X MX2_hoursUntil wI Z 11 [(0, .ref 111), (2, .int p2), (3, .int p3), (4, .int m4)] [] s0 (f_X2_hoursUntil_11 b p2 p3 n m4 s0) := by
  intro n
  induction n with
  | zero => intros; exact S_none
  | succ n ih =>
    intro m4 s0
    rw [f_X2_hoursUntil_11]
    refine S_ (R_iload hO dX2_hoursUntil_11 rfl) ?_
    refine S_ (R_bipush (v := (60 : Int32)) hO dX2_hoursUntil_13 (by decide)) ?_
    refine S_icmp_gt (tgt := 64) hO dX2_hoursUntil_15 (by decide) ?_ ?_
    · refine S_ (R_iload_n hO dX2_hoursUntil_18 rfl) ?_
      refine S_if_ne (tgt := 37) hO dX2_hoursUntil_19 (by decide) ?_ ?_
      · refine S_ (R_aload_n hO dX2_hoursUntil_22 rfl) ?_
        refine S_getR hO dX2_hoursUntil_23 fl_X2_12 sh_111 rfl ?_
        refine S_getR hO dX2_hoursUntil_26 fl_X2_33 isSt_112.1 rfl ?_
        refine S_ (R_iload_n hO dX2_hoursUntil_29 rfl) ?_
        refine S_iald hO dX2_hoursUntil_30 isSt_112.2.2.2 ?_
        refine S_if_ne (tgt := 51) hO dX2_hoursUntil_31 (by decide) ?_ ?_
        · refine S_ (R_goto (tgt := 48) hO dX2_hoursUntil_34 (by decide)) ?_
          refine S_ (R_iload hO dX2_hoursUntil_48 rfl) ?_
          exact S_iret rfl hO hQ dX2_hoursUntil_50 rfl
        · refine S_sub [0, 1, 2, 3] rfl ?_
          exact w_X2_hoursUntil_51 hO hQ b hb p2 p3 (f_X2_hoursUntil_11 b p2 p3 n) ih m4 s0
      · refine S_ (R_aload_n hO dX2_hoursUntil_37 rfl) ?_
        refine S_getR hO dX2_hoursUntil_38 fl_X2_12 sh_111 rfl ?_
        refine S_ (R_iload_n hO dX2_hoursUntil_41 rfl) ?_
        refine S_callVI (rest := []) hO dX2_hoursUntil_42 (cs_X5_leans 112 isSt_112 p2 s0) (by omega) lk_X2_36 np_X5_leans (rc_St isSt_112 rfl) rfl (Nat.le_of_ble_eq_true rfl) (fun x1 s2 => ?_)
        refine S_if_eq (tgt := 51) hO dX2_hoursUntil_45 (by decide) ?_ ?_
        · refine S_ (R_iload hO dX2_hoursUntil_48 rfl) ?_
          exact S_iret rfl hO hQ dX2_hoursUntil_50 rfl
        · refine S_sub [0, 1, 2, 3] rfl ?_
          exact w_X2_hoursUntil_51 hO hQ b hb p2 p3 (f_X2_hoursUntil_11 b p2 p3 n) ih m4 s2
    · refine S_ (R_ldc (v := (-1000000 : Int32)) hO dX2_hoursUntil_64 kc_X2_43) ?_
      exact S_iret rfl hO hQ dX2_hoursUntil_66 rfl
def f_X2_hoursUntil (b : Nat) (p2 : Int32) (p3 : Int32) (s0 : Mem) : Option (Int32 × Mem) := bd (f_X5_take 112 b s0) fun s2 => lt ((0 : Int32)) fun x3 => f_X2_hoursUntil_11 b p2 p3 FU x3 s2
theorem cs_X2_hoursUntil (b : Nat) (hb : isSt b) (p2 : Int32) (p3 : Int32) (s0 : Mem) : CS 4 MX2_hoursUntil [.ref 111, .ref b, .int p2, .int p3] s0 ((f_X2_hoursUntil b p2 p3 s0).map wI) := by
  refine CS.of (by decide +kernel) (Nat.le_of_ble_eq_true rfl) (fun X Z hO hQ => ?_)
  show SIM X MX2_hoursUntil wI Z 0 [(0, .ref 111), (1, .ref b), (2, .int p2), (3, .int p3)] [] s0 _
  unfold f_X2_hoursUntil
  refine S_ (R_aload_n hO dX2_hoursUntil_0 rfl) ?_
  refine S_getR hO dX2_hoursUntil_1 fl_X2_12 sh_111 rfl ?_
  refine S_ (R_aload_n hO dX2_hoursUntil_4 rfl) ?_
  refine S_callVV (rest := []) hO dX2_hoursUntil_5 (cs_X5_take 112 isSt_112 b hb s0) (by omega) lk_X2_25 np_X5_take (rc_St isSt_112 rfl) rfl (Nat.le_of_ble_eq_true rfl) (fun s2 => ?_)
  refine S_ (R_iconst (v := (0 : Int32)) hO dX2_hoursUntil_8 (by decide)) ?_
  refine S_istore (L2 := fun x3 => [(4, .int x3), (0, .ref 111), (1, .ref b), (2, .int p2), (3, .int p3)]) hO dX2_hoursUntil_9 (Nat.le_of_ble_eq_true rfl) (fun _ => rfl) (fun x3 => ?_)
  refine S_sub [1, 3, 4, 0] rfl ?_
  exact w_X2_hoursUntil_11 hO hQ b hb p2 p3 FU x3 s2
def f_X2_firstToFall_26 (b : Nat) (p2 : Int32) (K10 : Int32 → Mem → Option (Int32 × Mem)) : Nat → Int32 → Int32 → Mem → Option (Int32 × Mem)
  | 0, _, _, _ => none
  | n + 1, m3, m4, s0 => if (s0 b 3) ≤ m4 then (lt (m3 + (1 : Int32)) fun x3 => K10 x3 s0) else ing m4 8 <| if (s0 (b + 3) m4.toNatClampNeg) ≤ 0 then (lt (m4 + (1 : Int32)) fun x2 => f_X2_firstToFall_26 b p2 K10 n m3 x2 s0) else ing m4 8 <| if (s0 (112 + 3) m4.toNatClampNeg) = 0 then (if p2 = 0 then (some (m4, s0)) else some (m3, s0)) else lt (m4 + (1 : Int32)) fun x1 => f_X2_firstToFall_26 b p2 K10 n m3 x1 s0
theorem w_X2_firstToFall_26 {X : CX} {Z : Option Value × Mem → Prop} (hO : OKX X false 4 MX2_firstToFall) (hQ : OKS X Z) (b : Nat) (hb : isSt b) (p2 : Int32) (K10 : Int32 → Mem → Option (Int32 × Mem)) (h10 : ∀ m3 τ, SIM X MX2_firstToFall wI Z 10 [(0, .ref 111), (1, .ref b), (2, .int p2), (3, .int m3)] [] τ (K10 m3 τ)) : ∀ (n : Nat) (m3 : Int32) (m4 : Int32) (s0 : Mem), SIM X MX2_firstToFall wI Z 26 [(0, .ref 111), (1, .ref b), (2, .int p2), (3, .int m3), (4, .int m4)] [] s0 (f_X2_firstToFall_26 b p2 K10 n m3 m4 s0) := by
  intro n
  induction n with
  | zero => intros; exact S_none
  | succ n ih =>
    intro m3 m4 s0
    rw [f_X2_firstToFall_26]
    refine S_ (R_iload hO dX2_firstToFall_26 rfl) ?_
    refine S_ (R_aload_n hO dX2_firstToFall_28 rfl) ?_
    refine S_getI hO dX2_firstToFall_29 fl_X2_44 hb.1 rfl ?_
    refine S_icmp_ge (tgt := 75) hO dX2_firstToFall_32 (by decide) ?_ ?_
    · refine S_ (R_aload_n hO dX2_firstToFall_35 rfl) ?_
      refine S_getR hO dX2_firstToFall_36 fl_X2_33 hb.1 rfl ?_
      refine S_ (R_iload hO dX2_firstToFall_39 rfl) ?_
      refine S_iald hO dX2_firstToFall_41 hb.2.2.2 ?_
      refine S_if_le (tgt := 69) hO dX2_firstToFall_42 (by decide) ?_ ?_
      · refine S_ (R_aload_n hO dX2_firstToFall_45 rfl) ?_
        refine S_getR hO dX2_firstToFall_46 fl_X2_12 sh_111 rfl ?_
        refine S_getR hO dX2_firstToFall_49 fl_X2_33 isSt_112.1 rfl ?_
        refine S_ (R_iload hO dX2_firstToFall_52 rfl) ?_
        refine S_iald hO dX2_firstToFall_54 isSt_112.2.2.2 ?_
        refine S_if_ne (tgt := 69) hO dX2_firstToFall_55 (by decide) ?_ ?_
        · refine S_ (R_iload_n hO dX2_firstToFall_58 rfl) ?_
          refine S_if_ne (tgt := 67) hO dX2_firstToFall_59 (by decide) ?_ ?_
          · refine S_ (R_iload hO dX2_firstToFall_62 rfl) ?_
            refine S_ (R_goto (tgt := 68) hO dX2_firstToFall_64 (by decide)) ?_
            exact S_iret rfl hO hQ dX2_firstToFall_68 rfl
          · refine S_ (R_iload_n hO dX2_firstToFall_67 rfl) ?_
            exact S_iret rfl hO hQ dX2_firstToFall_68 rfl
        · refine S_iinc (L2 := fun x1 => [(4, .int x1), (0, .ref 111), (1, .ref b), (2, .int p2), (3, .int m3)]) (v := (1 : Int32)) hO dX2_firstToFall_69 rfl (by decide) (Nat.le_of_ble_eq_true rfl) (fun _ => rfl) (fun x1 => ?_)
          refine S_ (R_goto (tgt := 26) hO dX2_firstToFall_72 (by decide)) ?_
          refine S_sub [1, 2, 3, 4, 0] rfl ?_
          exact ih m3 x1 s0
      · refine S_iinc (L2 := fun x2 => [(4, .int x2), (0, .ref 111), (1, .ref b), (2, .int p2), (3, .int m3)]) (v := (1 : Int32)) hO dX2_firstToFall_69 rfl (by decide) (Nat.le_of_ble_eq_true rfl) (fun _ => rfl) (fun x2 => ?_)
        refine S_ (R_goto (tgt := 26) hO dX2_firstToFall_72 (by decide)) ?_
        refine S_sub [1, 2, 3, 4, 0] rfl ?_
        exact ih m3 x2 s0
    · refine S_iinc (L2 := fun x3 => [(3, .int x3), (0, .ref 111), (1, .ref b), (2, .int p2), (4, .int m4)]) (v := (1 : Int32)) hO dX2_firstToFall_75 rfl (by decide) (Nat.le_of_ble_eq_true rfl) (fun _ => rfl) (fun x3 => ?_)
      refine S_ (R_goto (tgt := 10) hO dX2_firstToFall_78 (by decide)) ?_
      refine S_sub [1, 2, 3, 0] rfl ?_
      exact h10 x3 s0
def f_X2_firstToFall_10 (b : Nat) (p2 : Int32) : Nat → Int32 → Mem → Option (Int32 × Mem)
  | 0, _, _ => none
  | n + 1, m3, s0 => if (60 : Int32) < m3 then (some ((-1000000 : Int32), s0)) else bd (f_X5_pass 112 s0) fun s2 => lt ((0 : Int32)) fun x3 => f_X2_firstToFall_26 b p2 (f_X2_firstToFall_10 b p2 n) FU m3 x3 s2
theorem w_X2_firstToFall_10 {X : CX} {Z : Option Value × Mem → Prop} (hO : OKX X false 4 MX2_firstToFall) (hQ : OKS X Z) (b : Nat) (hb : isSt b) (p2 : Int32) : ∀ (n : Nat) (m3 : Int32) (s0 : Mem), SIM X MX2_firstToFall wI Z 10 [(0, .ref 111), (1, .ref b), (2, .int p2), (3, .int m3)] [] s0 (f_X2_firstToFall_10 b p2 n m3 s0) := by
  intro n
  induction n with
  | zero => intros; exact S_none
  | succ n ih =>
    intro m3 s0
    rw [f_X2_firstToFall_10]
    refine S_ (R_iload_n hO dX2_firstToFall_10 rfl) ?_
    refine S_ (R_bipush (v := (60 : Int32)) hO dX2_firstToFall_11 (by decide)) ?_
    refine S_icmp_gt (tgt := 81) hO dX2_firstToFall_13 (by decide) ?_ ?_
    · refine S_ (R_aload_n hO dX2_firstToFall_16 rfl) ?_
      refine S_getR hO dX2_firstToFall_17 fl_X2_12 sh_111 rfl ?_
      refine S_callVV (rest := []) hO dX2_firstToFall_20 (cs_X5_pass 112 isSt_112 s0) (by omega) lk_X2_40 np_X5_pass (rc_St isSt_112 rfl) rfl (Nat.le_of_ble_eq_true rfl) (fun s2 => ?_)
      refine S_ (R_iconst (v := (0 : Int32)) hO dX2_firstToFall_23 (by decide)) ?_
      refine S_istore (L2 := fun x3 => [(4, .int x3), (0, .ref 111), (1, .ref b), (2, .int p2), (3, .int m3)]) hO dX2_firstToFall_24 (Nat.le_of_ble_eq_true rfl) (fun _ => rfl) (fun x3 => ?_)
      refine S_sub [1, 2, 3, 4, 0] rfl ?_
      exact w_X2_firstToFall_26 hO hQ b hb p2 (f_X2_firstToFall_10 b p2 n) ih FU m3 x3 s2
    · refine S_ (R_ldc (v := (-1000000 : Int32)) hO dX2_firstToFall_81 kc_X2_43) ?_
      exact S_iret rfl hO hQ dX2_firstToFall_83 rfl
def f_X2_firstToFall (b : Nat) (p2 : Int32) (s0 : Mem) : Option (Int32 × Mem) := bd (f_X5_take 112 b s0) fun s2 => lt ((1 : Int32)) fun x3 => f_X2_firstToFall_10 b p2 FU x3 s2
theorem cs_X2_firstToFall (b : Nat) (hb : isSt b) (p2 : Int32) (s0 : Mem) : CS 4 MX2_firstToFall [.ref 111, .ref b, .int p2] s0 ((f_X2_firstToFall b p2 s0).map wI) := by
  refine CS.of (by decide +kernel) (Nat.le_of_ble_eq_true rfl) (fun X Z hO hQ => ?_)
  show SIM X MX2_firstToFall wI Z 0 [(0, .ref 111), (1, .ref b), (2, .int p2)] [] s0 _
  unfold f_X2_firstToFall
  refine S_ (R_aload_n hO dX2_firstToFall_0 rfl) ?_
  refine S_getR hO dX2_firstToFall_1 fl_X2_12 sh_111 rfl ?_
  refine S_ (R_aload_n hO dX2_firstToFall_4 rfl) ?_
  refine S_callVV (rest := []) hO dX2_firstToFall_5 (cs_X5_take 112 isSt_112 b hb s0) (by omega) lk_X2_25 np_X5_take (rc_St isSt_112 rfl) rfl (Nat.le_of_ble_eq_true rfl) (fun s2 => ?_)
  refine S_ (R_iconst (v := (1 : Int32)) hO dX2_firstToFall_8 (by decide)) ?_
  refine S_istore_n (L2 := fun x3 => [(3, .int x3), (0, .ref 111), (1, .ref b), (2, .int p2)]) hO dX2_firstToFall_9 (Nat.le_of_ble_eq_true rfl) (fun _ => rfl) (fun x3 => ?_)
  refine S_sub [1, 2, 3, 0] rfl ?_
  exact w_X2_firstToFall_10 hO hQ b hb p2 FU x3 s2
def f_X3_leastSpin_4 (b : Nat) : Nat → Int32 → Int32 → Mem → Option (Int32 × Mem)
  | 0, _, _, _ => none
  | n + 1, m1, m2, s0 => if (s0 b 3) ≤ m2 then (some (m1, s0)) else ing m2 8 <| if (s0 (b + 3) m2.toNatClampNeg) ≤ 0 then (lt (m2 + (1 : Int32)) fun x6 => f_X3_leastSpin_4 b n m1 x6 s0) else if m1 = 0 then (ing m2 8 <| lt (s0 (b + 3) m2.toNatClampNeg) fun x4 => lt (m2 + (1 : Int32)) fun x5 => f_X3_leastSpin_4 b n x4 x5 s0) else ing m2 8 <| if m1 ≤ (s0 (b + 3) m2.toNatClampNeg) then (lt (m2 + (1 : Int32)) fun x3 => f_X3_leastSpin_4 b n m1 x3 s0) else ing m2 8 <| lt (s0 (b + 3) m2.toNatClampNeg) fun x1 => lt (m2 + (1 : Int32)) fun x2 => f_X3_leastSpin_4 b n x1 x2 s0
theorem w_X3_leastSpin_4 {X : CX} {Z : Option Value × Mem → Prop} (hO : OKX X false 1 MX3_leastSpin) (hQ : OKS X Z) (b : Nat) (hb : isSt b) : ∀ (n : Nat) (m1 : Int32) (m2 : Int32) (s0 : Mem), SIM X MX3_leastSpin wI Z 4 [(0, .ref b), (1, .int m1), (2, .int m2)] [] s0 (f_X3_leastSpin_4 b n m1 m2 s0) := by
  intro n
  induction n with
  | zero => intros; exact S_none
  | succ n ih =>
    intro m1 m2 s0
    rw [f_X3_leastSpin_4]
    refine S_ (R_iload_n hO dX3_leastSpin_4 rfl) ?_
    refine S_ (R_aload_n hO dX3_leastSpin_5 rfl) ?_
    refine S_getI hO dX3_leastSpin_6 fl_X3_43 hb.1 rfl ?_
    refine S_icmp_ge (tgt := 48) hO dX3_leastSpin_9 (by decide) ?_ ?_
    · refine S_ (R_aload_n hO dX3_leastSpin_12 rfl) ?_
      refine S_getR hO dX3_leastSpin_13 fl_X3_50 hb.1 rfl ?_
      refine S_ (R_iload_n hO dX3_leastSpin_16 rfl) ?_
      refine S_iald hO dX3_leastSpin_17 hb.2.2.2 ?_
      refine S_if_le (tgt := 42) hO dX3_leastSpin_18 (by decide) ?_ ?_
      · refine S_ (R_iload_n hO dX3_leastSpin_21 rfl) ?_
        refine S_if_eq (tgt := 35) hO dX3_leastSpin_22 (by decide) ?_ ?_
        · refine S_ (R_aload_n hO dX3_leastSpin_25 rfl) ?_
          refine S_getR hO dX3_leastSpin_26 fl_X3_50 hb.1 rfl ?_
          refine S_ (R_iload_n hO dX3_leastSpin_29 rfl) ?_
          refine S_iald hO dX3_leastSpin_30 hb.2.2.2 ?_
          refine S_ (R_iload_n hO dX3_leastSpin_31 rfl) ?_
          refine S_icmp_ge (tgt := 42) hO dX3_leastSpin_32 (by decide) ?_ ?_
          · refine S_ (R_aload_n hO dX3_leastSpin_35 rfl) ?_
            refine S_getR hO dX3_leastSpin_36 fl_X3_50 hb.1 rfl ?_
            refine S_ (R_iload_n hO dX3_leastSpin_39 rfl) ?_
            refine S_iald hO dX3_leastSpin_40 hb.2.2.2 ?_
            refine S_istore_n (L2 := fun x1 => [(1, .int x1), (0, .ref b), (2, .int m2)]) hO dX3_leastSpin_41 (Nat.le_of_ble_eq_true rfl) (fun _ => rfl) (fun x1 => ?_)
            refine S_iinc (L2 := fun x2 => [(2, .int x2), (1, .int x1), (0, .ref b)]) (v := (1 : Int32)) hO dX3_leastSpin_42 rfl (by decide) (Nat.le_of_ble_eq_true rfl) (fun _ => rfl) (fun x2 => ?_)
            refine S_ (R_goto (tgt := 4) hO dX3_leastSpin_45 (by decide)) ?_
            refine S_sub [2, 1, 0] rfl ?_
            exact ih x1 x2 s0
          · refine S_iinc (L2 := fun x3 => [(2, .int x3), (0, .ref b), (1, .int m1)]) (v := (1 : Int32)) hO dX3_leastSpin_42 rfl (by decide) (Nat.le_of_ble_eq_true rfl) (fun _ => rfl) (fun x3 => ?_)
            refine S_ (R_goto (tgt := 4) hO dX3_leastSpin_45 (by decide)) ?_
            refine S_sub [1, 2, 0] rfl ?_
            exact ih m1 x3 s0
        · refine S_ (R_aload_n hO dX3_leastSpin_35 rfl) ?_
          refine S_getR hO dX3_leastSpin_36 fl_X3_50 hb.1 rfl ?_
          refine S_ (R_iload_n hO dX3_leastSpin_39 rfl) ?_
          refine S_iald hO dX3_leastSpin_40 hb.2.2.2 ?_
          refine S_istore_n (L2 := fun x4 => [(1, .int x4), (0, .ref b), (2, .int m2)]) hO dX3_leastSpin_41 (Nat.le_of_ble_eq_true rfl) (fun _ => rfl) (fun x4 => ?_)
          refine S_iinc (L2 := fun x5 => [(2, .int x5), (1, .int x4), (0, .ref b)]) (v := (1 : Int32)) hO dX3_leastSpin_42 rfl (by decide) (Nat.le_of_ble_eq_true rfl) (fun _ => rfl) (fun x5 => ?_)
          refine S_ (R_goto (tgt := 4) hO dX3_leastSpin_45 (by decide)) ?_
          refine S_sub [2, 1, 0] rfl ?_
          exact ih x4 x5 s0
      · refine S_iinc (L2 := fun x6 => [(2, .int x6), (0, .ref b), (1, .int m1)]) (v := (1 : Int32)) hO dX3_leastSpin_42 rfl (by decide) (Nat.le_of_ble_eq_true rfl) (fun _ => rfl) (fun x6 => ?_)
        refine S_ (R_goto (tgt := 4) hO dX3_leastSpin_45 (by decide)) ?_
        refine S_sub [1, 2, 0] rfl ?_
        exact ih m1 x6 s0
    · refine S_ (R_iload_n hO dX3_leastSpin_48 rfl) ?_
      exact S_iret rfl hO hQ dX3_leastSpin_49 rfl
def f_X3_leastSpin (b : Nat) (s0 : Mem) : Option (Int32 × Mem) := lt ((0 : Int32)) fun x1 => lt ((0 : Int32)) fun x2 => f_X3_leastSpin_4 b FU x1 x2 s0
theorem cs_X3_leastSpin (b : Nat) (hb : isSt b) (s0 : Mem) : CS 1 MX3_leastSpin [.ref b] s0 ((f_X3_leastSpin b s0).map wI) := by
  refine CS.of (by decide +kernel) (Nat.le_of_ble_eq_true rfl) (fun X Z hO hQ => ?_)
  show SIM X MX3_leastSpin wI Z 0 [(0, .ref b)] [] s0 _
  unfold f_X3_leastSpin
  refine S_ (R_iconst (v := (0 : Int32)) hO dX3_leastSpin_0 (by decide)) ?_
  refine S_istore_n (L2 := fun x1 => [(1, .int x1), (0, .ref b)]) hO dX3_leastSpin_1 (Nat.le_of_ble_eq_true rfl) (fun _ => rfl) (fun x1 => ?_)
  refine S_ (R_iconst (v := (0 : Int32)) hO dX3_leastSpin_2 (by decide)) ?_
  refine S_istore_n (L2 := fun x2 => [(2, .int x2), (1, .int x1), (0, .ref b)]) hO dX3_leastSpin_3 (Nat.le_of_ble_eq_true rfl) (fun _ => rfl) (fun x2 => ?_)
  refine S_sub [2, 1, 0] rfl ?_
  exact w_X3_leastSpin_4 hO hQ b hb FU x1 x2 s0
def f_X3_weigh_37 (b : Nat) (m2 : Int32) (m3 : Int32) (s0 : Mem) : Option (Mem) := lt (st2 s0 121 3 m2) fun s1 => lt (st2 s1 121 4 m3) fun s2 => cpg s2 123 124 (0 : Int32) (0 : Int32) (7 : Int32) 7 7 fun s3 => some s3
theorem w_X3_weigh_37 {X : CX} {Z : Option Value × Mem → Prop} (hO : OKX X false 2 MX3_weigh) (hQ : OKS X Z) (b : Nat) (hb : isSt b) (m2 : Int32) (m3 : Int32) (s0 : Mem) : SIM X MX3_weigh wV Z 37 [(0, .ref 121), (2, .int m2), (3, .int m3)] [] s0 (f_X3_weigh_37 b m2 m3 s0) := by
  unfold f_X3_weigh_37
  refine S_ (R_aload_n hO dX3_weigh_37 rfl) ?_
  refine S_ (R_iload_n hO dX3_weigh_38 rfl) ?_
  refine S_put hO dX3_weigh_39 fl_X3_25 sh_121 rfl (fun s1 => ?_)
  refine S_ (R_aload_n hO dX3_weigh_42 rfl) ?_
  refine S_ (R_iload_n hO dX3_weigh_43 rfl) ?_
  refine S_put hO dX3_weigh_44 fl_X3_29 sh_121 rfl (fun s2 => ?_)
  refine S_ (R_aload_n hO dX3_weigh_47 rfl) ?_
  refine S_getR hO dX3_weigh_48 fl_X3_17 sh_121 rfl ?_
  refine S_ (R_iconst (v := (0 : Int32)) hO dX3_weigh_51 (by decide)) ?_
  refine S_ (R_aload_n hO dX3_weigh_52 rfl) ?_
  refine S_getR hO dX3_weigh_53 fl_X3_21 sh_121 rfl ?_
  refine S_ (R_iconst (v := (0 : Int32)) hO dX3_weigh_56 (by decide)) ?_
  refine S_ (R_bipush (v := (7 : Int32)) hO dX3_weigh_57 (by decide)) ?_
  refine S_copy hO dX3_weigh_59 (by omega) kcp_X3_77 kw_copy sh_123 sh_124 (Nat.le_of_ble_eq_true rfl) (fun s3 => ?_)
  exact S_vret rfl hO hQ dX3_weigh_62 rfl
def f_X3_weigh (b : Nat) (s0 : Mem) : Option (Mem) := bd2 (f_X5_standing b s0) fun x1 s2 => bd2 (f_J6_bitCount_0f7a4 x1 s2) fun x3 s4 => lt (x3) fun x5 => bd2 (f_X3_leastSpin b s4) fun x6 s7 => lt (x6) fun x8 => if (s7 121 3) < x5 then (f_X3_weigh_37 b x5 x8 s7) else if x5 = (s7 121 3) then (if x8 ≤ (s7 121 4) then (some s7) else f_X3_weigh_37 b x5 x8 s7) else some s7
theorem cs_X3_weigh (b : Nat) (hb : isSt b) (s0 : Mem) : CS 2 MX3_weigh [.ref 121, .ref b] s0 ((f_X3_weigh b s0).map wV) := by
  refine CS.of (by decide +kernel) (Nat.le_of_ble_eq_true rfl) (fun X Z hO hQ => ?_)
  show SIM X MX3_weigh wV Z 0 [(0, .ref 121), (1, .ref b)] [] s0 _
  unfold f_X3_weigh
  refine S_ (R_aload_n hO dX3_weigh_0 rfl) ?_
  refine S_callVI (rest := []) hO dX3_weigh_1 (cs_X5_standing b hb s0) (by omega) lk_X3_63 np_X5_standing (rc_St hb rfl) rfl (Nat.le_of_ble_eq_true rfl) (fun x1 s2 => ?_)
  refine S_callSI (rest := []) hO dX3_weigh_4 (cs_J6_bitCount_0f7a4 x1 s2) (by omega) lk_X3_67 np_J6_bitCount_0f7a4 rfl (Nat.le_of_ble_eq_true rfl) (fun x3 s4 => ?_)
  refine S_istore_n (L2 := fun x5 => [(2, .int x5), (0, .ref 121), (1, .ref b)]) hO dX3_weigh_7 (Nat.le_of_ble_eq_true rfl) (fun _ => rfl) (fun x5 => ?_)
  refine S_ (R_aload_n hO dX3_weigh_8 rfl) ?_
  refine S_callSI (rest := []) hO dX3_weigh_9 (cs_X3_leastSpin b hb s4) (by omega) lk_X3_73 np_X3_leastSpin rfl (Nat.le_of_ble_eq_true rfl) (fun x6 s7 => ?_)
  refine S_istore_n (L2 := fun x8 => [(3, .int x8), (2, .int x5), (0, .ref 121), (1, .ref b)]) hO dX3_weigh_12 (Nat.le_of_ble_eq_true rfl) (fun _ => rfl) (fun x8 => ?_)
  refine S_ (R_iload_n hO dX3_weigh_13 rfl) ?_
  refine S_ (R_aload_n hO dX3_weigh_14 rfl) ?_
  refine S_getI hO dX3_weigh_15 fl_X3_25 sh_121 rfl ?_
  refine S_icmp_gt (tgt := 37) hO dX3_weigh_18 (by decide) ?_ ?_
  · refine S_ (R_iload_n hO dX3_weigh_21 rfl) ?_
    refine S_ (R_aload_n hO dX3_weigh_22 rfl) ?_
    refine S_getI hO dX3_weigh_23 fl_X3_25 sh_121 rfl ?_
    refine S_icmp_ne (tgt := 62) hO dX3_weigh_26 (by decide) ?_ ?_
    · refine S_ (R_iload_n hO dX3_weigh_29 rfl) ?_
      refine S_ (R_aload_n hO dX3_weigh_30 rfl) ?_
      refine S_getI hO dX3_weigh_31 fl_X3_29 sh_121 rfl ?_
      refine S_icmp_le (tgt := 62) hO dX3_weigh_34 (by decide) ?_ ?_
      · refine S_sub [2, 1, 0] rfl ?_
        exact w_X3_weigh_37 hO hQ b hb x5 x8 s7
      · exact S_vret rfl hO hQ dX3_weigh_62 rfl
    · exact S_vret rfl hO hQ dX3_weigh_62 rfl
  · refine S_sub [2, 1, 0] rfl ?_
    exact w_X3_weigh_37 hO hQ b hb x5 x8 s7
def f_X3_walk_11 (p1 : Int32) (p2 : Int32) (p3 : Int32) (rec : Int32 → Int32 → Int32 → Mem → Option (Mem)) (s0 : Mem) : Option (Mem) := ing p1 8 <| bd (f_X3_weigh (125 + 4 * p1.toNatClampNeg) s0) fun s2 => some s2
theorem w_X3_walk_11 {X : CX} {Z : Option Value × Mem → Prop} {rn : Nat} (hO : OKX X false (9 + rn + 1) MX3_walk) (hQ : OKS X Z) (p1 : Int32) (p2 : Int32) (p3 : Int32) (rn9 : Nat) (rec : Int32 → Int32 → Int32 → Mem → Option (Mem)) (hrec : ∀ (p1 : Int32) (p2 : Int32) (p3 : Int32) (τ : Mem), CS (9 + rn) MX3_walk [.ref 121, .int p1, .int p2, .int p3] τ ((rec p1 p2 p3 τ).map wV)) (s0 : Mem) : SIM X MX3_walk wV Z 11 [(0, .ref 121), (1, .int p1)] [] s0 (f_X3_walk_11 p1 p2 p3 rec s0) := by
  unfold f_X3_walk_11
  refine S_ (R_aload_n hO dX3_walk_11 rfl) ?_
  refine S_ (R_aload_n hO dX3_walk_12 rfl) ?_
  refine S_getR hO dX3_walk_13 fl_X3_11 sh_121 rfl ?_
  refine S_ (R_iload_n hO dX3_walk_16 rfl) ?_
  refine S_aald (n := 8) (b0 := 125) (s0 := 4) hO dX3_walk_17 (Or.inl rfl) sh_122 (fun hl1 => ?_)
  refine S_callVV (rest := []) hO dX3_walk_18 (cs_X3_weigh (125 + 4 * p1.toNatClampNeg) (is_122 hl1) s0) (by omega) lk_X3_40 np_X3_weigh (rc_121 rfl) rfl (Nat.le_of_ble_eq_true rfl) (fun s2 => ?_)
  exact S_vret rfl hO hQ dX3_walk_21 rfl
def f_X3_walk_103 (p1 : Int32) (p2 : Int32) (p3 : Int32) (rec : Int32 → Int32 → Int32 → Mem → Option (Mem)) (K43 : Int32 → Mem → Option (Mem)) (m6 : Int32) (m7 : Int32) (s0 : Mem) : Option (Mem) := bd (f_X5_pass (125 + 4 * (p1 + (1 : Int32)).toNatClampNeg) s0) fun s2 => ing p1 7 <| lt (st2 s2 123 p1.toNatClampNeg m6) fun s3 => bd (rec (p1 + (1 : Int32)) p2 m7 s3) fun s5 => lt (m6 + (1 : Int32)) fun x6 => K43 x6 s5
theorem w_X3_walk_103 {X : CX} {Z : Option Value × Mem → Prop} {rn : Nat} (hO : OKX X false (9 + rn + 1) MX3_walk) (hQ : OKS X Z) (p1 : Int32) (p2 : Int32) (p3 : Int32) (rn9 : Nat) (rec : Int32 → Int32 → Int32 → Mem → Option (Mem)) (hrec : ∀ (p1 : Int32) (p2 : Int32) (p3 : Int32) (τ : Mem), CS (9 + rn) MX3_walk [.ref 121, .int p1, .int p2, .int p3] τ ((rec p1 p2 p3 τ).map wV)) (hl2 : p1.toNatClampNeg < 8) (hl3 : (p1 + (1 : Int32)).toNatClampNeg < 8) (K43 : Int32 → Mem → Option (Mem)) (h43 : ∀ m6 τ, SIM X MX3_walk wV Z 43 [(0, .ref 121), (1, .int p1), (2, .int p2), (3, .int p3), (4, .ref (125 + 4 * p1.toNatClampNeg)), (5, .ref (125 + 4 * (p1 + (1 : Int32)).toNatClampNeg)), (6, .int m6)] [] τ (K43 m6 τ)) (m6 : Int32) (m7 : Int32) (s0 : Mem) : SIM X MX3_walk wV Z 103 [(0, .ref 121), (1, .int p1), (2, .int p2), (3, .int p3), (4, .ref (125 + 4 * p1.toNatClampNeg)), (5, .ref (125 + 4 * (p1 + (1 : Int32)).toNatClampNeg)), (6, .int m6), (7, .int m7)] [] s0 (f_X3_walk_103 p1 p2 p3 rec K43 m6 m7 s0) := by
  unfold f_X3_walk_103
  refine S_ (R_aload hO dX3_walk_103 rfl) ?_
  refine S_callVV (rest := []) hO dX3_walk_105 (cs_X5_pass (125 + 4 * (p1 + (1 : Int32)).toNatClampNeg) (is_122 hl3) s0) (by omega) lk_X3_60 np_X5_pass (rc_St (is_122 hl3) rfl) rfl (Nat.le_of_ble_eq_true rfl) (fun s2 => ?_)
  refine S_ (R_aload_n hO dX3_walk_108 rfl) ?_
  refine S_getR hO dX3_walk_109 fl_X3_17 sh_121 rfl ?_
  refine S_ (R_iload_n hO dX3_walk_112 rfl) ?_
  refine S_ (R_iload hO dX3_walk_113 rfl) ?_
  refine S_iast hO dX3_walk_115 sh_123 (fun s3 => ?_)
  refine S_ (R_aload_n hO dX3_walk_116 rfl) ?_
  refine S_ (R_iload_n hO dX3_walk_117 rfl) ?_
  refine S_ (R_iconst (v := (1 : Int32)) hO dX3_walk_118 (by decide)) ?_
  refine S_ (R_iadd hO dX3_walk_119) ?_
  refine S_ (R_iload_n hO dX3_walk_120 rfl) ?_
  refine S_ (R_iload hO dX3_walk_121 rfl) ?_
  refine S_callSV (rest := []) hO dX3_walk_123 (hrec (p1 + (1 : Int32)) p2 m7 s3) (by omega) lk_X3_36 np_X3_walk rfl (Nat.le_of_ble_eq_true rfl) (fun s5 => ?_)
  refine S_iinc (L2 := fun x6 => [(6, .int x6), (0, .ref 121), (1, .int p1), (2, .int p2), (3, .int p3), (4, .ref (125 + 4 * p1.toNatClampNeg)), (5, .ref (125 + 4 * (p1 + (1 : Int32)).toNatClampNeg)), (7, .int m7)]) (v := (1 : Int32)) hO dX3_walk_126 rfl (by decide) (Nat.le_of_ble_eq_true rfl) (fun _ => rfl) (fun x6 => ?_)
  refine S_ (R_goto (tgt := 43) hO dX3_walk_129 (by decide)) ?_
  refine S_sub [1, 2, 3, 4, 5, 6, 0] rfl ?_
  exact h43 x6 s5
def f_X3_walk_43 (p1 : Int32) (p2 : Int32) (p3 : Int32) (rec : Int32 → Int32 → Int32 → Mem → Option (Mem)) : Nat → Int32 → Mem → Option (Mem)
  | 0, _, _ => none
  | n + 1, m6, s0 => if (2 : Int32) < m6 then (some s0) else lt ((p3 + m6) - (1 : Int32)) fun x1 => bd2 (f_X7_within x1 (0 : Int32) ((s0 (125 + 4 * p1.toNatClampNeg) 3) - (1 : Int32)) s0) fun x2 s3 => if x2 = 0 then (lt (m6 + (1 : Int32)) fun x8 => f_X3_walk_43 p1 p2 p3 rec n x8 s3) else bd (f_X5_take (125 + 4 * (p1 + (1 : Int32)).toNatClampNeg) (125 + 4 * p1.toNatClampNeg) s3) fun s5 => ing x1 8 <| if (s5 (125 + 4 * (p1 + (1 : Int32)).toNatClampNeg + 3) x1.toNatClampNeg) ≤ 0 then (f_X3_walk_103 p1 p2 p3 rec (f_X3_walk_43 p1 p2 p3 rec n) m6 x1 s5) else bd (f_X5_raise (125 + 4 * (p1 + (1 : Int32)).toNatClampNeg) x1 (s5 (125 + 4 * (p1 + (1 : Int32)).toNatClampNeg) 4) s5) fun s7 => f_X3_walk_103 p1 p2 p3 rec (f_X3_walk_43 p1 p2 p3 rec n) m6 x1 s7
theorem w_X3_walk_43 {X : CX} {Z : Option Value × Mem → Prop} {rn : Nat} (hO : OKX X false (9 + rn + 1) MX3_walk) (hQ : OKS X Z) (p1 : Int32) (p2 : Int32) (p3 : Int32) (rn9 : Nat) (rec : Int32 → Int32 → Int32 → Mem → Option (Mem)) (hrec : ∀ (p1 : Int32) (p2 : Int32) (p3 : Int32) (τ : Mem), CS (9 + rn) MX3_walk [.ref 121, .int p1, .int p2, .int p3] τ ((rec p1 p2 p3 τ).map wV)) (hl2 : p1.toNatClampNeg < 8) (hl3 : (p1 + (1 : Int32)).toNatClampNeg < 8) : ∀ (n : Nat) (m6 : Int32) (s0 : Mem), SIM X MX3_walk wV Z 43 [(0, .ref 121), (1, .int p1), (2, .int p2), (3, .int p3), (4, .ref (125 + 4 * p1.toNatClampNeg)), (5, .ref (125 + 4 * (p1 + (1 : Int32)).toNatClampNeg)), (6, .int m6)] [] s0 (f_X3_walk_43 p1 p2 p3 rec n m6 s0) := by
  intro n
  induction n with
  | zero => intros; exact S_none
  | succ n ih =>
    intro m6 s0
    rw [f_X3_walk_43]
    refine S_ (R_iload hO dX3_walk_43 rfl) ?_
    refine S_ (R_iconst (v := (2 : Int32)) hO dX3_walk_45 (by decide)) ?_
    refine S_icmp_gt (tgt := 132) hO dX3_walk_46 (by decide) ?_ ?_
    · refine S_ (R_iload_n hO dX3_walk_49 rfl) ?_
      refine S_ (R_iload hO dX3_walk_50 rfl) ?_
      refine S_ (R_iadd hO dX3_walk_52) ?_
      refine S_ (R_iconst (v := (1 : Int32)) hO dX3_walk_53 (by decide)) ?_
      refine S_ (R_isub hO dX3_walk_54) ?_
      refine S_istore (L2 := fun x1 => [(7, .int x1), (0, .ref 121), (1, .int p1), (2, .int p2), (3, .int p3), (4, .ref (125 + 4 * p1.toNatClampNeg)), (5, .ref (125 + 4 * (p1 + (1 : Int32)).toNatClampNeg)), (6, .int m6)]) hO dX3_walk_55 (Nat.le_of_ble_eq_true rfl) (fun _ => rfl) (fun x1 => ?_)
      refine S_ (R_iload hO dX3_walk_57 rfl) ?_
      refine S_ (R_iconst (v := (0 : Int32)) hO dX3_walk_59 (by decide)) ?_
      refine S_ (R_aload hO dX3_walk_60 rfl) ?_
      refine S_getI hO dX3_walk_62 fl_X3_43 (is_122 hl2).1 rfl ?_
      refine S_ (R_iconst (v := (1 : Int32)) hO dX3_walk_65 (by decide)) ?_
      refine S_ (R_isub hO dX3_walk_66) ?_
      refine S_callNI (rest := []) hO dX3_walk_67 (cs_X7_within x1 (0 : Int32) ((s0 (125 + 4 * p1.toNatClampNeg) 3) - (1 : Int32)) s0) (by omega) lk_X3_46 np_X7_within rfl (Nat.le_of_ble_eq_true rfl) (fun x2 s3 => ?_)
      refine S_if_eq (tgt := 126) hO dX3_walk_70 (by decide) ?_ ?_
      · refine S_ (R_aload hO dX3_walk_73 rfl) ?_
        refine S_ (R_aload hO dX3_walk_75 rfl) ?_
        refine S_callVV (rest := []) hO dX3_walk_77 (cs_X5_take (125 + 4 * (p1 + (1 : Int32)).toNatClampNeg) (is_122 hl3) (125 + 4 * p1.toNatClampNeg) (is_122 hl2) s3) (by omega) lk_X3_32 np_X5_take (rc_St (is_122 hl3) rfl) rfl (Nat.le_of_ble_eq_true rfl) (fun s5 => ?_)
        refine S_ (R_aload hO dX3_walk_80 rfl) ?_
        refine S_getR hO dX3_walk_82 fl_X3_50 (is_122 hl3).1 rfl ?_
        refine S_ (R_iload hO dX3_walk_85 rfl) ?_
        refine S_iald hO dX3_walk_87 ((is_122 hl3).2.2.2) ?_
        refine S_if_le (tgt := 103) hO dX3_walk_88 (by decide) ?_ ?_
        · refine S_ (R_aload hO dX3_walk_91 rfl) ?_
          refine S_ (R_iload hO dX3_walk_93 rfl) ?_
          refine S_ (R_aload hO dX3_walk_95 rfl) ?_
          refine S_getI hO dX3_walk_97 fl_X3_53 (is_122 hl3).1 rfl ?_
          refine S_callVV (rest := []) hO dX3_walk_100 (cs_X5_raise (125 + 4 * (p1 + (1 : Int32)).toNatClampNeg) (is_122 hl3) x1 (s5 (125 + 4 * (p1 + (1 : Int32)).toNatClampNeg) 4) s5) (by omega) lk_X3_56 np_X5_raise (rc_St (is_122 hl3) rfl) rfl (Nat.le_of_ble_eq_true rfl) (fun s7 => ?_)
          refine S_sub [1, 2, 3, 4, 5, 6, 7, 0] rfl ?_
          exact w_X3_walk_103 hO hQ p1 p2 p3 rn rec hrec hl2 hl3 (f_X3_walk_43 p1 p2 p3 rec n) ih m6 x1 s7
        · refine S_sub [1, 2, 3, 4, 5, 6, 7, 0] rfl ?_
          exact w_X3_walk_103 hO hQ p1 p2 p3 rn rec hrec hl2 hl3 (f_X3_walk_43 p1 p2 p3 rec n) ih m6 x1 s5
      · refine S_iinc (L2 := fun x8 => [(6, .int x8), (7, .int x1), (0, .ref 121), (1, .int p1), (2, .int p2), (3, .int p3), (4, .ref (125 + 4 * p1.toNatClampNeg)), (5, .ref (125 + 4 * (p1 + (1 : Int32)).toNatClampNeg))]) (v := (1 : Int32)) hO dX3_walk_126 rfl (by decide) (Nat.le_of_ble_eq_true rfl) (fun _ => rfl) (fun x8 => ?_)
        refine S_ (R_goto (tgt := 43) hO dX3_walk_129 (by decide)) ?_
        refine S_sub [2, 3, 4, 5, 6, 7, 0] rfl ?_
        exact ih x8 s3
    · exact S_vret rfl hO hQ dX3_walk_132 rfl
def f_X3_walk : Nat → Int32 → Int32 → Int32 → Mem → Option (Mem)
  | 0, _, _, _, _ => none
  | rn + 1, p1, p2, p3, s0 => (fun (rec : Int32 → Int32 → Int32 → Mem → Option (Mem)) => if p2 ≤ p1 then (f_X3_walk_11 p1 p2 p3 rec s0) else if p1 < (7 : Int32) then (ing p1 8 <| ing (p1 + (1 : Int32)) 8 <| lt ((0 : Int32)) fun x1 => f_X3_walk_43 p1 p2 p3 rec FU x1 s0) else f_X3_walk_11 p1 p2 p3 rec s0) (f_X3_walk rn)
theorem wm_X3_walk {rn : Nat} (rec : Int32 → Int32 → Int32 → Mem → Option (Mem)) (hrec : ∀ (p1 : Int32) (p2 : Int32) (p3 : Int32) (τ : Mem), CS (9 + rn) MX3_walk [.ref 121, .int p1, .int p2, .int p3] τ ((rec p1 p2 p3 τ).map wV)) (p1 : Int32) (p2 : Int32) (p3 : Int32) (s0 : Mem) : CS (9 + rn + 1) MX3_walk [.ref 121, .int p1, .int p2, .int p3] s0 ((if p2 ≤ p1 then (f_X3_walk_11 p1 p2 p3 rec s0) else if p1 < (7 : Int32) then (ing p1 8 <| ing (p1 + (1 : Int32)) 8 <| lt ((0 : Int32)) fun x1 => f_X3_walk_43 p1 p2 p3 rec FU x1 s0) else f_X3_walk_11 p1 p2 p3 rec s0 : Option (Mem)).map wV) := by
  refine CS.of (by decide +kernel) (Nat.le_of_ble_eq_true rfl) (fun X Z hO hQ => ?_)
  show SIM X MX3_walk wV Z 0 [(0, .ref 121), (1, .int p1), (2, .int p2), (3, .int p3)] [] s0 _
  refine S_ (R_iload_n hO dX3_walk_0 rfl) ?_
  refine S_ (R_iload_n hO dX3_walk_1 rfl) ?_
  refine S_icmp_ge (tgt := 11) hO dX3_walk_2 (by decide) ?_ ?_
  · refine S_ (R_iload_n hO dX3_walk_5 rfl) ?_
    refine S_ (R_bipush (v := (7 : Int32)) hO dX3_walk_6 (by decide)) ?_
    refine S_icmp_lt (tgt := 22) hO dX3_walk_8 (by decide) ?_ ?_
    · refine S_sub [0, 1] rfl ?_
      exact w_X3_walk_11 hO hQ p1 p2 p3 rn rec hrec s0
    · refine S_ (R_aload_n hO dX3_walk_22 rfl) ?_
      refine S_getR hO dX3_walk_23 fl_X3_11 sh_121 rfl ?_
      refine S_ (R_iload_n hO dX3_walk_26 rfl) ?_
      refine S_aald (n := 8) (b0 := 125) (s0 := 4) hO dX3_walk_27 (Or.inl rfl) sh_122 (fun hl2 => ?_)
      refine S_ (R_astore (L2 := [(4, .ref (125 + 4 * p1.toNatClampNeg)), (0, .ref 121), (1, .int p1), (2, .int p2), (3, .int p3)]) hO dX3_walk_28 (Nat.le_of_ble_eq_true rfl) rfl) ?_
      refine S_ (R_aload_n hO dX3_walk_30 rfl) ?_
      refine S_getR hO dX3_walk_31 fl_X3_11 sh_121 rfl ?_
      refine S_ (R_iload_n hO dX3_walk_34 rfl) ?_
      refine S_ (R_iconst (v := (1 : Int32)) hO dX3_walk_35 (by decide)) ?_
      refine S_ (R_iadd hO dX3_walk_36) ?_
      refine S_aald (n := 8) (b0 := 125) (s0 := 4) hO dX3_walk_37 (Or.inl rfl) sh_122 (fun hl3 => ?_)
      refine S_ (R_astore (L2 := [(5, .ref (125 + 4 * (p1 + (1 : Int32)).toNatClampNeg)), (4, .ref (125 + 4 * p1.toNatClampNeg)), (0, .ref 121), (1, .int p1), (2, .int p2), (3, .int p3)]) hO dX3_walk_38 (Nat.le_of_ble_eq_true rfl) rfl) ?_
      refine S_ (R_iconst (v := (0 : Int32)) hO dX3_walk_40 (by decide)) ?_
      refine S_istore (L2 := fun x1 => [(6, .int x1), (5, .ref (125 + 4 * (p1 + (1 : Int32)).toNatClampNeg)), (4, .ref (125 + 4 * p1.toNatClampNeg)), (0, .ref 121), (1, .int p1), (2, .int p2), (3, .int p3)]) hO dX3_walk_41 (Nat.le_of_ble_eq_true rfl) (fun _ => rfl) (fun x1 => ?_)
      refine S_sub [3, 4, 5, 6, 2, 1, 0] rfl ?_
      exact w_X3_walk_43 hO hQ p1 p2 p3 rn rec hrec hl2 hl3 FU x1 s0
  · refine S_sub [0, 1] rfl ?_
    exact w_X3_walk_11 hO hQ p1 p2 p3 rn rec hrec s0
theorem cs_X3_walk : ∀ (rn : Nat) (p1 : Int32) (p2 : Int32) (p3 : Int32) (s0 : Mem), CS (9 + rn) MX3_walk [.ref 121, .int p1, .int p2, .int p3] s0 ((f_X3_walk rn p1 p2 p3 s0).map wV) := by
  intro rn
  induction rn with
  | zero => intros; exact CS.none_of
  | succ rn ih =>
    intro p1 p2 p3 s0
    exact wm_X3_walk (f_X3_walk rn) ih p1 p2 p3 s0
def f_X3_search (b : Nat) (p2 : Int32) (p3 : Int32) (s0 : Mem) : Option (Mem) := lt (st2 s0 121 3 (-1 : Int32)) fun s1 => lt (st2 s1 121 4 (-1 : Int32)) fun s2 => ing (0 : Int32) 8 <| bd (f_X5_take (125 + 4 * (0 : Int32).toNatClampNeg) b s2) fun s4 => bd (f_X3_walk 9 (0 : Int32) p3 p2 s4) fun s6 => some s6
theorem cs_X3_search (b : Nat) (hb : isSt b) (p2 : Int32) (p3 : Int32) (s0 : Mem) : CS 19 MX3_search [.ref 121, .ref b, .int p2, .int p3] s0 ((f_X3_search b p2 p3 s0).map wV) := by
  refine CS.of (by decide +kernel) (Nat.le_of_ble_eq_true rfl) (fun X Z hO hQ => ?_)
  show SIM X MX3_search wV Z 0 [(0, .ref 121), (1, .ref b), (2, .int p2), (3, .int p3)] [] s0 _
  unfold f_X3_search
  refine S_ (R_aload_n hO dX3_search_0 rfl) ?_
  refine S_ (R_iconst (v := (-1 : Int32)) hO dX3_search_1 (by decide)) ?_
  refine S_put hO dX3_search_2 fl_X3_25 sh_121 rfl (fun s1 => ?_)
  refine S_ (R_aload_n hO dX3_search_5 rfl) ?_
  refine S_ (R_iconst (v := (-1 : Int32)) hO dX3_search_6 (by decide)) ?_
  refine S_put hO dX3_search_7 fl_X3_29 sh_121 rfl (fun s2 => ?_)
  refine S_ (R_aload_n hO dX3_search_10 rfl) ?_
  refine S_getR hO dX3_search_11 fl_X3_11 sh_121 rfl ?_
  refine S_ (R_iconst (v := (0 : Int32)) hO dX3_search_14 (by decide)) ?_
  refine S_aald (n := 8) (b0 := 125) (s0 := 4) hO dX3_search_15 (Or.inl rfl) sh_122 (fun hl1 => ?_)
  refine S_ (R_aload_n hO dX3_search_16 rfl) ?_
  refine S_callVV (rest := []) hO dX3_search_17 (cs_X5_take (125 + 4 * (0 : Int32).toNatClampNeg) (is_122 hl1) b hb s2) (by omega) lk_X3_32 np_X5_take (rc_St (is_122 hl1) rfl) rfl (Nat.le_of_ble_eq_true rfl) (fun s4 => ?_)
  refine S_ (R_aload_n hO dX3_search_20 rfl) ?_
  refine S_ (R_iconst (v := (0 : Int32)) hO dX3_search_21 (by decide)) ?_
  refine S_ (R_iload_n hO dX3_search_22 rfl) ?_
  refine S_ (R_iload_n hO dX3_search_23 rfl) ?_
  refine S_callSV (rest := []) hO dX3_search_24 (cs_X3_walk 9 (0 : Int32) p3 p2 s4) (by omega) lk_X3_36 np_X3_walk rfl (Nat.le_of_ble_eq_true rfl) (fun s6 => ?_)
  exact S_vret rfl hO hQ dX3_search_27 rfl
def f_X2_standingAfter (p1 : Int32) (s0 : Mem) : Option (Int32 × Mem) := bd (f_X5_passAll 112 p1 s0) fun s2 => bd2 (f_X5_standing 112 s2) fun x3 s4 => bd2 (f_J6_bitCount_0f7a4 x3 s4) fun x5 s6 => some (x5, s6)
theorem cs_X2_standingAfter (p1 : Int32) (s0 : Mem) : CS 5 MX2_standingAfter [.ref 111, .int p1] s0 ((f_X2_standingAfter p1 s0).map wI) := by
  refine CS.of (by decide +kernel) (Nat.le_of_ble_eq_true rfl) (fun X Z hO hQ => ?_)
  show SIM X MX2_standingAfter wI Z 0 [(0, .ref 111), (1, .int p1)] [] s0 _
  unfold f_X2_standingAfter
  refine S_ (R_aload_n hO dX2_standingAfter_0 rfl) ?_
  refine S_getR hO dX2_standingAfter_1 fl_X2_12 sh_111 rfl ?_
  refine S_ (R_iload_n hO dX2_standingAfter_4 rfl) ?_
  refine S_callVV (rest := []) hO dX2_standingAfter_5 (cs_X5_passAll 112 isSt_112 p1 s0) (by omega) lk_X2_29 np_X5_passAll (rc_St isSt_112 rfl) rfl (Nat.le_of_ble_eq_true rfl) (fun s2 => ?_)
  refine S_ (R_aload_n hO dX2_standingAfter_8 rfl) ?_
  refine S_getR hO dX2_standingAfter_9 fl_X2_12 sh_111 rfl ?_
  refine S_callVI (rest := []) hO dX2_standingAfter_12 (cs_X5_standing 112 isSt_112 s2) (by omega) lk_X2_48 np_X5_standing (rc_St isSt_112 rfl) rfl (Nat.le_of_ble_eq_true rfl) (fun x3 s4 => ?_)
  refine S_callSI (rest := []) hO dX2_standingAfter_15 (cs_J6_bitCount_0f7a4 x3 s4) (by omega) lk_X2_52 np_J6_bitCount_0f7a4 rfl (Nat.le_of_ble_eq_true rfl) (fun x5 s6 => ?_)
  exact S_iret rfl hO hQ dX2_standingAfter_18 rfl
def f_X2_bestWalls_64 (b : Nat) (p2 : Int32) (p3 : Int32) (K9 : Int32 → Int32 → Int32 → Mem → Option (Int32 × Mem)) (m4 : Int32) (m5 : Int32) (m6 : Int32) (m7 : Int32) (t0 : Int32) (s0 : Mem) : Option (Int32 × Mem) := lt (t0) fun x1 => if m5 < m7 then (lt (m6) fun x7 => lt (m7) fun x8 => lt (m6 + (1 : Int32)) fun x9 => K9 x7 x8 x9 s0) else if m7 = m5 then (if x1 = 0 then (lt (m6 + (1 : Int32)) fun x5 => K9 m4 m5 x5 s0) else lt (m6) fun x2 => lt (m7) fun x3 => lt (m6 + (1 : Int32)) fun x4 => K9 x2 x3 x4 s0) else lt (m6 + (1 : Int32)) fun x6 => K9 m4 m5 x6 s0
theorem w_X2_bestWalls_64 {X : CX} {Z : Option Value × Mem → Prop} (hO : OKX X false 6 MX2_bestWalls) (hQ : OKS X Z) (b : Nat) (hb : isSt b) (p2 : Int32) (p3 : Int32) (K9 : Int32 → Int32 → Int32 → Mem → Option (Int32 × Mem)) (h9 : ∀ m4 m5 m6 τ, SIM X MX2_bestWalls wI Z 9 [(0, .ref 111), (1, .ref b), (2, .int p2), (3, .int p3), (4, .int m4), (5, .int m5), (6, .int m6)] [] τ (K9 m4 m5 m6 τ)) (m4 : Int32) (m5 : Int32) (m6 : Int32) (m7 : Int32) (t0 : Int32) (s0 : Mem) : SIM X MX2_bestWalls wI Z 64 [(0, .ref 111), (1, .ref b), (2, .int p2), (3, .int p3), (4, .int m4), (5, .int m5), (6, .int m6), (7, .int m7)] [.int t0] s0 (f_X2_bestWalls_64 b p2 p3 K9 m4 m5 m6 m7 t0 s0) := by
  unfold f_X2_bestWalls_64
  refine S_istore (L2 := fun x1 => [(8, .int x1), (0, .ref 111), (1, .ref b), (2, .int p2), (3, .int p3), (4, .int m4), (5, .int m5), (6, .int m6), (7, .int m7)]) hO dX2_bestWalls_64 (Nat.le_of_ble_eq_true rfl) (fun _ => rfl) (fun x1 => ?_)
  refine S_ (R_iload hO dX2_bestWalls_66 rfl) ?_
  refine S_ (R_iload hO dX2_bestWalls_68 rfl) ?_
  refine S_icmp_gt (tgt := 85) hO dX2_bestWalls_70 (by decide) ?_ ?_
  · refine S_ (R_iload hO dX2_bestWalls_73 rfl) ?_
    refine S_ (R_iload hO dX2_bestWalls_75 rfl) ?_
    refine S_icmp_ne (tgt := 93) hO dX2_bestWalls_77 (by decide) ?_ ?_
    · refine S_ (R_iload hO dX2_bestWalls_80 rfl) ?_
      refine S_if_eq (tgt := 93) hO dX2_bestWalls_82 (by decide) ?_ ?_
      · refine S_ (R_iload hO dX2_bestWalls_85 rfl) ?_
        refine S_istore (L2 := fun x2 => [(4, .int x2), (8, .int x1), (0, .ref 111), (1, .ref b), (2, .int p2), (3, .int p3), (5, .int m5), (6, .int m6), (7, .int m7)]) hO dX2_bestWalls_87 (Nat.le_of_ble_eq_true rfl) (fun _ => rfl) (fun x2 => ?_)
        refine S_ (R_iload hO dX2_bestWalls_89 rfl) ?_
        refine S_istore (L2 := fun x3 => [(5, .int x3), (4, .int x2), (8, .int x1), (0, .ref 111), (1, .ref b), (2, .int p2), (3, .int p3), (6, .int m6), (7, .int m7)]) hO dX2_bestWalls_91 (Nat.le_of_ble_eq_true rfl) (fun _ => rfl) (fun x3 => ?_)
        refine S_iinc (L2 := fun x4 => [(6, .int x4), (5, .int x3), (4, .int x2), (8, .int x1), (0, .ref 111), (1, .ref b), (2, .int p2), (3, .int p3), (7, .int m7)]) (v := (1 : Int32)) hO dX2_bestWalls_93 rfl (by decide) (Nat.le_of_ble_eq_true rfl) (fun _ => rfl) (fun x4 => ?_)
        refine S_ (R_goto (tgt := 9) hO dX2_bestWalls_96 (by decide)) ?_
        refine S_sub [4, 5, 6, 7, 2, 1, 0] rfl ?_
        exact h9 x2 x3 x4 s0
      · refine S_iinc (L2 := fun x5 => [(6, .int x5), (8, .int x1), (0, .ref 111), (1, .ref b), (2, .int p2), (3, .int p3), (4, .int m4), (5, .int m5), (7, .int m7)]) (v := (1 : Int32)) hO dX2_bestWalls_93 rfl (by decide) (Nat.le_of_ble_eq_true rfl) (fun _ => rfl) (fun x5 => ?_)
        refine S_ (R_goto (tgt := 9) hO dX2_bestWalls_96 (by decide)) ?_
        refine S_sub [2, 3, 4, 5, 6, 7, 0] rfl ?_
        exact h9 m4 m5 x5 s0
    · refine S_iinc (L2 := fun x6 => [(6, .int x6), (8, .int x1), (0, .ref 111), (1, .ref b), (2, .int p2), (3, .int p3), (4, .int m4), (5, .int m5), (7, .int m7)]) (v := (1 : Int32)) hO dX2_bestWalls_93 rfl (by decide) (Nat.le_of_ble_eq_true rfl) (fun _ => rfl) (fun x6 => ?_)
      refine S_ (R_goto (tgt := 9) hO dX2_bestWalls_96 (by decide)) ?_
      refine S_sub [2, 3, 4, 5, 6, 7, 0] rfl ?_
      exact h9 m4 m5 x6 s0
  · refine S_ (R_iload hO dX2_bestWalls_85 rfl) ?_
    refine S_istore (L2 := fun x7 => [(4, .int x7), (8, .int x1), (0, .ref 111), (1, .ref b), (2, .int p2), (3, .int p3), (5, .int m5), (6, .int m6), (7, .int m7)]) hO dX2_bestWalls_87 (Nat.le_of_ble_eq_true rfl) (fun _ => rfl) (fun x7 => ?_)
    refine S_ (R_iload hO dX2_bestWalls_89 rfl) ?_
    refine S_istore (L2 := fun x8 => [(5, .int x8), (4, .int x7), (8, .int x1), (0, .ref 111), (1, .ref b), (2, .int p2), (3, .int p3), (6, .int m6), (7, .int m7)]) hO dX2_bestWalls_91 (Nat.le_of_ble_eq_true rfl) (fun _ => rfl) (fun x8 => ?_)
    refine S_iinc (L2 := fun x9 => [(6, .int x9), (5, .int x8), (4, .int x7), (8, .int x1), (0, .ref 111), (1, .ref b), (2, .int p2), (3, .int p3), (7, .int m7)]) (v := (1 : Int32)) hO dX2_bestWalls_93 rfl (by decide) (Nat.le_of_ble_eq_true rfl) (fun _ => rfl) (fun x9 => ?_)
    refine S_ (R_goto (tgt := 9) hO dX2_bestWalls_96 (by decide)) ?_
    refine S_sub [4, 5, 6, 7, 2, 1, 0] rfl ?_
    exact h9 x7 x8 x9 s0
def f_X2_bestWalls_9 (b : Nat) (p2 : Int32) (p3 : Int32) : Nat → Int32 → Int32 → Int32 → Mem → Option (Int32 × Mem)
  | 0, _, _, _, _ => none
  | n + 1, m4, m5, m6, s0 => if ((1 : Int32) <<< (((s0 b 3) - (1 : Int32)) &&& 31)) ≤ m6 then (if p3 = 0 then (some (m4, s0)) else some (m5, s0)) else bd (f_X5_take 112 b s0) fun s2 => lt (st2 s2 112 7 m6) fun s3 => bd2 (f_X2_standingAfter p2 s3) fun x4 s5 => lt (x4) fun x6 => bd2 (f_J6_bitCount_0f7a4 m6 s5) fun x7 s8 => bd2 (f_J6_bitCount_0f7a4 m4 s8) fun x9 s10 => if x9 ≤ x7 then (f_X2_bestWalls_64 b p2 p3 (f_X2_bestWalls_9 b p2 p3 n) m4 m5 m6 x6 (0 : Int32) s10) else f_X2_bestWalls_64 b p2 p3 (f_X2_bestWalls_9 b p2 p3 n) m4 m5 m6 x6 (1 : Int32) s10
theorem w_X2_bestWalls_9 {X : CX} {Z : Option Value × Mem → Prop} (hO : OKX X false 6 MX2_bestWalls) (hQ : OKS X Z) (b : Nat) (hb : isSt b) (p2 : Int32) (p3 : Int32) : ∀ (n : Nat) (m4 : Int32) (m5 : Int32) (m6 : Int32) (s0 : Mem), SIM X MX2_bestWalls wI Z 9 [(0, .ref 111), (1, .ref b), (2, .int p2), (3, .int p3), (4, .int m4), (5, .int m5), (6, .int m6)] [] s0 (f_X2_bestWalls_9 b p2 p3 n m4 m5 m6 s0) := by
  intro n
  induction n with
  | zero => intros; exact S_none
  | succ n ih =>
    intro m4 m5 m6 s0
    rw [f_X2_bestWalls_9]
    refine S_ (R_iload hO dX2_bestWalls_9 rfl) ?_
    refine S_ (R_iconst (v := (1 : Int32)) hO dX2_bestWalls_11 (by decide)) ?_
    refine S_ (R_aload_n hO dX2_bestWalls_12 rfl) ?_
    refine S_getI hO dX2_bestWalls_13 fl_X2_44 hb.1 rfl ?_
    refine S_ (R_iconst (v := (1 : Int32)) hO dX2_bestWalls_16 (by decide)) ?_
    refine S_ (R_isub hO dX2_bestWalls_17) ?_
    refine S_ (R_ishl hO dX2_bestWalls_18) ?_
    refine S_icmp_ge (tgt := 99) hO dX2_bestWalls_19 (by decide) ?_ ?_
    · refine S_ (R_aload_n hO dX2_bestWalls_22 rfl) ?_
      refine S_getR hO dX2_bestWalls_23 fl_X2_12 sh_111 rfl ?_
      refine S_ (R_aload_n hO dX2_bestWalls_26 rfl) ?_
      refine S_callVV (rest := []) hO dX2_bestWalls_27 (cs_X5_take 112 isSt_112 b hb s0) (by omega) lk_X2_25 np_X5_take (rc_St isSt_112 rfl) rfl (Nat.le_of_ble_eq_true rfl) (fun s2 => ?_)
      refine S_ (R_aload_n hO dX2_bestWalls_30 rfl) ?_
      refine S_getR hO dX2_bestWalls_31 fl_X2_12 sh_111 rfl ?_
      refine S_ (R_iload hO dX2_bestWalls_34 rfl) ?_
      refine S_put hO dX2_bestWalls_36 fl_X2_58 isSt_112.1 rfl (fun s3 => ?_)
      refine S_ (R_aload_n hO dX2_bestWalls_39 rfl) ?_
      refine S_ (R_iload_n hO dX2_bestWalls_40 rfl) ?_
      refine S_callVI (rest := []) hO dX2_bestWalls_41 (cs_X2_standingAfter p2 s3) (by omega) lk_X2_61 np_X2_standingAfter (rc_111 rfl) rfl (Nat.le_of_ble_eq_true rfl) (fun x4 s5 => ?_)
      refine S_istore (L2 := fun x6 => [(7, .int x6), (0, .ref 111), (1, .ref b), (2, .int p2), (3, .int p3), (4, .int m4), (5, .int m5), (6, .int m6)]) hO dX2_bestWalls_44 (Nat.le_of_ble_eq_true rfl) (fun _ => rfl) (fun x6 => ?_)
      refine S_ (R_iload hO dX2_bestWalls_46 rfl) ?_
      refine S_callSI (rest := []) hO dX2_bestWalls_48 (cs_J6_bitCount_0f7a4 m6 s5) (by omega) lk_X2_52 np_J6_bitCount_0f7a4 rfl (Nat.le_of_ble_eq_true rfl) (fun x7 s8 => ?_)
      refine S_ (R_iload hO dX2_bestWalls_51 rfl) ?_
      refine S_callSI (rest := [.int x7]) hO dX2_bestWalls_53 (cs_J6_bitCount_0f7a4 m4 s8) (by omega) lk_X2_52 np_J6_bitCount_0f7a4 rfl (Nat.le_of_ble_eq_true rfl) (fun x9 s10 => ?_)
      refine S_icmp_ge (tgt := 63) hO dX2_bestWalls_56 (by decide) ?_ ?_
      · refine S_ (R_iconst (v := (1 : Int32)) hO dX2_bestWalls_59 (by decide)) ?_
        refine S_ (R_goto (tgt := 64) hO dX2_bestWalls_60 (by decide)) ?_
        refine S_sub [1, 2, 3, 4, 5, 6, 7, 0] rfl ?_
        exact w_X2_bestWalls_64 hO hQ b hb p2 p3 (f_X2_bestWalls_9 b p2 p3 n) ih m4 m5 m6 x6 (1 : Int32) s10
      · refine S_ (R_iconst (v := (0 : Int32)) hO dX2_bestWalls_63 (by decide)) ?_
        refine S_sub [1, 2, 3, 4, 5, 6, 7, 0] rfl ?_
        exact w_X2_bestWalls_64 hO hQ b hb p2 p3 (f_X2_bestWalls_9 b p2 p3 n) ih m4 m5 m6 x6 (0 : Int32) s10
    · refine S_ (R_iload_n hO dX2_bestWalls_99 rfl) ?_
      refine S_if_ne (tgt := 108) hO dX2_bestWalls_100 (by decide) ?_ ?_
      · refine S_ (R_iload hO dX2_bestWalls_103 rfl) ?_
        refine S_ (R_goto (tgt := 110) hO dX2_bestWalls_105 (by decide)) ?_
        exact S_iret rfl hO hQ dX2_bestWalls_110 rfl
      · refine S_ (R_iload hO dX2_bestWalls_108 rfl) ?_
        exact S_iret rfl hO hQ dX2_bestWalls_110 rfl
def f_X2_bestWalls (b : Nat) (p2 : Int32) (p3 : Int32) (s0 : Mem) : Option (Int32 × Mem) := lt ((0 : Int32)) fun x1 => lt ((-1 : Int32)) fun x2 => lt ((0 : Int32)) fun x3 => f_X2_bestWalls_9 b p2 p3 FU x1 x2 x3 s0
theorem cs_X2_bestWalls (b : Nat) (hb : isSt b) (p2 : Int32) (p3 : Int32) (s0 : Mem) : CS 6 MX2_bestWalls [.ref 111, .ref b, .int p2, .int p3] s0 ((f_X2_bestWalls b p2 p3 s0).map wI) := by
  refine CS.of (by decide +kernel) (Nat.le_of_ble_eq_true rfl) (fun X Z hO hQ => ?_)
  show SIM X MX2_bestWalls wI Z 0 [(0, .ref 111), (1, .ref b), (2, .int p2), (3, .int p3)] [] s0 _
  unfold f_X2_bestWalls
  refine S_ (R_iconst (v := (0 : Int32)) hO dX2_bestWalls_0 (by decide)) ?_
  refine S_istore (L2 := fun x1 => [(4, .int x1), (0, .ref 111), (1, .ref b), (2, .int p2), (3, .int p3)]) hO dX2_bestWalls_1 (Nat.le_of_ble_eq_true rfl) (fun _ => rfl) (fun x1 => ?_)
  refine S_ (R_iconst (v := (-1 : Int32)) hO dX2_bestWalls_3 (by decide)) ?_
  refine S_istore (L2 := fun x2 => [(5, .int x2), (4, .int x1), (0, .ref 111), (1, .ref b), (2, .int p2), (3, .int p3)]) hO dX2_bestWalls_4 (Nat.le_of_ble_eq_true rfl) (fun _ => rfl) (fun x2 => ?_)
  refine S_ (R_iconst (v := (0 : Int32)) hO dX2_bestWalls_6 (by decide)) ?_
  refine S_istore (L2 := fun x3 => [(6, .int x3), (5, .int x2), (4, .int x1), (0, .ref 111), (1, .ref b), (2, .int p2), (3, .int p3)]) hO dX2_bestWalls_7 (Nat.le_of_ble_eq_true rfl) (fun _ => rfl) (fun x3 => ?_)
  refine S_sub [3, 4, 5, 6, 2, 1, 0] rfl ?_
  exact w_X2_bestWalls_9 hO hQ b hb p2 p3 FU x1 x2 x3 s0
def f_X2_bestSteadied_11 (b : Nat) (p2 : Int32) (p3 : Int32) : Nat → Int32 → Int32 → Int32 → Mem → Option (Int32 × Mem)
  | 0, _, _, _, _ => none
  | n + 1, m4, m5, m6, s0 => if (s0 b 3) ≤ m6 then (if p3 = 0 then (some (m4, s0)) else some (m5, s0)) else ing m6 8 <| if (s0 (b + 3) m6.toNatClampNeg) ≤ 0 then (lt (m6 + (1 : Int32)) fun x11 => f_X2_bestSteadied_11 b p2 p3 n m4 m5 x11 s0) else bd (f_X5_take 112 b s0) fun s2 => ing m6 8 <| lt (st2 s2 (112 + 3) m6.toNatClampNeg (99 : Int32)) fun s3 => bd2 (f_X2_standingAfter p2 s3) fun x4 s5 => lt (x4) fun x6 => if x6 ≤ m5 then (lt (m6 + (1 : Int32)) fun x10 => f_X2_bestSteadied_11 b p2 p3 n m4 m5 x10 s5) else lt (m6) fun x7 => lt (x6) fun x8 => lt (m6 + (1 : Int32)) fun x9 => f_X2_bestSteadied_11 b p2 p3 n x7 x8 x9 s5
theorem w_X2_bestSteadied_11 {X : CX} {Z : Option Value × Mem → Prop} (hO : OKX X false 6 MX2_bestSteadied) (hQ : OKS X Z) (b : Nat) (hb : isSt b) (p2 : Int32) (p3 : Int32) : ∀ (n : Nat) (m4 : Int32) (m5 : Int32) (m6 : Int32) (s0 : Mem), SIM X MX2_bestSteadied wI Z 11 [(0, .ref 111), (1, .ref b), (2, .int p2), (3, .int p3), (4, .int m4), (5, .int m5), (6, .int m6)] [] s0 (f_X2_bestSteadied_11 b p2 p3 n m4 m5 m6 s0) := by
  intro n
  induction n with
  | zero => intros; exact S_none
  | succ n ih =>
    intro m4 m5 m6 s0
    rw [f_X2_bestSteadied_11]
    refine S_ (R_iload hO dX2_bestSteadied_11 rfl) ?_
    refine S_ (R_aload_n hO dX2_bestSteadied_13 rfl) ?_
    refine S_getI hO dX2_bestSteadied_14 fl_X2_44 hb.1 rfl ?_
    refine S_icmp_ge (tgt := 78) hO dX2_bestSteadied_17 (by decide) ?_ ?_
    · refine S_ (R_aload_n hO dX2_bestSteadied_20 rfl) ?_
      refine S_getR hO dX2_bestSteadied_21 fl_X2_33 hb.1 rfl ?_
      refine S_ (R_iload hO dX2_bestSteadied_24 rfl) ?_
      refine S_iald hO dX2_bestSteadied_26 hb.2.2.2 ?_
      refine S_if_le (tgt := 72) hO dX2_bestSteadied_27 (by decide) ?_ ?_
      · refine S_ (R_aload_n hO dX2_bestSteadied_30 rfl) ?_
        refine S_getR hO dX2_bestSteadied_31 fl_X2_12 sh_111 rfl ?_
        refine S_ (R_aload_n hO dX2_bestSteadied_34 rfl) ?_
        refine S_callVV (rest := []) hO dX2_bestSteadied_35 (cs_X5_take 112 isSt_112 b hb s0) (by omega) lk_X2_25 np_X5_take (rc_St isSt_112 rfl) rfl (Nat.le_of_ble_eq_true rfl) (fun s2 => ?_)
        refine S_ (R_aload_n hO dX2_bestSteadied_38 rfl) ?_
        refine S_getR hO dX2_bestSteadied_39 fl_X2_12 sh_111 rfl ?_
        refine S_getR hO dX2_bestSteadied_42 fl_X2_33 isSt_112.1 rfl ?_
        refine S_ (R_iload hO dX2_bestSteadied_45 rfl) ?_
        refine S_ (R_bipush (v := (99 : Int32)) hO dX2_bestSteadied_47 (by decide)) ?_
        refine S_iast hO dX2_bestSteadied_49 isSt_112.2.2.2 (fun s3 => ?_)
        refine S_ (R_aload_n hO dX2_bestSteadied_50 rfl) ?_
        refine S_ (R_iload_n hO dX2_bestSteadied_51 rfl) ?_
        refine S_callVI (rest := []) hO dX2_bestSteadied_52 (cs_X2_standingAfter p2 s3) (by omega) lk_X2_61 np_X2_standingAfter (rc_111 rfl) rfl (Nat.le_of_ble_eq_true rfl) (fun x4 s5 => ?_)
        refine S_istore (L2 := fun x6 => [(7, .int x6), (0, .ref 111), (1, .ref b), (2, .int p2), (3, .int p3), (4, .int m4), (5, .int m5), (6, .int m6)]) hO dX2_bestSteadied_55 (Nat.le_of_ble_eq_true rfl) (fun _ => rfl) (fun x6 => ?_)
        refine S_ (R_iload hO dX2_bestSteadied_57 rfl) ?_
        refine S_ (R_iload hO dX2_bestSteadied_59 rfl) ?_
        refine S_icmp_le (tgt := 72) hO dX2_bestSteadied_61 (by decide) ?_ ?_
        · refine S_ (R_iload hO dX2_bestSteadied_64 rfl) ?_
          refine S_istore (L2 := fun x7 => [(4, .int x7), (7, .int x6), (0, .ref 111), (1, .ref b), (2, .int p2), (3, .int p3), (5, .int m5), (6, .int m6)]) hO dX2_bestSteadied_66 (Nat.le_of_ble_eq_true rfl) (fun _ => rfl) (fun x7 => ?_)
          refine S_ (R_iload hO dX2_bestSteadied_68 rfl) ?_
          refine S_istore (L2 := fun x8 => [(5, .int x8), (4, .int x7), (7, .int x6), (0, .ref 111), (1, .ref b), (2, .int p2), (3, .int p3), (6, .int m6)]) hO dX2_bestSteadied_70 (Nat.le_of_ble_eq_true rfl) (fun _ => rfl) (fun x8 => ?_)
          refine S_iinc (L2 := fun x9 => [(6, .int x9), (5, .int x8), (4, .int x7), (7, .int x6), (0, .ref 111), (1, .ref b), (2, .int p2), (3, .int p3)]) (v := (1 : Int32)) hO dX2_bestSteadied_72 rfl (by decide) (Nat.le_of_ble_eq_true rfl) (fun _ => rfl) (fun x9 => ?_)
          refine S_ (R_goto (tgt := 11) hO dX2_bestSteadied_75 (by decide)) ?_
          refine S_sub [4, 5, 6, 7, 2, 1, 0] rfl ?_
          exact ih x7 x8 x9 s5
        · refine S_iinc (L2 := fun x10 => [(6, .int x10), (7, .int x6), (0, .ref 111), (1, .ref b), (2, .int p2), (3, .int p3), (4, .int m4), (5, .int m5)]) (v := (1 : Int32)) hO dX2_bestSteadied_72 rfl (by decide) (Nat.le_of_ble_eq_true rfl) (fun _ => rfl) (fun x10 => ?_)
          refine S_ (R_goto (tgt := 11) hO dX2_bestSteadied_75 (by decide)) ?_
          refine S_sub [2, 3, 4, 5, 6, 7, 0] rfl ?_
          exact ih m4 m5 x10 s5
      · refine S_iinc (L2 := fun x11 => [(6, .int x11), (0, .ref 111), (1, .ref b), (2, .int p2), (3, .int p3), (4, .int m4), (5, .int m5)]) (v := (1 : Int32)) hO dX2_bestSteadied_72 rfl (by decide) (Nat.le_of_ble_eq_true rfl) (fun _ => rfl) (fun x11 => ?_)
        refine S_ (R_goto (tgt := 11) hO dX2_bestSteadied_75 (by decide)) ?_
        refine S_sub [1, 2, 3, 4, 5, 6, 0] rfl ?_
        exact ih m4 m5 x11 s0
    · refine S_ (R_iload_n hO dX2_bestSteadied_78 rfl) ?_
      refine S_if_ne (tgt := 87) hO dX2_bestSteadied_79 (by decide) ?_ ?_
      · refine S_ (R_iload hO dX2_bestSteadied_82 rfl) ?_
        refine S_ (R_goto (tgt := 89) hO dX2_bestSteadied_84 (by decide)) ?_
        exact S_iret rfl hO hQ dX2_bestSteadied_89 rfl
      · refine S_ (R_iload hO dX2_bestSteadied_87 rfl) ?_
        exact S_iret rfl hO hQ dX2_bestSteadied_89 rfl
def f_X2_bestSteadied (b : Nat) (p2 : Int32) (p3 : Int32) (s0 : Mem) : Option (Int32 × Mem) := lt ((-1000000 : Int32)) fun x1 => lt ((-1000000 : Int32)) fun x2 => lt ((0 : Int32)) fun x3 => f_X2_bestSteadied_11 b p2 p3 FU x1 x2 x3 s0
theorem cs_X2_bestSteadied (b : Nat) (hb : isSt b) (p2 : Int32) (p3 : Int32) (s0 : Mem) : CS 6 MX2_bestSteadied [.ref 111, .ref b, .int p2, .int p3] s0 ((f_X2_bestSteadied b p2 p3 s0).map wI) := by
  refine CS.of (by decide +kernel) (Nat.le_of_ble_eq_true rfl) (fun X Z hO hQ => ?_)
  show SIM X MX2_bestSteadied wI Z 0 [(0, .ref 111), (1, .ref b), (2, .int p2), (3, .int p3)] [] s0 _
  unfold f_X2_bestSteadied
  refine S_ (R_ldc (v := (-1000000 : Int32)) hO dX2_bestSteadied_0 kc_X2_43) ?_
  refine S_istore (L2 := fun x1 => [(4, .int x1), (0, .ref 111), (1, .ref b), (2, .int p2), (3, .int p3)]) hO dX2_bestSteadied_2 (Nat.le_of_ble_eq_true rfl) (fun _ => rfl) (fun x1 => ?_)
  refine S_ (R_ldc (v := (-1000000 : Int32)) hO dX2_bestSteadied_4 kc_X2_43) ?_
  refine S_istore (L2 := fun x2 => [(5, .int x2), (4, .int x1), (0, .ref 111), (1, .ref b), (2, .int p2), (3, .int p3)]) hO dX2_bestSteadied_6 (Nat.le_of_ble_eq_true rfl) (fun _ => rfl) (fun x2 => ?_)
  refine S_ (R_iconst (v := (0 : Int32)) hO dX2_bestSteadied_8 (by decide)) ?_
  refine S_istore (L2 := fun x3 => [(6, .int x3), (5, .int x2), (4, .int x1), (0, .ref 111), (1, .ref b), (2, .int p2), (3, .int p3)]) hO dX2_bestSteadied_9 (Nat.le_of_ble_eq_true rfl) (fun _ => rfl) (fun x3 => ?_)
  refine S_sub [3, 4, 5, 6, 2, 1, 0] rfl ?_
  exact w_X2_bestSteadied_11 hO hQ b hb p2 p3 FU x1 x2 x3 s0
def f_X2_evensLead_23 (p1 : Int32) : Nat → Int32 → Int32 → Mem → Option (Int32 × Mem)
  | 0, _, _, _ => none
  | n + 1, m2, m3, s0 => if (s0 112 3) ≤ m3 then (some (m2, s0)) else if (m3 - m3 / (2 : Int32) * (2 : Int32)) = 0 then (ing m3 8 <| lt (m2 + (s0 (112 + 3) m3.toNatClampNeg)) fun x1 => lt (m3 + (1 : Int32)) fun x2 => f_X2_evensLead_23 p1 n x1 x2 s0) else ing m3 8 <| lt (m2 + (-(s0 (112 + 3) m3.toNatClampNeg))) fun x3 => lt (m3 + (1 : Int32)) fun x4 => f_X2_evensLead_23 p1 n x3 x4 s0
theorem w_X2_evensLead_23 {X : CX} {Z : Option Value × Mem → Prop} (hO : OKX X false 5 MX2_evensLead) (hQ : OKS X Z) (p1 : Int32) : ∀ (n : Nat) (m2 : Int32) (m3 : Int32) (s0 : Mem), SIM X MX2_evensLead wI Z 23 [(0, .ref 111), (2, .int m2), (3, .int m3)] [] s0 (f_X2_evensLead_23 p1 n m2 m3 s0) := by
  intro n
  induction n with
  | zero => intros; exact S_none
  | succ n ih =>
    intro m2 m3 s0
    rw [f_X2_evensLead_23]
    refine S_ (R_iload_n hO dX2_evensLead_23 rfl) ?_
    refine S_ (R_aload_n hO dX2_evensLead_24 rfl) ?_
    refine S_getR hO dX2_evensLead_25 fl_X2_12 sh_111 rfl ?_
    refine S_getI hO dX2_evensLead_28 fl_X2_44 isSt_112.1 rfl ?_
    refine S_icmp_ge (tgt := 71) hO dX2_evensLead_31 (by decide) ?_ ?_
    · refine S_ (R_iload_n hO dX2_evensLead_34 rfl) ?_
      refine S_ (R_iload_n hO dX2_evensLead_35 rfl) ?_
      refine S_ (R_iconst (v := (2 : Int32)) hO dX2_evensLead_36 (by decide)) ?_
      refine S_ (R_irem hO dX2_evensLead_37 (by decide)) ?_
      refine S_if_ne (tgt := 53) hO dX2_evensLead_38 (by decide) ?_ ?_
      · refine S_ (R_aload_n hO dX2_evensLead_41 rfl) ?_
        refine S_getR hO dX2_evensLead_42 fl_X2_12 sh_111 rfl ?_
        refine S_getR hO dX2_evensLead_45 fl_X2_33 isSt_112.1 rfl ?_
        refine S_ (R_iload_n hO dX2_evensLead_48 rfl) ?_
        refine S_iald hO dX2_evensLead_49 isSt_112.2.2.2 ?_
        refine S_ (R_goto (tgt := 63) hO dX2_evensLead_50 (by decide)) ?_
        refine S_ (R_iadd hO dX2_evensLead_63) ?_
        refine S_istore_n (L2 := fun x1 => [(2, .int x1), (0, .ref 111), (3, .int m3)]) hO dX2_evensLead_64 (Nat.le_of_ble_eq_true rfl) (fun _ => rfl) (fun x1 => ?_)
        refine S_iinc (L2 := fun x2 => [(3, .int x2), (2, .int x1), (0, .ref 111)]) (v := (1 : Int32)) hO dX2_evensLead_65 rfl (by decide) (Nat.le_of_ble_eq_true rfl) (fun _ => rfl) (fun x2 => ?_)
        refine S_ (R_goto (tgt := 23) hO dX2_evensLead_68 (by decide)) ?_
        refine S_sub [2, 1, 0] rfl ?_
        exact ih x1 x2 s0
      · refine S_ (R_aload_n hO dX2_evensLead_53 rfl) ?_
        refine S_getR hO dX2_evensLead_54 fl_X2_12 sh_111 rfl ?_
        refine S_getR hO dX2_evensLead_57 fl_X2_33 isSt_112.1 rfl ?_
        refine S_ (R_iload_n hO dX2_evensLead_60 rfl) ?_
        refine S_iald hO dX2_evensLead_61 isSt_112.2.2.2 ?_
        refine S_ (R_ineg hO dX2_evensLead_62) ?_
        refine S_ (R_iadd hO dX2_evensLead_63) ?_
        refine S_istore_n (L2 := fun x3 => [(2, .int x3), (0, .ref 111), (3, .int m3)]) hO dX2_evensLead_64 (Nat.le_of_ble_eq_true rfl) (fun _ => rfl) (fun x3 => ?_)
        refine S_iinc (L2 := fun x4 => [(3, .int x4), (2, .int x3), (0, .ref 111)]) (v := (1 : Int32)) hO dX2_evensLead_65 rfl (by decide) (Nat.le_of_ble_eq_true rfl) (fun _ => rfl) (fun x4 => ?_)
        refine S_ (R_goto (tgt := 23) hO dX2_evensLead_68 (by decide)) ?_
        refine S_sub [2, 1, 0] rfl ?_
        exact ih x3 x4 s0
    · refine S_ (R_iload_n hO dX2_evensLead_71 rfl) ?_
      exact S_iret rfl hO hQ dX2_evensLead_72 rfl
def f_X2_evensLead (p1 : Int32) (s0 : Mem) : Option (Int32 × Mem) := bd (f_X5_take 112 116 s0) fun s2 => bd (f_X5_passAll 112 p1 s2) fun s4 => lt ((0 : Int32)) fun x5 => lt ((0 : Int32)) fun x6 => f_X2_evensLead_23 p1 FU x5 x6 s4
theorem cs_X2_evensLead (p1 : Int32) (s0 : Mem) : CS 5 MX2_evensLead [.ref 111, .int p1] s0 ((f_X2_evensLead p1 s0).map wI) := by
  refine CS.of (by decide +kernel) (Nat.le_of_ble_eq_true rfl) (fun X Z hO hQ => ?_)
  show SIM X MX2_evensLead wI Z 0 [(0, .ref 111), (1, .int p1)] [] s0 _
  unfold f_X2_evensLead
  refine S_ (R_aload_n hO dX2_evensLead_0 rfl) ?_
  refine S_getR hO dX2_evensLead_1 fl_X2_12 sh_111 rfl ?_
  refine S_ (R_aload_n hO dX2_evensLead_4 rfl) ?_
  refine S_getR hO dX2_evensLead_5 fl_X2_18 sh_111 rfl ?_
  refine S_callVV (rest := []) hO dX2_evensLead_8 (cs_X5_take 112 isSt_112 116 isSt_116 s0) (by omega) lk_X2_25 np_X5_take (rc_St isSt_112 rfl) rfl (Nat.le_of_ble_eq_true rfl) (fun s2 => ?_)
  refine S_ (R_aload_n hO dX2_evensLead_11 rfl) ?_
  refine S_getR hO dX2_evensLead_12 fl_X2_12 sh_111 rfl ?_
  refine S_ (R_iload_n hO dX2_evensLead_15 rfl) ?_
  refine S_callVV (rest := []) hO dX2_evensLead_16 (cs_X5_passAll 112 isSt_112 p1 s2) (by omega) lk_X2_29 np_X5_passAll (rc_St isSt_112 rfl) rfl (Nat.le_of_ble_eq_true rfl) (fun s4 => ?_)
  refine S_ (R_iconst (v := (0 : Int32)) hO dX2_evensLead_19 (by decide)) ?_
  refine S_istore_n (L2 := fun x5 => [(2, .int x5), (0, .ref 111), (1, .int p1)]) hO dX2_evensLead_20 (Nat.le_of_ble_eq_true rfl) (fun _ => rfl) (fun x5 => ?_)
  refine S_ (R_iconst (v := (0 : Int32)) hO dX2_evensLead_21 (by decide)) ?_
  refine S_istore_n (L2 := fun x6 => [(3, .int x6), (2, .int x5), (0, .ref 111), (1, .int p1)]) hO dX2_evensLead_22 (Nat.le_of_ble_eq_true rfl) (fun _ => rfl) (fun x6 => ?_)
  refine S_sub [2, 1, 0] rfl ?_
  exact w_X2_evensLead_23 hO hQ p1 FU x5 x6 s4
def f_X2_play_10 (p1 : Int32) (p2 : Int32) (p3 : Int32) (rec : Int32 → Int32 → Int32 → Mem → Option (Int32 × Mem)) (s0 : Mem) : Option (Int32 × Mem) := bd2 (f_X2_evensLead p3 s0) fun x1 s2 => some (x1, s2)
theorem w_X2_play_10 {X : CX} {Z : Option Value × Mem → Prop} {rn : Nat} (hO : OKX X false (6 + rn + 1) MX2_play) (hQ : OKS X Z) (p1 : Int32) (p2 : Int32) (p3 : Int32) (rn9 : Nat) (rec : Int32 → Int32 → Int32 → Mem → Option (Int32 × Mem)) (hrec : ∀ (p1 : Int32) (p2 : Int32) (p3 : Int32) (τ : Mem), CS (6 + rn) MX2_play [.ref 111, .int p1, .int p2, .int p3] τ ((rec p1 p2 p3 τ).map wI)) (s0 : Mem) : SIM X MX2_play wI Z 10 [(0, .ref 111), (3, .int p3)] [] s0 (f_X2_play_10 p1 p2 p3 rec s0) := by
  unfold f_X2_play_10
  refine S_ (R_aload_n hO dX2_play_10 rfl) ?_
  refine S_ (R_iload_n hO dX2_play_11 rfl) ?_
  refine S_callVI (rest := []) hO dX2_play_12 (cs_X2_evensLead p3 s0) (by omega) lk_X2_64 np_X2_evensLead (rc_111 rfl) rfl (Nat.le_of_ble_eq_true rfl) (fun x1 s2 => ?_)
  exact S_iret rfl hO hQ dX2_play_15 rfl
def f_X2_play_41 (p1 : Int32) (p2 : Int32) (p3 : Int32) (rec : Int32 → Int32 → Int32 → Mem → Option (Int32 × Mem)) : Nat → Int32 → Int32 → Mem → Option (Int32 × Mem)
  | 0, _, _, _ => none
  | n + 1, m5, m6, s0 => if (s0 116 3) ≤ m6 then (some (m5, s0)) else ing m6 8 <| lt (s0 (116 + 3) m6.toNatClampNeg) fun x1 => if x1 ≤ 0 then (lt (m6 + (2 : Int32)) fun x13 => f_X2_play_41 p1 p2 p3 rec n m5 x13 s0) else bd (f_X5_raise 116 m6 (s0 116 4) s0) fun s3 => bd2 (rec (p1 + (1 : Int32)) p2 p3 s3) fun x4 s5 => lt (x4) fun x6 => if (p1 - p1 / (2 : Int32) * (2 : Int32)) = 0 then (lt (imax m5 x6) fun x7 => ing m6 8 <| lt (st2 s5 (116 + 3) m6.toNatClampNeg x1) fun s8 => lt (m6 + (2 : Int32)) fun x9 => f_X2_play_41 p1 p2 p3 rec n x7 x9 s8) else lt (imin m5 x6) fun x10 => ing m6 8 <| lt (st2 s5 (116 + 3) m6.toNatClampNeg x1) fun s11 => lt (m6 + (2 : Int32)) fun x12 => f_X2_play_41 p1 p2 p3 rec n x10 x12 s11
theorem w_X2_play_41 {X : CX} {Z : Option Value × Mem → Prop} {rn : Nat} (hO : OKX X false (6 + rn + 1) MX2_play) (hQ : OKS X Z) (p1 : Int32) (p2 : Int32) (p3 : Int32) (rn9 : Nat) (rec : Int32 → Int32 → Int32 → Mem → Option (Int32 × Mem)) (hrec : ∀ (p1 : Int32) (p2 : Int32) (p3 : Int32) (τ : Mem), CS (6 + rn) MX2_play [.ref 111, .int p1, .int p2, .int p3] τ ((rec p1 p2 p3 τ).map wI)) : ∀ (n : Nat) (m5 : Int32) (m6 : Int32) (s0 : Mem), SIM X MX2_play wI Z 41 [(0, .ref 111), (1, .int p1), (2, .int p2), (3, .int p3), (4, .ref (116 + 3)), (5, .int m5), (6, .int m6)] [] s0 (f_X2_play_41 p1 p2 p3 rec n m5 m6 s0) := by
  intro n
  induction n with
  | zero => intros; exact S_none
  | succ n ih =>
    intro m5 m6 s0
    rw [f_X2_play_41]
    refine S_ (R_iload hO dX2_play_41 rfl) ?_
    refine S_ (R_aload_n hO dX2_play_43 rfl) ?_
    refine S_getR hO dX2_play_44 fl_X2_18 sh_111 rfl ?_
    refine S_getI hO dX2_play_47 fl_X2_44 isSt_116.1 rfl ?_
    refine S_icmp_ge (tgt := 130) hO dX2_play_50 (by decide) ?_ ?_
    · refine S_ (R_aload hO dX2_play_53 rfl) ?_
      refine S_ (R_iload hO dX2_play_55 rfl) ?_
      refine S_iald hO dX2_play_57 isSt_116.2.2.2 ?_
      refine S_istore (L2 := fun x1 => [(7, .int x1), (0, .ref 111), (1, .int p1), (2, .int p2), (3, .int p3), (4, .ref (116 + 3)), (5, .int m5), (6, .int m6)]) hO dX2_play_58 (Nat.le_of_ble_eq_true rfl) (fun _ => rfl) (fun x1 => ?_)
      refine S_ (R_iload hO dX2_play_60 rfl) ?_
      refine S_if_le (tgt := 124) hO dX2_play_62 (by decide) ?_ ?_
      · refine S_ (R_aload_n hO dX2_play_65 rfl) ?_
        refine S_getR hO dX2_play_66 fl_X2_18 sh_111 rfl ?_
        refine S_ (R_iload hO dX2_play_69 rfl) ?_
        refine S_ (R_aload_n hO dX2_play_71 rfl) ?_
        refine S_getR hO dX2_play_72 fl_X2_18 sh_111 rfl ?_
        refine S_getI hO dX2_play_75 fl_X2_71 isSt_116.1 rfl ?_
        refine S_callVV (rest := []) hO dX2_play_78 (cs_X5_raise 116 isSt_116 m6 (s0 116 4) s0) (by omega) lk_X2_74 np_X5_raise (rc_St isSt_116 rfl) rfl (Nat.le_of_ble_eq_true rfl) (fun s3 => ?_)
        refine S_ (R_aload_n hO dX2_play_81 rfl) ?_
        refine S_ (R_iload_n hO dX2_play_82 rfl) ?_
        refine S_ (R_iconst (v := (1 : Int32)) hO dX2_play_83 (by decide)) ?_
        refine S_ (R_iadd hO dX2_play_84) ?_
        refine S_ (R_iload_n hO dX2_play_85 rfl) ?_
        refine S_ (R_iload_n hO dX2_play_86 rfl) ?_
        refine S_callSI (rest := []) hO dX2_play_87 (hrec (p1 + (1 : Int32)) p2 p3 s3) (by omega) lk_X2_67 np_X2_play rfl (Nat.le_of_ble_eq_true rfl) (fun x4 s5 => ?_)
        refine S_istore (L2 := fun x6 => [(8, .int x6), (7, .int x1), (0, .ref 111), (1, .int p1), (2, .int p2), (3, .int p3), (4, .ref (116 + 3)), (5, .int m5), (6, .int m6)]) hO dX2_play_90 (Nat.le_of_ble_eq_true rfl) (fun _ => rfl) (fun x6 => ?_)
        refine S_ (R_iload_n hO dX2_play_92 rfl) ?_
        refine S_ (R_iconst (v := (2 : Int32)) hO dX2_play_93 (by decide)) ?_
        refine S_ (R_irem hO dX2_play_94 (by decide)) ?_
        refine S_if_ne (tgt := 108) hO dX2_play_95 (by decide) ?_ ?_
        · refine S_ (R_iload hO dX2_play_98 rfl) ?_
          refine S_ (R_iload hO dX2_play_100 rfl) ?_
          refine S_max hO dX2_play_102 (by omega) kmm_max_X2_78 kw_max (Nat.le_of_ble_eq_true rfl) ?_
          refine S_ (R_goto (tgt := 115) hO dX2_play_105 (by decide)) ?_
          refine S_istore (L2 := fun x7 => [(5, .int x7), (8, .int x6), (7, .int x1), (0, .ref 111), (1, .int p1), (2, .int p2), (3, .int p3), (4, .ref (116 + 3)), (6, .int m6)]) hO dX2_play_115 (Nat.le_of_ble_eq_true rfl) (fun _ => rfl) (fun x7 => ?_)
          refine S_ (R_aload hO dX2_play_117 rfl) ?_
          refine S_ (R_iload hO dX2_play_119 rfl) ?_
          refine S_ (R_iload hO dX2_play_121 rfl) ?_
          refine S_iast hO dX2_play_123 isSt_116.2.2.2 (fun s8 => ?_)
          refine S_iinc (L2 := fun x9 => [(6, .int x9), (5, .int x7), (8, .int x6), (7, .int x1), (0, .ref 111), (1, .int p1), (2, .int p2), (3, .int p3), (4, .ref (116 + 3))]) (v := (2 : Int32)) hO dX2_play_124 rfl (by decide) (Nat.le_of_ble_eq_true rfl) (fun _ => rfl) (fun x9 => ?_)
          refine S_ (R_goto (tgt := 41) hO dX2_play_127 (by decide)) ?_
          refine S_sub [4, 5, 6, 7, 8, 1, 0] rfl ?_
          exact ih x7 x9 s8
        · refine S_ (R_iload hO dX2_play_108 rfl) ?_
          refine S_ (R_iload hO dX2_play_110 rfl) ?_
          refine S_min hO dX2_play_112 (by omega) kmm_min_X2_84 kw_min (Nat.le_of_ble_eq_true rfl) ?_
          refine S_istore (L2 := fun x10 => [(5, .int x10), (8, .int x6), (7, .int x1), (0, .ref 111), (1, .int p1), (2, .int p2), (3, .int p3), (4, .ref (116 + 3)), (6, .int m6)]) hO dX2_play_115 (Nat.le_of_ble_eq_true rfl) (fun _ => rfl) (fun x10 => ?_)
          refine S_ (R_aload hO dX2_play_117 rfl) ?_
          refine S_ (R_iload hO dX2_play_119 rfl) ?_
          refine S_ (R_iload hO dX2_play_121 rfl) ?_
          refine S_iast hO dX2_play_123 isSt_116.2.2.2 (fun s11 => ?_)
          refine S_iinc (L2 := fun x12 => [(6, .int x12), (5, .int x10), (8, .int x6), (7, .int x1), (0, .ref 111), (1, .int p1), (2, .int p2), (3, .int p3), (4, .ref (116 + 3))]) (v := (2 : Int32)) hO dX2_play_124 rfl (by decide) (Nat.le_of_ble_eq_true rfl) (fun _ => rfl) (fun x12 => ?_)
          refine S_ (R_goto (tgt := 41) hO dX2_play_127 (by decide)) ?_
          refine S_sub [4, 5, 6, 7, 8, 1, 0] rfl ?_
          exact ih x10 x12 s11
      · refine S_iinc (L2 := fun x13 => [(6, .int x13), (7, .int x1), (0, .ref 111), (1, .int p1), (2, .int p2), (3, .int p3), (4, .ref (116 + 3)), (5, .int m5)]) (v := (2 : Int32)) hO dX2_play_124 rfl (by decide) (Nat.le_of_ble_eq_true rfl) (fun _ => rfl) (fun x13 => ?_)
        refine S_ (R_goto (tgt := 41) hO dX2_play_127 (by decide)) ?_
        refine S_sub [2, 3, 4, 5, 6, 7, 0] rfl ?_
        exact ih m5 x13 s0
    · refine S_ (R_iload hO dX2_play_130 rfl) ?_
      exact S_iret rfl hO hQ dX2_play_132 rfl
def f_X2_play : Nat → Int32 → Int32 → Int32 → Mem → Option (Int32 × Mem)
  | 0, _, _, _, _ => none
  | rn + 1, p1, p2, p3, s0 => (fun (rec : Int32 → Int32 → Int32 → Mem → Option (Int32 × Mem)) => if p2 ≤ p1 then (f_X2_play_10 p1 p2 p3 rec s0) else if p1 < (4 : Int32) then (bd2 (rec (p1 + (1 : Int32)) p2 p3 s0) fun x1 s2 => lt (x1) fun x3 => lt (p1 - p1 / (2 : Int32) * (2 : Int32)) fun x4 => f_X2_play_41 p1 p2 p3 rec FU x3 x4 s2) else f_X2_play_10 p1 p2 p3 rec s0) (f_X2_play rn)
theorem wm_X2_play {rn : Nat} (rec : Int32 → Int32 → Int32 → Mem → Option (Int32 × Mem)) (hrec : ∀ (p1 : Int32) (p2 : Int32) (p3 : Int32) (τ : Mem), CS (6 + rn) MX2_play [.ref 111, .int p1, .int p2, .int p3] τ ((rec p1 p2 p3 τ).map wI)) (p1 : Int32) (p2 : Int32) (p3 : Int32) (s0 : Mem) : CS (6 + rn + 1) MX2_play [.ref 111, .int p1, .int p2, .int p3] s0 ((if p2 ≤ p1 then (f_X2_play_10 p1 p2 p3 rec s0) else if p1 < (4 : Int32) then (bd2 (rec (p1 + (1 : Int32)) p2 p3 s0) fun x1 s2 => lt (x1) fun x3 => lt (p1 - p1 / (2 : Int32) * (2 : Int32)) fun x4 => f_X2_play_41 p1 p2 p3 rec FU x3 x4 s2) else f_X2_play_10 p1 p2 p3 rec s0 : Option (Int32 × Mem)).map wI) := by
  refine CS.of (by decide +kernel) (Nat.le_of_ble_eq_true rfl) (fun X Z hO hQ => ?_)
  show SIM X MX2_play wI Z 0 [(0, .ref 111), (1, .int p1), (2, .int p2), (3, .int p3)] [] s0 _
  refine S_ (R_iload_n hO dX2_play_0 rfl) ?_
  refine S_ (R_iload_n hO dX2_play_1 rfl) ?_
  refine S_icmp_ge (tgt := 10) hO dX2_play_2 (by decide) ?_ ?_
  · refine S_ (R_iload_n hO dX2_play_5 rfl) ?_
    refine S_ (R_iconst (v := (4 : Int32)) hO dX2_play_6 (by decide)) ?_
    refine S_icmp_lt (tgt := 16) hO dX2_play_7 (by decide) ?_ ?_
    · refine S_sub [0, 3] rfl ?_
      exact w_X2_play_10 hO hQ p1 p2 p3 rn rec hrec s0
    · refine S_ (R_aload_n hO dX2_play_16 rfl) ?_
      refine S_getR hO dX2_play_17 fl_X2_18 sh_111 rfl ?_
      refine S_getR hO dX2_play_20 fl_X2_33 isSt_116.1 rfl ?_
      refine S_ (R_astore (L2 := [(4, .ref (116 + 3)), (0, .ref 111), (1, .int p1), (2, .int p2), (3, .int p3)]) hO dX2_play_23 (Nat.le_of_ble_eq_true rfl) rfl) ?_
      refine S_ (R_aload_n hO dX2_play_25 rfl) ?_
      refine S_ (R_iload_n hO dX2_play_26 rfl) ?_
      refine S_ (R_iconst (v := (1 : Int32)) hO dX2_play_27 (by decide)) ?_
      refine S_ (R_iadd hO dX2_play_28) ?_
      refine S_ (R_iload_n hO dX2_play_29 rfl) ?_
      refine S_ (R_iload_n hO dX2_play_30 rfl) ?_
      refine S_callSI (rest := []) hO dX2_play_31 (hrec (p1 + (1 : Int32)) p2 p3 s0) (by omega) lk_X2_67 np_X2_play rfl (Nat.le_of_ble_eq_true rfl) (fun x1 s2 => ?_)
      refine S_istore (L2 := fun x3 => [(5, .int x3), (4, .ref (116 + 3)), (0, .ref 111), (1, .int p1), (2, .int p2), (3, .int p3)]) hO dX2_play_34 (Nat.le_of_ble_eq_true rfl) (fun _ => rfl) (fun x3 => ?_)
      refine S_ (R_iload_n hO dX2_play_36 rfl) ?_
      refine S_ (R_iconst (v := (2 : Int32)) hO dX2_play_37 (by decide)) ?_
      refine S_ (R_irem hO dX2_play_38 (by decide)) ?_
      refine S_istore (L2 := fun x4 => [(6, .int x4), (5, .int x3), (4, .ref (116 + 3)), (0, .ref 111), (1, .int p1), (2, .int p2), (3, .int p3)]) hO dX2_play_39 (Nat.le_of_ble_eq_true rfl) (fun _ => rfl) (fun x4 => ?_)
      refine S_sub [3, 4, 5, 6, 2, 1, 0] rfl ?_
      exact w_X2_play_41 hO hQ p1 p2 p3 rn rec hrec FU x3 x4 s2
  · refine S_sub [0, 3] rfl ?_
    exact w_X2_play_10 hO hQ p1 p2 p3 rn rec hrec s0
theorem cs_X2_play : ∀ (rn : Nat) (p1 : Int32) (p2 : Int32) (p3 : Int32) (s0 : Mem), CS (6 + rn) MX2_play [.ref 111, .int p1, .int p2, .int p3] s0 ((f_X2_play rn p1 p2 p3 s0).map wI) := by
  intro rn
  induction rn with
  | zero => intros; exact CS.none_of
  | succ rn ih =>
    intro p1 p2 p3 s0
    exact wm_X2_play (f_X2_play rn) ih p1 p2 p3 s0
def f_X2_listen (b : Nat) (p2 : Int32) (p3 : Int32) (s0 : Mem) : Option (Mem) := lt (st2 s0 111 3 p3) fun s1 => cpg s1 b 120 p2 (0 : Int32) p3 40 12 fun s2 => some s2
theorem cs_X2_listen (b : Nat) (hb : sh[b]? = some (20, nn 40)) (p2 : Int32) (p3 : Int32) (s0 : Mem) : CS 2 MX2_listen [.ref 111, .ref b, .int p2, .int p3] s0 ((f_X2_listen b p2 p3 s0).map wV) := by
  refine CS.of (by decide +kernel) (Nat.le_of_ble_eq_true rfl) (fun X Z hO hQ => ?_)
  show SIM X MX2_listen wV Z 0 [(0, .ref 111), (1, .ref b), (2, .int p2), (3, .int p3)] [] s0 _
  unfold f_X2_listen
  refine S_ (R_aload_n hO dX2_listen_0 rfl) ?_
  refine S_ (R_iload_n hO dX2_listen_1 rfl) ?_
  refine S_put hO dX2_listen_2 fl_X2_87 sh_111 rfl (fun s1 => ?_)
  refine S_ (R_aload_n hO dX2_listen_5 rfl) ?_
  refine S_ (R_iload_n hO dX2_listen_6 rfl) ?_
  refine S_ (R_aload_n hO dX2_listen_7 rfl) ?_
  refine S_getR hO dX2_listen_8 fl_X2_21 sh_111 rfl ?_
  refine S_ (R_iconst (v := (0 : Int32)) hO dX2_listen_11 (by decide)) ?_
  refine S_ (R_iload_n hO dX2_listen_12 rfl) ?_
  refine S_copy hO dX2_listen_13 (by omega) kcp_X2_90 kw_copy hb sh_120 (Nat.le_of_ble_eq_true rfl) (fun s2 => ?_)
  exact S_vret rfl hO hQ dX2_listen_16 rfl
def f_X2_isHeard_2 (p1 : Int32) : Nat → Int32 → Mem → Option (Int32 × Mem)
  | 0, _, _ => none
  | n + 1, m2, s0 => if (s0 111 3) ≤ m2 then (some ((1 : Int32), s0)) else bd (f_X5_pass 112 s0) fun s2 => ing p1 8 <| ing m2 12 <| if (s2 (112 + 3) p1.toNatClampNeg) = (s2 120 m2.toNatClampNeg) then (lt (m2 + (1 : Int32)) fun x3 => f_X2_isHeard_2 p1 n x3 s2) else some ((0 : Int32), s2)
theorem w_X2_isHeard_2 {X : CX} {Z : Option Value × Mem → Prop} (hO : OKX X false 4 MX2_isHeard) (hQ : OKS X Z) (p1 : Int32) : ∀ (n : Nat) (m2 : Int32) (s0 : Mem), SIM X MX2_isHeard wI Z 2 [(0, .ref 111), (1, .int p1), (2, .int m2)] [] s0 (f_X2_isHeard_2 p1 n m2 s0) := by
  intro n
  induction n with
  | zero => intros; exact S_none
  | succ n ih =>
    intro m2 s0
    rw [f_X2_isHeard_2]
    refine S_ (R_iload_n hO dX2_isHeard_2 rfl) ?_
    refine S_ (R_aload_n hO dX2_isHeard_3 rfl) ?_
    refine S_getI hO dX2_isHeard_4 fl_X2_87 sh_111 rfl ?_
    refine S_icmp_ge (tgt := 43) hO dX2_isHeard_7 (by decide) ?_ ?_
    · refine S_ (R_aload_n hO dX2_isHeard_10 rfl) ?_
      refine S_getR hO dX2_isHeard_11 fl_X2_12 sh_111 rfl ?_
      refine S_callVV (rest := []) hO dX2_isHeard_14 (cs_X5_pass 112 isSt_112 s0) (by omega) lk_X2_40 np_X5_pass (rc_St isSt_112 rfl) rfl (Nat.le_of_ble_eq_true rfl) (fun s2 => ?_)
      refine S_ (R_aload_n hO dX2_isHeard_17 rfl) ?_
      refine S_getR hO dX2_isHeard_18 fl_X2_12 sh_111 rfl ?_
      refine S_getR hO dX2_isHeard_21 fl_X2_33 isSt_112.1 rfl ?_
      refine S_ (R_iload_n hO dX2_isHeard_24 rfl) ?_
      refine S_iald hO dX2_isHeard_25 isSt_112.2.2.2 ?_
      refine S_ (R_aload_n hO dX2_isHeard_26 rfl) ?_
      refine S_getR hO dX2_isHeard_27 fl_X2_21 sh_111 rfl ?_
      refine S_ (R_iload_n hO dX2_isHeard_30 rfl) ?_
      refine S_iald hO dX2_isHeard_31 sh_120 ?_
      refine S_icmp_eq (tgt := 37) hO dX2_isHeard_32 (by decide) ?_ ?_
      · refine S_ (R_iconst (v := (0 : Int32)) hO dX2_isHeard_35 (by decide)) ?_
        exact S_zret0 rfl hO hQ dX2_isHeard_36 rfl (by decide)
      · refine S_iinc (L2 := fun x3 => [(2, .int x3), (0, .ref 111), (1, .int p1)]) (v := (1 : Int32)) hO dX2_isHeard_37 rfl (by decide) (Nat.le_of_ble_eq_true rfl) (fun _ => rfl) (fun x3 => ?_)
        refine S_ (R_goto (tgt := 2) hO dX2_isHeard_40 (by decide)) ?_
        refine S_sub [1, 2, 0] rfl ?_
        exact ih x3 s2
    · refine S_ (R_iconst (v := (1 : Int32)) hO dX2_isHeard_43 (by decide)) ?_
      exact S_zret0 rfl hO hQ dX2_isHeard_44 rfl (by decide)
def f_X2_isHeard (p1 : Int32) (s0 : Mem) : Option (Int32 × Mem) := lt ((0 : Int32)) fun x1 => f_X2_isHeard_2 p1 FU x1 s0
theorem cs_X2_isHeard (p1 : Int32) (s0 : Mem) : CS 4 MX2_isHeard [.ref 111, .int p1] s0 ((f_X2_isHeard p1 s0).map wI) := by
  refine CS.of (by decide +kernel) (Nat.le_of_ble_eq_true rfl) (fun X Z hO hQ => ?_)
  show SIM X MX2_isHeard wI Z 0 [(0, .ref 111), (1, .int p1)] [] s0 _
  unfold f_X2_isHeard
  refine S_ (R_iconst (v := (0 : Int32)) hO dX2_isHeard_0 (by decide)) ?_
  refine S_istore_n (L2 := fun x1 => [(2, .int x1), (0, .ref 111), (1, .int p1)]) hO dX2_isHeard_1 (Nat.le_of_ble_eq_true rfl) (fun _ => rfl) (fun x1 => ?_)
  refine S_sub [1, 2, 0] rfl ?_
  exact w_X2_isHeard_2 hO hQ p1 FU x1 s0
def f_X2_kindsHeard_5 (b : Nat) (p2 : Int32) : Nat → Int32 → Int32 → Mem → Option (Int32 × Mem)
  | 0, _, _, _ => none
  | n + 1, m3, m4, s0 => if (5 : Int32) < m4 then (some (m3, s0)) else bd (f_X5_take 112 b s0) fun s2 => ing p2 8 <| lt (st2 s2 (112 + 1) p2.toNatClampNeg m4) fun s3 => bd2 (f_X2_isHeard p2 s3) fun x4 s5 => if x4 = 0 then (lt (m3 ||| (0 : Int32)) fun x8 => lt (m4 + (1 : Int32)) fun x9 => f_X2_kindsHeard_5 b p2 n x8 x9 s5) else lt (m3 ||| ((1 : Int32) <<< (m4 &&& 31))) fun x6 => lt (m4 + (1 : Int32)) fun x7 => f_X2_kindsHeard_5 b p2 n x6 x7 s5
theorem w_X2_kindsHeard_5 {X : CX} {Z : Option Value × Mem → Prop} (hO : OKX X false 5 MX2_kindsHeard) (hQ : OKS X Z) (b : Nat) (hb : isSt b) (p2 : Int32) : ∀ (n : Nat) (m3 : Int32) (m4 : Int32) (s0 : Mem), SIM X MX2_kindsHeard wI Z 5 [(0, .ref 111), (1, .ref b), (2, .int p2), (3, .int m3), (4, .int m4)] [] s0 (f_X2_kindsHeard_5 b p2 n m3 m4 s0) := by
  intro n
  induction n with
  | zero => intros; exact S_none
  | succ n ih =>
    intro m3 m4 s0
    rw [f_X2_kindsHeard_5]
    refine S_ (R_iload hO dX2_kindsHeard_5 rfl) ?_
    refine S_ (R_iconst (v := (5 : Int32)) hO dX2_kindsHeard_7 (by decide)) ?_
    refine S_icmp_gt (tgt := 55) hO dX2_kindsHeard_8 (by decide) ?_ ?_
    · refine S_ (R_aload_n hO dX2_kindsHeard_11 rfl) ?_
      refine S_getR hO dX2_kindsHeard_12 fl_X2_12 sh_111 rfl ?_
      refine S_ (R_aload_n hO dX2_kindsHeard_15 rfl) ?_
      refine S_callVV (rest := []) hO dX2_kindsHeard_16 (cs_X5_take 112 isSt_112 b hb s0) (by omega) lk_X2_25 np_X5_take (rc_St isSt_112 rfl) rfl (Nat.le_of_ble_eq_true rfl) (fun s2 => ?_)
      refine S_ (R_aload_n hO dX2_kindsHeard_19 rfl) ?_
      refine S_getR hO dX2_kindsHeard_20 fl_X2_12 sh_111 rfl ?_
      refine S_getR hO dX2_kindsHeard_23 fl_X2_96 isSt_112.1 rfl ?_
      refine S_ (R_iload_n hO dX2_kindsHeard_26 rfl) ?_
      refine S_ (R_iload hO dX2_kindsHeard_27 rfl) ?_
      refine S_iast hO dX2_kindsHeard_29 isSt_112.2.1 (fun s3 => ?_)
      refine S_ (R_iload_n hO dX2_kindsHeard_30 rfl) ?_
      refine S_ (R_aload_n hO dX2_kindsHeard_31 rfl) ?_
      refine S_ (R_iload_n hO dX2_kindsHeard_32 rfl) ?_
      refine S_callVI (rest := [.int m3]) hO dX2_kindsHeard_33 (cs_X2_isHeard p2 s3) (by omega) lk_X2_99 np_X2_isHeard (rc_111 rfl) rfl (Nat.le_of_ble_eq_true rfl) (fun x4 s5 => ?_)
      refine S_if_eq (tgt := 46) hO dX2_kindsHeard_36 (by decide) ?_ ?_
      · refine S_ (R_iconst (v := (1 : Int32)) hO dX2_kindsHeard_39 (by decide)) ?_
        refine S_ (R_iload hO dX2_kindsHeard_40 rfl) ?_
        refine S_ (R_ishl hO dX2_kindsHeard_42) ?_
        refine S_ (R_goto (tgt := 47) hO dX2_kindsHeard_43 (by decide)) ?_
        refine S_ (R_ior hO dX2_kindsHeard_47) ?_
        refine S_istore_n (L2 := fun x6 => [(3, .int x6), (0, .ref 111), (1, .ref b), (2, .int p2), (4, .int m4)]) hO dX2_kindsHeard_48 (Nat.le_of_ble_eq_true rfl) (fun _ => rfl) (fun x6 => ?_)
        refine S_iinc (L2 := fun x7 => [(4, .int x7), (3, .int x6), (0, .ref 111), (1, .ref b), (2, .int p2)]) (v := (1 : Int32)) hO dX2_kindsHeard_49 rfl (by decide) (Nat.le_of_ble_eq_true rfl) (fun _ => rfl) (fun x7 => ?_)
        refine S_ (R_goto (tgt := 5) hO dX2_kindsHeard_52 (by decide)) ?_
        refine S_sub [2, 3, 4, 1, 0] rfl ?_
        exact ih x6 x7 s5
      · refine S_ (R_iconst (v := (0 : Int32)) hO dX2_kindsHeard_46 (by decide)) ?_
        refine S_ (R_ior hO dX2_kindsHeard_47) ?_
        refine S_istore_n (L2 := fun x8 => [(3, .int x8), (0, .ref 111), (1, .ref b), (2, .int p2), (4, .int m4)]) hO dX2_kindsHeard_48 (Nat.le_of_ble_eq_true rfl) (fun _ => rfl) (fun x8 => ?_)
        refine S_iinc (L2 := fun x9 => [(4, .int x9), (3, .int x8), (0, .ref 111), (1, .ref b), (2, .int p2)]) (v := (1 : Int32)) hO dX2_kindsHeard_49 rfl (by decide) (Nat.le_of_ble_eq_true rfl) (fun _ => rfl) (fun x9 => ?_)
        refine S_ (R_goto (tgt := 5) hO dX2_kindsHeard_52 (by decide)) ?_
        refine S_sub [2, 3, 4, 1, 0] rfl ?_
        exact ih x8 x9 s5
    · refine S_ (R_iload_n hO dX2_kindsHeard_55 rfl) ?_
      exact S_iret rfl hO hQ dX2_kindsHeard_56 rfl
def f_X2_kindsHeard (b : Nat) (p2 : Int32) (s0 : Mem) : Option (Int32 × Mem) := lt ((0 : Int32)) fun x1 => lt ((1 : Int32)) fun x2 => f_X2_kindsHeard_5 b p2 FU x1 x2 s0
theorem cs_X2_kindsHeard (b : Nat) (hb : isSt b) (p2 : Int32) (s0 : Mem) : CS 5 MX2_kindsHeard [.ref 111, .ref b, .int p2] s0 ((f_X2_kindsHeard b p2 s0).map wI) := by
  refine CS.of (by decide +kernel) (Nat.le_of_ble_eq_true rfl) (fun X Z hO hQ => ?_)
  show SIM X MX2_kindsHeard wI Z 0 [(0, .ref 111), (1, .ref b), (2, .int p2)] [] s0 _
  unfold f_X2_kindsHeard
  refine S_ (R_iconst (v := (0 : Int32)) hO dX2_kindsHeard_0 (by decide)) ?_
  refine S_istore_n (L2 := fun x1 => [(3, .int x1), (0, .ref 111), (1, .ref b), (2, .int p2)]) hO dX2_kindsHeard_1 (Nat.le_of_ble_eq_true rfl) (fun _ => rfl) (fun x1 => ?_)
  refine S_ (R_iconst (v := (1 : Int32)) hO dX2_kindsHeard_2 (by decide)) ?_
  refine S_istore (L2 := fun x2 => [(4, .int x2), (3, .int x1), (0, .ref 111), (1, .ref b), (2, .int p2)]) hO dX2_kindsHeard_3 (Nat.le_of_ble_eq_true rfl) (fun _ => rfl) (fun x2 => ?_)
  refine S_sub [2, 3, 4, 1, 0] rfl ?_
  exact w_X2_kindsHeard_5 hO hQ b hb p2 FU x1 x2 s0
def f_X2_rubsHeard_5 (b : Nat) (p2 : Int32) : Nat → Int32 → Int32 → Mem → Option (Int32 × Mem)
  | 0, _, _, _ => none
  | n + 1, m3, m4, s0 => if (9 : Int32) < m4 then (some (m3, s0)) else bd (f_X5_take 112 b s0) fun s2 => ing p2 8 <| lt (st2 s2 (112 + 2) p2.toNatClampNeg m4) fun s3 => bd2 (f_X2_isHeard p2 s3) fun x4 s5 => if x4 = 0 then (lt (m3 ||| (0 : Int32)) fun x8 => lt (m4 + (1 : Int32)) fun x9 => f_X2_rubsHeard_5 b p2 n x8 x9 s5) else lt (m3 ||| ((1 : Int32) <<< (m4 &&& 31))) fun x6 => lt (m4 + (1 : Int32)) fun x7 => f_X2_rubsHeard_5 b p2 n x6 x7 s5
theorem w_X2_rubsHeard_5 {X : CX} {Z : Option Value × Mem → Prop} (hO : OKX X false 5 MX2_rubsHeard) (hQ : OKS X Z) (b : Nat) (hb : isSt b) (p2 : Int32) : ∀ (n : Nat) (m3 : Int32) (m4 : Int32) (s0 : Mem), SIM X MX2_rubsHeard wI Z 5 [(0, .ref 111), (1, .ref b), (2, .int p2), (3, .int m3), (4, .int m4)] [] s0 (f_X2_rubsHeard_5 b p2 n m3 m4 s0) := by
  intro n
  induction n with
  | zero => intros; exact S_none
  | succ n ih =>
    intro m3 m4 s0
    rw [f_X2_rubsHeard_5]
    refine S_ (R_iload hO dX2_rubsHeard_5 rfl) ?_
    refine S_ (R_bipush (v := (9 : Int32)) hO dX2_rubsHeard_7 (by decide)) ?_
    refine S_icmp_gt (tgt := 56) hO dX2_rubsHeard_9 (by decide) ?_ ?_
    · refine S_ (R_aload_n hO dX2_rubsHeard_12 rfl) ?_
      refine S_getR hO dX2_rubsHeard_13 fl_X2_12 sh_111 rfl ?_
      refine S_ (R_aload_n hO dX2_rubsHeard_16 rfl) ?_
      refine S_callVV (rest := []) hO dX2_rubsHeard_17 (cs_X5_take 112 isSt_112 b hb s0) (by omega) lk_X2_25 np_X5_take (rc_St isSt_112 rfl) rfl (Nat.le_of_ble_eq_true rfl) (fun s2 => ?_)
      refine S_ (R_aload_n hO dX2_rubsHeard_20 rfl) ?_
      refine S_getR hO dX2_rubsHeard_21 fl_X2_12 sh_111 rfl ?_
      refine S_getR hO dX2_rubsHeard_24 fl_X2_102 isSt_112.1 rfl ?_
      refine S_ (R_iload_n hO dX2_rubsHeard_27 rfl) ?_
      refine S_ (R_iload hO dX2_rubsHeard_28 rfl) ?_
      refine S_iast hO dX2_rubsHeard_30 isSt_112.2.2.1 (fun s3 => ?_)
      refine S_ (R_iload_n hO dX2_rubsHeard_31 rfl) ?_
      refine S_ (R_aload_n hO dX2_rubsHeard_32 rfl) ?_
      refine S_ (R_iload_n hO dX2_rubsHeard_33 rfl) ?_
      refine S_callVI (rest := [.int m3]) hO dX2_rubsHeard_34 (cs_X2_isHeard p2 s3) (by omega) lk_X2_99 np_X2_isHeard (rc_111 rfl) rfl (Nat.le_of_ble_eq_true rfl) (fun x4 s5 => ?_)
      refine S_if_eq (tgt := 47) hO dX2_rubsHeard_37 (by decide) ?_ ?_
      · refine S_ (R_iconst (v := (1 : Int32)) hO dX2_rubsHeard_40 (by decide)) ?_
        refine S_ (R_iload hO dX2_rubsHeard_41 rfl) ?_
        refine S_ (R_ishl hO dX2_rubsHeard_43) ?_
        refine S_ (R_goto (tgt := 48) hO dX2_rubsHeard_44 (by decide)) ?_
        refine S_ (R_ior hO dX2_rubsHeard_48) ?_
        refine S_istore_n (L2 := fun x6 => [(3, .int x6), (0, .ref 111), (1, .ref b), (2, .int p2), (4, .int m4)]) hO dX2_rubsHeard_49 (Nat.le_of_ble_eq_true rfl) (fun _ => rfl) (fun x6 => ?_)
        refine S_iinc (L2 := fun x7 => [(4, .int x7), (3, .int x6), (0, .ref 111), (1, .ref b), (2, .int p2)]) (v := (1 : Int32)) hO dX2_rubsHeard_50 rfl (by decide) (Nat.le_of_ble_eq_true rfl) (fun _ => rfl) (fun x7 => ?_)
        refine S_ (R_goto (tgt := 5) hO dX2_rubsHeard_53 (by decide)) ?_
        refine S_sub [2, 3, 4, 1, 0] rfl ?_
        exact ih x6 x7 s5
      · refine S_ (R_iconst (v := (0 : Int32)) hO dX2_rubsHeard_47 (by decide)) ?_
        refine S_ (R_ior hO dX2_rubsHeard_48) ?_
        refine S_istore_n (L2 := fun x8 => [(3, .int x8), (0, .ref 111), (1, .ref b), (2, .int p2), (4, .int m4)]) hO dX2_rubsHeard_49 (Nat.le_of_ble_eq_true rfl) (fun _ => rfl) (fun x8 => ?_)
        refine S_iinc (L2 := fun x9 => [(4, .int x9), (3, .int x8), (0, .ref 111), (1, .ref b), (2, .int p2)]) (v := (1 : Int32)) hO dX2_rubsHeard_50 rfl (by decide) (Nat.le_of_ble_eq_true rfl) (fun _ => rfl) (fun x9 => ?_)
        refine S_ (R_goto (tgt := 5) hO dX2_rubsHeard_53 (by decide)) ?_
        refine S_sub [2, 3, 4, 1, 0] rfl ?_
        exact ih x8 x9 s5
    · refine S_ (R_iload_n hO dX2_rubsHeard_56 rfl) ?_
      exact S_iret rfl hO hQ dX2_rubsHeard_57 rfl
def f_X2_rubsHeard (b : Nat) (p2 : Int32) (s0 : Mem) : Option (Int32 × Mem) := lt ((0 : Int32)) fun x1 => lt ((1 : Int32)) fun x2 => f_X2_rubsHeard_5 b p2 FU x1 x2 s0
theorem cs_X2_rubsHeard (b : Nat) (hb : isSt b) (p2 : Int32) (s0 : Mem) : CS 5 MX2_rubsHeard [.ref 111, .ref b, .int p2] s0 ((f_X2_rubsHeard b p2 s0).map wI) := by
  refine CS.of (by decide +kernel) (Nat.le_of_ble_eq_true rfl) (fun X Z hO hQ => ?_)
  show SIM X MX2_rubsHeard wI Z 0 [(0, .ref 111), (1, .ref b), (2, .int p2)] [] s0 _
  unfold f_X2_rubsHeard
  refine S_ (R_iconst (v := (0 : Int32)) hO dX2_rubsHeard_0 (by decide)) ?_
  refine S_istore_n (L2 := fun x1 => [(3, .int x1), (0, .ref 111), (1, .ref b), (2, .int p2)]) hO dX2_rubsHeard_1 (Nat.le_of_ble_eq_true rfl) (fun _ => rfl) (fun x1 => ?_)
  refine S_ (R_iconst (v := (1 : Int32)) hO dX2_rubsHeard_2 (by decide)) ?_
  refine S_istore (L2 := fun x2 => [(4, .int x2), (3, .int x1), (0, .ref 111), (1, .ref b), (2, .int p2)]) hO dX2_rubsHeard_3 (Nat.le_of_ble_eq_true rfl) (fun _ => rfl) (fun x2 => ?_)
  refine S_sub [2, 3, 4, 1, 0] rfl ?_
  exact w_X2_rubsHeard_5 hO hQ b hb p2 FU x1 x2 s0
def f_X2_spinsHeard_14 (b : Nat) (p2 : Int32) (p3 : Int32) : Nat → Int32 → Int32 → Int32 → Int32 → Mem → Option (Int32 × Mem)
  | 0, _, _, _, _, _ => none
  | n + 1, m4, m5, m6, m7, s0 => if (100 : Int32) ≤ m7 then (if p3 = (2 : Int32) then (some (m4, s0)) else if p3 = (3 : Int32) then (some (m5, s0)) else some (m6, s0)) else bd (f_X5_take 112 b s0) fun s2 => ing p2 8 <| lt (st2 s2 (112 + 3) p2.toNatClampNeg m7) fun s3 => bd2 (f_X2_isHeard p2 s3) fun x4 s5 => if x4 = 0 then (lt (m7 + (1 : Int32)) fun x14 => f_X2_spinsHeard_14 b p2 p3 n m4 m5 m6 x14 s5) else if m4 = 0 then (lt (m7) fun x6 => lt (m7) fun x7 => lt (m4 + (1 : Int32)) fun x8 => lt (m7 + (1 : Int32)) fun x9 => f_X2_spinsHeard_14 b p2 p3 n x8 x6 x7 x9 s5) else lt (m5) fun x10 => lt (m7) fun x11 => lt (m4 + (1 : Int32)) fun x12 => lt (m7 + (1 : Int32)) fun x13 => f_X2_spinsHeard_14 b p2 p3 n x12 x10 x11 x13 s5
theorem w_X2_spinsHeard_14 {X : CX} {Z : Option Value × Mem → Prop} (hO : OKX X false 5 MX2_spinsHeard) (hQ : OKS X Z) (b : Nat) (hb : isSt b) (p2 : Int32) (p3 : Int32) : ∀ (n : Nat) (m4 : Int32) (m5 : Int32) (m6 : Int32) (m7 : Int32) (s0 : Mem), SIM X MX2_spinsHeard wI Z 14 [(0, .ref 111), (1, .ref b), (2, .int p2), (3, .int p3), (4, .int m4), (5, .int m5), (6, .int m6), (7, .int m7)] [] s0 (f_X2_spinsHeard_14 b p2 p3 n m4 m5 m6 m7 s0) := by
  intro n
  induction n with
  | zero => intros; exact S_none
  | succ n ih =>
    intro m4 m5 m6 m7 s0
    rw [f_X2_spinsHeard_14]
    refine S_ (R_iload hO dX2_spinsHeard_14 rfl) ?_
    refine S_ (R_bipush (v := (100 : Int32)) hO dX2_spinsHeard_16 (by decide)) ?_
    refine S_icmp_ge (tgt := 75) hO dX2_spinsHeard_18 (by decide) ?_ ?_
    · refine S_ (R_aload_n hO dX2_spinsHeard_21 rfl) ?_
      refine S_getR hO dX2_spinsHeard_22 fl_X2_12 sh_111 rfl ?_
      refine S_ (R_aload_n hO dX2_spinsHeard_25 rfl) ?_
      refine S_callVV (rest := []) hO dX2_spinsHeard_26 (cs_X5_take 112 isSt_112 b hb s0) (by omega) lk_X2_25 np_X5_take (rc_St isSt_112 rfl) rfl (Nat.le_of_ble_eq_true rfl) (fun s2 => ?_)
      refine S_ (R_aload_n hO dX2_spinsHeard_29 rfl) ?_
      refine S_getR hO dX2_spinsHeard_30 fl_X2_12 sh_111 rfl ?_
      refine S_getR hO dX2_spinsHeard_33 fl_X2_33 isSt_112.1 rfl ?_
      refine S_ (R_iload_n hO dX2_spinsHeard_36 rfl) ?_
      refine S_ (R_iload hO dX2_spinsHeard_37 rfl) ?_
      refine S_iast hO dX2_spinsHeard_39 isSt_112.2.2.2 (fun s3 => ?_)
      refine S_ (R_aload_n hO dX2_spinsHeard_40 rfl) ?_
      refine S_ (R_iload_n hO dX2_spinsHeard_41 rfl) ?_
      refine S_callVI (rest := []) hO dX2_spinsHeard_42 (cs_X2_isHeard p2 s3) (by omega) lk_X2_99 np_X2_isHeard (rc_111 rfl) rfl (Nat.le_of_ble_eq_true rfl) (fun x4 s5 => ?_)
      refine S_if_eq (tgt := 69) hO dX2_spinsHeard_45 (by decide) ?_ ?_
      · refine S_ (R_iload hO dX2_spinsHeard_48 rfl) ?_
        refine S_if_ne (tgt := 58) hO dX2_spinsHeard_50 (by decide) ?_ ?_
        · refine S_ (R_iload hO dX2_spinsHeard_53 rfl) ?_
          refine S_ (R_goto (tgt := 60) hO dX2_spinsHeard_55 (by decide)) ?_
          refine S_istore (L2 := fun x6 => [(5, .int x6), (0, .ref 111), (1, .ref b), (2, .int p2), (3, .int p3), (4, .int m4), (6, .int m6), (7, .int m7)]) hO dX2_spinsHeard_60 (Nat.le_of_ble_eq_true rfl) (fun _ => rfl) (fun x6 => ?_)
          refine S_ (R_iload hO dX2_spinsHeard_62 rfl) ?_
          refine S_istore (L2 := fun x7 => [(6, .int x7), (5, .int x6), (0, .ref 111), (1, .ref b), (2, .int p2), (3, .int p3), (4, .int m4), (7, .int m7)]) hO dX2_spinsHeard_64 (Nat.le_of_ble_eq_true rfl) (fun _ => rfl) (fun x7 => ?_)
          refine S_iinc (L2 := fun x8 => [(4, .int x8), (6, .int x7), (5, .int x6), (0, .ref 111), (1, .ref b), (2, .int p2), (3, .int p3), (7, .int m7)]) (v := (1 : Int32)) hO dX2_spinsHeard_66 rfl (by decide) (Nat.le_of_ble_eq_true rfl) (fun _ => rfl) (fun x8 => ?_)
          refine S_iinc (L2 := fun x9 => [(7, .int x9), (4, .int x8), (6, .int x7), (5, .int x6), (0, .ref 111), (1, .ref b), (2, .int p2), (3, .int p3)]) (v := (1 : Int32)) hO dX2_spinsHeard_69 rfl (by decide) (Nat.le_of_ble_eq_true rfl) (fun _ => rfl) (fun x9 => ?_)
          refine S_ (R_goto (tgt := 14) hO dX2_spinsHeard_72 (by decide)) ?_
          refine S_sub [4, 5, 6, 7, 1, 3, 2, 0] rfl ?_
          exact ih x8 x6 x7 x9 s5
        · refine S_ (R_iload hO dX2_spinsHeard_58 rfl) ?_
          refine S_istore (L2 := fun x10 => [(5, .int x10), (0, .ref 111), (1, .ref b), (2, .int p2), (3, .int p3), (4, .int m4), (6, .int m6), (7, .int m7)]) hO dX2_spinsHeard_60 (Nat.le_of_ble_eq_true rfl) (fun _ => rfl) (fun x10 => ?_)
          refine S_ (R_iload hO dX2_spinsHeard_62 rfl) ?_
          refine S_istore (L2 := fun x11 => [(6, .int x11), (5, .int x10), (0, .ref 111), (1, .ref b), (2, .int p2), (3, .int p3), (4, .int m4), (7, .int m7)]) hO dX2_spinsHeard_64 (Nat.le_of_ble_eq_true rfl) (fun _ => rfl) (fun x11 => ?_)
          refine S_iinc (L2 := fun x12 => [(4, .int x12), (6, .int x11), (5, .int x10), (0, .ref 111), (1, .ref b), (2, .int p2), (3, .int p3), (7, .int m7)]) (v := (1 : Int32)) hO dX2_spinsHeard_66 rfl (by decide) (Nat.le_of_ble_eq_true rfl) (fun _ => rfl) (fun x12 => ?_)
          refine S_iinc (L2 := fun x13 => [(7, .int x13), (4, .int x12), (6, .int x11), (5, .int x10), (0, .ref 111), (1, .ref b), (2, .int p2), (3, .int p3)]) (v := (1 : Int32)) hO dX2_spinsHeard_69 rfl (by decide) (Nat.le_of_ble_eq_true rfl) (fun _ => rfl) (fun x13 => ?_)
          refine S_ (R_goto (tgt := 14) hO dX2_spinsHeard_72 (by decide)) ?_
          refine S_sub [4, 5, 6, 7, 1, 3, 2, 0] rfl ?_
          exact ih x12 x10 x11 x13 s5
      · refine S_iinc (L2 := fun x14 => [(7, .int x14), (0, .ref 111), (1, .ref b), (2, .int p2), (3, .int p3), (4, .int m4), (5, .int m5), (6, .int m6)]) (v := (1 : Int32)) hO dX2_spinsHeard_69 rfl (by decide) (Nat.le_of_ble_eq_true rfl) (fun _ => rfl) (fun x14 => ?_)
        refine S_ (R_goto (tgt := 14) hO dX2_spinsHeard_72 (by decide)) ?_
        refine S_sub [1, 2, 3, 4, 5, 6, 7, 0] rfl ?_
        exact ih m4 m5 m6 x14 s5
    · refine S_ (R_iload_n hO dX2_spinsHeard_75 rfl) ?_
      refine S_ (R_iconst (v := (2 : Int32)) hO dX2_spinsHeard_76 (by decide)) ?_
      refine S_icmp_ne (tgt := 83) hO dX2_spinsHeard_77 (by decide) ?_ ?_
      · refine S_ (R_iload hO dX2_spinsHeard_80 rfl) ?_
        exact S_iret rfl hO hQ dX2_spinsHeard_82 rfl
      · refine S_ (R_iload_n hO dX2_spinsHeard_83 rfl) ?_
        refine S_ (R_iconst (v := (3 : Int32)) hO dX2_spinsHeard_84 (by decide)) ?_
        refine S_icmp_ne (tgt := 93) hO dX2_spinsHeard_85 (by decide) ?_ ?_
        · refine S_ (R_iload hO dX2_spinsHeard_88 rfl) ?_
          refine S_ (R_goto (tgt := 95) hO dX2_spinsHeard_90 (by decide)) ?_
          exact S_iret rfl hO hQ dX2_spinsHeard_95 rfl
        · refine S_ (R_iload hO dX2_spinsHeard_93 rfl) ?_
          exact S_iret rfl hO hQ dX2_spinsHeard_95 rfl
def f_X2_spinsHeard (b : Nat) (p2 : Int32) (p3 : Int32) (s0 : Mem) : Option (Int32 × Mem) := lt ((0 : Int32)) fun x1 => lt ((-1000000 : Int32)) fun x2 => lt ((-1000000 : Int32)) fun x3 => lt ((0 : Int32)) fun x4 => f_X2_spinsHeard_14 b p2 p3 FU x1 x2 x3 x4 s0
theorem cs_X2_spinsHeard (b : Nat) (hb : isSt b) (p2 : Int32) (p3 : Int32) (s0 : Mem) : CS 5 MX2_spinsHeard [.ref 111, .ref b, .int p2, .int p3] s0 ((f_X2_spinsHeard b p2 p3 s0).map wI) := by
  refine CS.of (by decide +kernel) (Nat.le_of_ble_eq_true rfl) (fun X Z hO hQ => ?_)
  show SIM X MX2_spinsHeard wI Z 0 [(0, .ref 111), (1, .ref b), (2, .int p2), (3, .int p3)] [] s0 _
  unfold f_X2_spinsHeard
  refine S_ (R_iconst (v := (0 : Int32)) hO dX2_spinsHeard_0 (by decide)) ?_
  refine S_istore (L2 := fun x1 => [(4, .int x1), (0, .ref 111), (1, .ref b), (2, .int p2), (3, .int p3)]) hO dX2_spinsHeard_1 (Nat.le_of_ble_eq_true rfl) (fun _ => rfl) (fun x1 => ?_)
  refine S_ (R_ldc (v := (-1000000 : Int32)) hO dX2_spinsHeard_3 kc_X2_43) ?_
  refine S_istore (L2 := fun x2 => [(5, .int x2), (4, .int x1), (0, .ref 111), (1, .ref b), (2, .int p2), (3, .int p3)]) hO dX2_spinsHeard_5 (Nat.le_of_ble_eq_true rfl) (fun _ => rfl) (fun x2 => ?_)
  refine S_ (R_ldc (v := (-1000000 : Int32)) hO dX2_spinsHeard_7 kc_X2_43) ?_
  refine S_istore (L2 := fun x3 => [(6, .int x3), (5, .int x2), (4, .int x1), (0, .ref 111), (1, .ref b), (2, .int p2), (3, .int p3)]) hO dX2_spinsHeard_9 (Nat.le_of_ble_eq_true rfl) (fun _ => rfl) (fun x3 => ?_)
  refine S_ (R_iconst (v := (0 : Int32)) hO dX2_spinsHeard_11 (by decide)) ?_
  refine S_istore (L2 := fun x4 => [(7, .int x4), (6, .int x3), (5, .int x2), (4, .int x1), (0, .ref 111), (1, .ref b), (2, .int p2), (3, .int p3)]) hO dX2_spinsHeard_12 (Nat.le_of_ble_eq_true rfl) (fun _ => rfl) (fun x4 => ?_)
  refine S_sub [4, 5, 6, 7, 3, 2, 1, 0] rfl ?_
  exact w_X2_spinsHeard_14 hO hQ b hb p2 p3 FU x1 x2 x3 x4 s0
def f_X2_fingersHeard_27 (b : Nat) (p2 : Int32) : Nat → Int32 → Int32 → Mem → Option (Int32 × Mem)
  | 0, _, _, _ => none
  | n + 1, m3, m4, s0 => if (s0 b 3) ≤ m4 then (some (m3, s0)) else ing m4 8 <| if (s0 (b + 3) m4.toNatClampNeg) ≤ 0 then (lt (m4 + (1 : Int32)) fun x10 => f_X2_fingersHeard_27 b p2 n m3 x10 s0) else bd (f_X5_take 112 b s0) fun s2 => ing m4 8 <| ing m4 8 <| lt (st2 s2 (112 + 3) m4.toNatClampNeg ((s2 (112 + 3) m4.toNatClampNeg) / (2 : Int32))) fun s3 => bd2 (f_X2_isHeard p2 s3) fun x4 s5 => if x4 = 0 then (lt (m3 ||| (0 : Int32)) fun x8 => lt (m4 + (1 : Int32)) fun x9 => f_X2_fingersHeard_27 b p2 n x8 x9 s5) else lt (m3 ||| ((1 : Int32) <<< (m4 &&& 31))) fun x6 => lt (m4 + (1 : Int32)) fun x7 => f_X2_fingersHeard_27 b p2 n x6 x7 s5
theorem w_X2_fingersHeard_27 {X : CX} {Z : Option Value × Mem → Prop} (hO : OKX X false 5 MX2_fingersHeard) (hQ : OKS X Z) (b : Nat) (hb : isSt b) (p2 : Int32) : ∀ (n : Nat) (m3 : Int32) (m4 : Int32) (s0 : Mem), SIM X MX2_fingersHeard wI Z 27 [(0, .ref 111), (1, .ref b), (2, .int p2), (3, .int m3), (4, .int m4)] [] s0 (f_X2_fingersHeard_27 b p2 n m3 m4 s0) := by
  intro n
  induction n with
  | zero => intros; exact S_none
  | succ n ih =>
    intro m3 m4 s0
    rw [f_X2_fingersHeard_27]
    refine S_ (R_iload hO dX2_fingersHeard_27 rfl) ?_
    refine S_ (R_aload_n hO dX2_fingersHeard_29 rfl) ?_
    refine S_getI hO dX2_fingersHeard_30 fl_X2_44 hb.1 rfl ?_
    refine S_icmp_ge (tgt := 93) hO dX2_fingersHeard_33 (by decide) ?_ ?_
    · refine S_ (R_aload_n hO dX2_fingersHeard_36 rfl) ?_
      refine S_getR hO dX2_fingersHeard_37 fl_X2_33 hb.1 rfl ?_
      refine S_ (R_iload hO dX2_fingersHeard_40 rfl) ?_
      refine S_iald hO dX2_fingersHeard_42 hb.2.2.2 ?_
      refine S_if_le (tgt := 87) hO dX2_fingersHeard_43 (by decide) ?_ ?_
      · refine S_ (R_aload_n hO dX2_fingersHeard_46 rfl) ?_
        refine S_getR hO dX2_fingersHeard_47 fl_X2_12 sh_111 rfl ?_
        refine S_ (R_aload_n hO dX2_fingersHeard_50 rfl) ?_
        refine S_callVV (rest := []) hO dX2_fingersHeard_51 (cs_X5_take 112 isSt_112 b hb s0) (by omega) lk_X2_25 np_X5_take (rc_St isSt_112 rfl) rfl (Nat.le_of_ble_eq_true rfl) (fun s2 => ?_)
        refine S_ (R_aload_n hO dX2_fingersHeard_54 rfl) ?_
        refine S_getR hO dX2_fingersHeard_55 fl_X2_12 sh_111 rfl ?_
        refine S_getR hO dX2_fingersHeard_58 fl_X2_33 isSt_112.1 rfl ?_
        refine S_ (R_iload hO dX2_fingersHeard_61 rfl) ?_
        refine S_ (R_dup2 hO dX2_fingersHeard_63 rfl rfl) ?_
        refine S_iald hO dX2_fingersHeard_64 isSt_112.2.2.2 ?_
        refine S_ (R_iconst (v := (2 : Int32)) hO dX2_fingersHeard_65 (by decide)) ?_
        refine S_ (R_idiv hO dX2_fingersHeard_66 (by decide)) ?_
        refine S_iast hO dX2_fingersHeard_67 isSt_112.2.2.2 (fun s3 => ?_)
        refine S_ (R_iload_n hO dX2_fingersHeard_68 rfl) ?_
        refine S_ (R_aload_n hO dX2_fingersHeard_69 rfl) ?_
        refine S_ (R_iload_n hO dX2_fingersHeard_70 rfl) ?_
        refine S_callVI (rest := [.int m3]) hO dX2_fingersHeard_71 (cs_X2_isHeard p2 s3) (by omega) lk_X2_99 np_X2_isHeard (rc_111 rfl) rfl (Nat.le_of_ble_eq_true rfl) (fun x4 s5 => ?_)
        refine S_if_eq (tgt := 84) hO dX2_fingersHeard_74 (by decide) ?_ ?_
        · refine S_ (R_iconst (v := (1 : Int32)) hO dX2_fingersHeard_77 (by decide)) ?_
          refine S_ (R_iload hO dX2_fingersHeard_78 rfl) ?_
          refine S_ (R_ishl hO dX2_fingersHeard_80) ?_
          refine S_ (R_goto (tgt := 85) hO dX2_fingersHeard_81 (by decide)) ?_
          refine S_ (R_ior hO dX2_fingersHeard_85) ?_
          refine S_istore_n (L2 := fun x6 => [(3, .int x6), (0, .ref 111), (1, .ref b), (2, .int p2), (4, .int m4)]) hO dX2_fingersHeard_86 (Nat.le_of_ble_eq_true rfl) (fun _ => rfl) (fun x6 => ?_)
          refine S_iinc (L2 := fun x7 => [(4, .int x7), (3, .int x6), (0, .ref 111), (1, .ref b), (2, .int p2)]) (v := (1 : Int32)) hO dX2_fingersHeard_87 rfl (by decide) (Nat.le_of_ble_eq_true rfl) (fun _ => rfl) (fun x7 => ?_)
          refine S_ (R_goto (tgt := 27) hO dX2_fingersHeard_90 (by decide)) ?_
          refine S_sub [2, 3, 4, 1, 0] rfl ?_
          exact ih x6 x7 s5
        · refine S_ (R_iconst (v := (0 : Int32)) hO dX2_fingersHeard_84 (by decide)) ?_
          refine S_ (R_ior hO dX2_fingersHeard_85) ?_
          refine S_istore_n (L2 := fun x8 => [(3, .int x8), (0, .ref 111), (1, .ref b), (2, .int p2), (4, .int m4)]) hO dX2_fingersHeard_86 (Nat.le_of_ble_eq_true rfl) (fun _ => rfl) (fun x8 => ?_)
          refine S_iinc (L2 := fun x9 => [(4, .int x9), (3, .int x8), (0, .ref 111), (1, .ref b), (2, .int p2)]) (v := (1 : Int32)) hO dX2_fingersHeard_87 rfl (by decide) (Nat.le_of_ble_eq_true rfl) (fun _ => rfl) (fun x9 => ?_)
          refine S_ (R_goto (tgt := 27) hO dX2_fingersHeard_90 (by decide)) ?_
          refine S_sub [2, 3, 4, 1, 0] rfl ?_
          exact ih x8 x9 s5
      · refine S_iinc (L2 := fun x10 => [(4, .int x10), (0, .ref 111), (1, .ref b), (2, .int p2), (3, .int m3)]) (v := (1 : Int32)) hO dX2_fingersHeard_87 rfl (by decide) (Nat.le_of_ble_eq_true rfl) (fun _ => rfl) (fun x10 => ?_)
        refine S_ (R_goto (tgt := 27) hO dX2_fingersHeard_90 (by decide)) ?_
        refine S_sub [1, 2, 3, 4, 0] rfl ?_
        exact ih m3 x10 s0
    · refine S_ (R_iload_n hO dX2_fingersHeard_93 rfl) ?_
      exact S_iret rfl hO hQ dX2_fingersHeard_94 rfl
def f_X2_fingersHeard (b : Nat) (p2 : Int32) (s0 : Mem) : Option (Int32 × Mem) := bd (f_X5_take 112 b s0) fun s2 => bd2 (f_X2_isHeard p2 s2) fun x3 s4 => if x3 = 0 then (lt ((0 : Int32)) fun x7 => lt ((0 : Int32)) fun x8 => f_X2_fingersHeard_27 b p2 FU x7 x8 s4) else lt ((256 : Int32)) fun x5 => lt ((0 : Int32)) fun x6 => f_X2_fingersHeard_27 b p2 FU x5 x6 s4
theorem cs_X2_fingersHeard (b : Nat) (hb : isSt b) (p2 : Int32) (s0 : Mem) : CS 5 MX2_fingersHeard [.ref 111, .ref b, .int p2] s0 ((f_X2_fingersHeard b p2 s0).map wI) := by
  refine CS.of (by decide +kernel) (Nat.le_of_ble_eq_true rfl) (fun X Z hO hQ => ?_)
  show SIM X MX2_fingersHeard wI Z 0 [(0, .ref 111), (1, .ref b), (2, .int p2)] [] s0 _
  unfold f_X2_fingersHeard
  refine S_ (R_aload_n hO dX2_fingersHeard_0 rfl) ?_
  refine S_getR hO dX2_fingersHeard_1 fl_X2_12 sh_111 rfl ?_
  refine S_ (R_aload_n hO dX2_fingersHeard_4 rfl) ?_
  refine S_callVV (rest := []) hO dX2_fingersHeard_5 (cs_X5_take 112 isSt_112 b hb s0) (by omega) lk_X2_25 np_X5_take (rc_St isSt_112 rfl) rfl (Nat.le_of_ble_eq_true rfl) (fun s2 => ?_)
  refine S_ (R_aload_n hO dX2_fingersHeard_8 rfl) ?_
  refine S_ (R_iload_n hO dX2_fingersHeard_9 rfl) ?_
  refine S_callVI (rest := []) hO dX2_fingersHeard_10 (cs_X2_isHeard p2 s2) (by omega) lk_X2_99 np_X2_isHeard (rc_111 rfl) rfl (Nat.le_of_ble_eq_true rfl) (fun x3 s4 => ?_)
  refine S_if_eq (tgt := 22) hO dX2_fingersHeard_13 (by decide) ?_ ?_
  · refine S_ (R_sipush (v := (256 : Int32)) hO dX2_fingersHeard_16 (by decide)) ?_
    refine S_ (R_goto (tgt := 23) hO dX2_fingersHeard_19 (by decide)) ?_
    refine S_istore_n (L2 := fun x5 => [(3, .int x5), (0, .ref 111), (1, .ref b), (2, .int p2)]) hO dX2_fingersHeard_23 (Nat.le_of_ble_eq_true rfl) (fun _ => rfl) (fun x5 => ?_)
    refine S_ (R_iconst (v := (0 : Int32)) hO dX2_fingersHeard_24 (by decide)) ?_
    refine S_istore (L2 := fun x6 => [(4, .int x6), (3, .int x5), (0, .ref 111), (1, .ref b), (2, .int p2)]) hO dX2_fingersHeard_25 (Nat.le_of_ble_eq_true rfl) (fun _ => rfl) (fun x6 => ?_)
    refine S_sub [2, 3, 4, 1, 0] rfl ?_
    exact w_X2_fingersHeard_27 hO hQ b hb p2 FU x5 x6 s4
  · refine S_ (R_iconst (v := (0 : Int32)) hO dX2_fingersHeard_22 (by decide)) ?_
    refine S_istore_n (L2 := fun x7 => [(3, .int x7), (0, .ref 111), (1, .ref b), (2, .int p2)]) hO dX2_fingersHeard_23 (Nat.le_of_ble_eq_true rfl) (fun _ => rfl) (fun x7 => ?_)
    refine S_ (R_iconst (v := (0 : Int32)) hO dX2_fingersHeard_24 (by decide)) ?_
    refine S_istore (L2 := fun x8 => [(4, .int x8), (3, .int x7), (0, .ref 111), (1, .ref b), (2, .int p2)]) hO dX2_fingersHeard_25 (Nat.le_of_ble_eq_true rfl) (fun _ => rfl) (fun x8 => ?_)
    refine S_sub [2, 3, 4, 1, 0] rfl ?_
    exact w_X2_fingersHeard_27 hO hQ b hb p2 FU x7 x8 s4
def f_X2_lashesHeard_6 (b : Nat) (p2 : Int32) (p3 : Int32) : Nat → Int32 → Int32 → Mem → Option (Int32 × Mem)
  | 0, _, _, _ => none
  | n + 1, m4, m5, s0 => if (30 : Int32) < m5 then (some (m4, s0)) else bd (f_X5_take 112 b s0) fun s2 => bd (f_X5_raise 112 p3 m5 s2) fun s4 => bd2 (f_X2_isHeard p2 s4) fun x5 s6 => if x5 = 0 then (lt (m4 ||| (0 : Int32)) fun x9 => lt (m5 + (1 : Int32)) fun x10 => f_X2_lashesHeard_6 b p2 p3 n x9 x10 s6) else lt (m4 ||| ((1 : Int32) <<< ((m5 - (1 : Int32)) &&& 31))) fun x7 => lt (m5 + (1 : Int32)) fun x8 => f_X2_lashesHeard_6 b p2 p3 n x7 x8 s6
theorem w_X2_lashesHeard_6 {X : CX} {Z : Option Value × Mem → Prop} (hO : OKX X false 5 MX2_lashesHeard) (hQ : OKS X Z) (b : Nat) (hb : isSt b) (p2 : Int32) (p3 : Int32) : ∀ (n : Nat) (m4 : Int32) (m5 : Int32) (s0 : Mem), SIM X MX2_lashesHeard wI Z 6 [(0, .ref 111), (1, .ref b), (2, .int p2), (3, .int p3), (4, .int m4), (5, .int m5)] [] s0 (f_X2_lashesHeard_6 b p2 p3 n m4 m5 s0) := by
  intro n
  induction n with
  | zero => intros; exact S_none
  | succ n ih =>
    intro m4 m5 s0
    rw [f_X2_lashesHeard_6]
    refine S_ (R_iload hO dX2_lashesHeard_6 rfl) ?_
    refine S_ (R_bipush (v := (30 : Int32)) hO dX2_lashesHeard_8 (by decide)) ?_
    refine S_icmp_gt (tgt := 60) hO dX2_lashesHeard_10 (by decide) ?_ ?_
    · refine S_ (R_aload_n hO dX2_lashesHeard_13 rfl) ?_
      refine S_getR hO dX2_lashesHeard_14 fl_X2_12 sh_111 rfl ?_
      refine S_ (R_aload_n hO dX2_lashesHeard_17 rfl) ?_
      refine S_callVV (rest := []) hO dX2_lashesHeard_18 (cs_X5_take 112 isSt_112 b hb s0) (by omega) lk_X2_25 np_X5_take (rc_St isSt_112 rfl) rfl (Nat.le_of_ble_eq_true rfl) (fun s2 => ?_)
      refine S_ (R_aload_n hO dX2_lashesHeard_21 rfl) ?_
      refine S_getR hO dX2_lashesHeard_22 fl_X2_12 sh_111 rfl ?_
      refine S_ (R_iload_n hO dX2_lashesHeard_25 rfl) ?_
      refine S_ (R_iload hO dX2_lashesHeard_26 rfl) ?_
      refine S_callVV (rest := []) hO dX2_lashesHeard_28 (cs_X5_raise 112 isSt_112 p3 m5 s2) (by omega) lk_X2_74 np_X5_raise (rc_St isSt_112 rfl) rfl (Nat.le_of_ble_eq_true rfl) (fun s4 => ?_)
      refine S_ (R_iload hO dX2_lashesHeard_31 rfl) ?_
      refine S_ (R_aload_n hO dX2_lashesHeard_33 rfl) ?_
      refine S_ (R_iload_n hO dX2_lashesHeard_34 rfl) ?_
      refine S_callVI (rest := [.int m4]) hO dX2_lashesHeard_35 (cs_X2_isHeard p2 s4) (by omega) lk_X2_99 np_X2_isHeard (rc_111 rfl) rfl (Nat.le_of_ble_eq_true rfl) (fun x5 s6 => ?_)
      refine S_if_eq (tgt := 50) hO dX2_lashesHeard_38 (by decide) ?_ ?_
      · refine S_ (R_iconst (v := (1 : Int32)) hO dX2_lashesHeard_41 (by decide)) ?_
        refine S_ (R_iload hO dX2_lashesHeard_42 rfl) ?_
        refine S_ (R_iconst (v := (1 : Int32)) hO dX2_lashesHeard_44 (by decide)) ?_
        refine S_ (R_isub hO dX2_lashesHeard_45) ?_
        refine S_ (R_ishl hO dX2_lashesHeard_46) ?_
        refine S_ (R_goto (tgt := 51) hO dX2_lashesHeard_47 (by decide)) ?_
        refine S_ (R_ior hO dX2_lashesHeard_51) ?_
        refine S_istore (L2 := fun x7 => [(4, .int x7), (0, .ref 111), (1, .ref b), (2, .int p2), (3, .int p3), (5, .int m5)]) hO dX2_lashesHeard_52 (Nat.le_of_ble_eq_true rfl) (fun _ => rfl) (fun x7 => ?_)
        refine S_iinc (L2 := fun x8 => [(5, .int x8), (4, .int x7), (0, .ref 111), (1, .ref b), (2, .int p2), (3, .int p3)]) (v := (1 : Int32)) hO dX2_lashesHeard_54 rfl (by decide) (Nat.le_of_ble_eq_true rfl) (fun _ => rfl) (fun x8 => ?_)
        refine S_ (R_goto (tgt := 6) hO dX2_lashesHeard_57 (by decide)) ?_
        refine S_sub [2, 3, 4, 5, 1, 0] rfl ?_
        exact ih x7 x8 s6
      · refine S_ (R_iconst (v := (0 : Int32)) hO dX2_lashesHeard_50 (by decide)) ?_
        refine S_ (R_ior hO dX2_lashesHeard_51) ?_
        refine S_istore (L2 := fun x9 => [(4, .int x9), (0, .ref 111), (1, .ref b), (2, .int p2), (3, .int p3), (5, .int m5)]) hO dX2_lashesHeard_52 (Nat.le_of_ble_eq_true rfl) (fun _ => rfl) (fun x9 => ?_)
        refine S_iinc (L2 := fun x10 => [(5, .int x10), (4, .int x9), (0, .ref 111), (1, .ref b), (2, .int p2), (3, .int p3)]) (v := (1 : Int32)) hO dX2_lashesHeard_54 rfl (by decide) (Nat.le_of_ble_eq_true rfl) (fun _ => rfl) (fun x10 => ?_)
        refine S_ (R_goto (tgt := 6) hO dX2_lashesHeard_57 (by decide)) ?_
        refine S_sub [2, 3, 4, 5, 1, 0] rfl ?_
        exact ih x9 x10 s6
    · refine S_ (R_iload hO dX2_lashesHeard_60 rfl) ?_
      exact S_iret rfl hO hQ dX2_lashesHeard_62 rfl
def f_X2_lashesHeard (b : Nat) (p2 : Int32) (p3 : Int32) (s0 : Mem) : Option (Int32 × Mem) := lt ((0 : Int32)) fun x1 => lt ((1 : Int32)) fun x2 => f_X2_lashesHeard_6 b p2 p3 FU x1 x2 s0
theorem cs_X2_lashesHeard (b : Nat) (hb : isSt b) (p2 : Int32) (p3 : Int32) (s0 : Mem) : CS 5 MX2_lashesHeard [.ref 111, .ref b, .int p2, .int p3] s0 ((f_X2_lashesHeard b p2 p3 s0).map wI) := by
  refine CS.of (by decide +kernel) (Nat.le_of_ble_eq_true rfl) (fun X Z hO hQ => ?_)
  show SIM X MX2_lashesHeard wI Z 0 [(0, .ref 111), (1, .ref b), (2, .int p2), (3, .int p3)] [] s0 _
  unfold f_X2_lashesHeard
  refine S_ (R_iconst (v := (0 : Int32)) hO dX2_lashesHeard_0 (by decide)) ?_
  refine S_istore (L2 := fun x1 => [(4, .int x1), (0, .ref 111), (1, .ref b), (2, .int p2), (3, .int p3)]) hO dX2_lashesHeard_1 (Nat.le_of_ble_eq_true rfl) (fun _ => rfl) (fun x1 => ?_)
  refine S_ (R_iconst (v := (1 : Int32)) hO dX2_lashesHeard_3 (by decide)) ?_
  refine S_istore (L2 := fun x2 => [(5, .int x2), (4, .int x1), (0, .ref 111), (1, .ref b), (2, .int p2), (3, .int p3)]) hO dX2_lashesHeard_4 (Nat.le_of_ble_eq_true rfl) (fun _ => rfl) (fun x2 => ?_)
  refine S_sub [2, 3, 4, 5, 1, 0] rfl ?_
  exact w_X2_lashesHeard_6 hO hQ b hb p2 p3 FU x1 x2 s0
def f_X2_standsCracked_11 (b : Nat) (p2 : Int32) (p3 : Int32) (p4 : Int32) : Nat → Int32 → Mem → Option (Int32 × Mem)
  | 0, _, _ => none
  | n + 1, m5, s0 => if (s0 b 3) ≤ m5 then (bd (f_X5_passAll 112 p4 s0) fun s6 => ing p3 8 <| if (s6 (112 + 3) p3.toNatClampNeg) ≤ 0 then (some ((0 : Int32), s6)) else some ((1 : Int32), s6)) else ing m5 8 <| if ((p2 >>> (m5 &&& 31)) &&& (1 : Int32)) = 0 then (ing m5 8 <| lt (st2 s0 (112 + 3) m5.toNatClampNeg ((s0 (112 + 3) m5.toNatClampNeg) / (1 : Int32))) fun s3 => lt (m5 + (1 : Int32)) fun x4 => f_X2_standsCracked_11 b p2 p3 p4 n x4 s3) else ing m5 8 <| lt (st2 s0 (112 + 3) m5.toNatClampNeg ((s0 (112 + 3) m5.toNatClampNeg) / (2 : Int32))) fun s1 => lt (m5 + (1 : Int32)) fun x2 => f_X2_standsCracked_11 b p2 p3 p4 n x2 s1
theorem w_X2_standsCracked_11 {X : CX} {Z : Option Value × Mem → Prop} (hO : OKX X false 5 MX2_standsCracked) (hQ : OKS X Z) (b : Nat) (hb : isSt b) (p2 : Int32) (p3 : Int32) (p4 : Int32) : ∀ (n : Nat) (m5 : Int32) (s0 : Mem), SIM X MX2_standsCracked wI Z 11 [(0, .ref 111), (1, .ref b), (2, .int p2), (3, .int p3), (4, .int p4), (5, .int m5)] [] s0 (f_X2_standsCracked_11 b p2 p3 p4 n m5 s0) := by
  intro n
  induction n with
  | zero => intros; exact S_none
  | succ n ih =>
    intro m5 s0
    rw [f_X2_standsCracked_11]
    refine S_ (R_iload hO dX2_standsCracked_11 rfl) ?_
    refine S_ (R_aload_n hO dX2_standsCracked_13 rfl) ?_
    refine S_getI hO dX2_standsCracked_14 fl_X2_44 hb.1 rfl ?_
    refine S_icmp_ge (tgt := 53) hO dX2_standsCracked_17 (by decide) ?_ ?_
    · refine S_ (R_aload_n hO dX2_standsCracked_20 rfl) ?_
      refine S_getR hO dX2_standsCracked_21 fl_X2_12 sh_111 rfl ?_
      refine S_getR hO dX2_standsCracked_24 fl_X2_33 isSt_112.1 rfl ?_
      refine S_ (R_iload hO dX2_standsCracked_27 rfl) ?_
      refine S_ (R_dup2 hO dX2_standsCracked_29 rfl rfl) ?_
      refine S_iald hO dX2_standsCracked_30 isSt_112.2.2.2 ?_
      refine S_ (R_iload_n hO dX2_standsCracked_31 rfl) ?_
      refine S_ (R_iload hO dX2_standsCracked_32 rfl) ?_
      refine S_ (R_ishr hO dX2_standsCracked_34) ?_
      refine S_ (R_iconst (v := (1 : Int32)) hO dX2_standsCracked_35 (by decide)) ?_
      refine S_ (R_iand hO dX2_standsCracked_36) ?_
      refine S_if_eq (tgt := 44) hO dX2_standsCracked_37 (by decide) ?_ ?_
      · refine S_ (R_iconst (v := (2 : Int32)) hO dX2_standsCracked_40 (by decide)) ?_
        refine S_ (R_goto (tgt := 45) hO dX2_standsCracked_41 (by decide)) ?_
        refine S_ (R_idiv hO dX2_standsCracked_45 (by decide)) ?_
        refine S_iast hO dX2_standsCracked_46 isSt_112.2.2.2 (fun s1 => ?_)
        refine S_iinc (L2 := fun x2 => [(5, .int x2), (0, .ref 111), (1, .ref b), (2, .int p2), (3, .int p3), (4, .int p4)]) (v := (1 : Int32)) hO dX2_standsCracked_47 rfl (by decide) (Nat.le_of_ble_eq_true rfl) (fun _ => rfl) (fun x2 => ?_)
        refine S_ (R_goto (tgt := 11) hO dX2_standsCracked_50 (by decide)) ?_
        refine S_sub [1, 2, 3, 4, 5, 0] rfl ?_
        exact ih x2 s1
      · refine S_ (R_iconst (v := (1 : Int32)) hO dX2_standsCracked_44 (by decide)) ?_
        refine S_ (R_idiv hO dX2_standsCracked_45 (by decide)) ?_
        refine S_iast hO dX2_standsCracked_46 isSt_112.2.2.2 (fun s3 => ?_)
        refine S_iinc (L2 := fun x4 => [(5, .int x4), (0, .ref 111), (1, .ref b), (2, .int p2), (3, .int p3), (4, .int p4)]) (v := (1 : Int32)) hO dX2_standsCracked_47 rfl (by decide) (Nat.le_of_ble_eq_true rfl) (fun _ => rfl) (fun x4 => ?_)
        refine S_ (R_goto (tgt := 11) hO dX2_standsCracked_50 (by decide)) ?_
        refine S_sub [1, 2, 3, 4, 5, 0] rfl ?_
        exact ih x4 s3
    · refine S_ (R_aload_n hO dX2_standsCracked_53 rfl) ?_
      refine S_getR hO dX2_standsCracked_54 fl_X2_12 sh_111 rfl ?_
      refine S_ (R_iload hO dX2_standsCracked_57 rfl) ?_
      refine S_callVV (rest := []) hO dX2_standsCracked_59 (cs_X5_passAll 112 isSt_112 p4 s0) (by omega) lk_X2_29 np_X5_passAll (rc_St isSt_112 rfl) rfl (Nat.le_of_ble_eq_true rfl) (fun s6 => ?_)
      refine S_ (R_aload_n hO dX2_standsCracked_62 rfl) ?_
      refine S_getR hO dX2_standsCracked_63 fl_X2_12 sh_111 rfl ?_
      refine S_getR hO dX2_standsCracked_66 fl_X2_33 isSt_112.1 rfl ?_
      refine S_ (R_iload_n hO dX2_standsCracked_69 rfl) ?_
      refine S_iald hO dX2_standsCracked_70 isSt_112.2.2.2 ?_
      refine S_if_le (tgt := 78) hO dX2_standsCracked_71 (by decide) ?_ ?_
      · refine S_ (R_iconst (v := (1 : Int32)) hO dX2_standsCracked_74 (by decide)) ?_
        refine S_ (R_goto (tgt := 79) hO dX2_standsCracked_75 (by decide)) ?_
        exact S_zret0 rfl hO hQ dX2_standsCracked_79 rfl (by decide)
      · refine S_ (R_iconst (v := (0 : Int32)) hO dX2_standsCracked_78 (by decide)) ?_
        exact S_zret0 rfl hO hQ dX2_standsCracked_79 rfl (by decide)
def f_X2_standsCracked (b : Nat) (p2 : Int32) (p3 : Int32) (p4 : Int32) (s0 : Mem) : Option (Int32 × Mem) := bd (f_X5_take 112 b s0) fun s2 => lt ((0 : Int32)) fun x3 => f_X2_standsCracked_11 b p2 p3 p4 FU x3 s2
theorem cs_X2_standsCracked (b : Nat) (hb : isSt b) (p2 : Int32) (p3 : Int32) (p4 : Int32) (s0 : Mem) : CS 5 MX2_standsCracked [.ref 111, .ref b, .int p2, .int p3, .int p4] s0 ((f_X2_standsCracked b p2 p3 p4 s0).map wI) := by
  refine CS.of (by decide +kernel) (Nat.le_of_ble_eq_true rfl) (fun X Z hO hQ => ?_)
  show SIM X MX2_standsCracked wI Z 0 [(0, .ref 111), (1, .ref b), (2, .int p2), (3, .int p3), (4, .int p4)] [] s0 _
  unfold f_X2_standsCracked
  refine S_ (R_aload_n hO dX2_standsCracked_0 rfl) ?_
  refine S_getR hO dX2_standsCracked_1 fl_X2_12 sh_111 rfl ?_
  refine S_ (R_aload_n hO dX2_standsCracked_4 rfl) ?_
  refine S_callVV (rest := []) hO dX2_standsCracked_5 (cs_X5_take 112 isSt_112 b hb s0) (by omega) lk_X2_25 np_X5_take (rc_St isSt_112 rfl) rfl (Nat.le_of_ble_eq_true rfl) (fun s2 => ?_)
  refine S_ (R_iconst (v := (0 : Int32)) hO dX2_standsCracked_8 (by decide)) ?_
  refine S_istore (L2 := fun x3 => [(5, .int x3), (0, .ref 111), (1, .ref b), (2, .int p2), (3, .int p3), (4, .int p4)]) hO dX2_standsCracked_9 (Nat.le_of_ble_eq_true rfl) (fun _ => rfl) (fun x3 => ?_)
  refine S_sub [1, 2, 3, 4, 5, 0] rfl ?_
  exact w_X2_standsCracked_11 hO hQ b hb p2 p3 p4 FU x3 s2
def f_X2_power_5 (p0 : Int32) (p1 : Int32) : Nat → Int64 → Int32 → Mem → Option (Int64 × Mem)
  | 0, _, _, _ => none
  | n + 1, m2, m4, s0 => if p1 ≤ m4 then (some (m2, s0)) else lt (m2 * p0.toInt64) fun x1 => lt (m4 + (1 : Int32)) fun x2 => f_X2_power_5 p0 p1 n x1 x2 s0
theorem w_X2_power_5 {X : CX} {Z : Option Value × Mem → Prop} (hO : OKX X false 1 MX2_power) (hQ : OKS X Z) (p0 : Int32) (p1 : Int32) : ∀ (n : Nat) (m2 : Int64) (m4 : Int32) (s0 : Mem), SIM X MX2_power wL Z 5 [(0, .int p0), (1, .int p1), (2, .long m2), (4, .int m4)] [] s0 (f_X2_power_5 p0 p1 n m2 m4 s0) := by
  intro n
  induction n with
  | zero => intros; exact S_none
  | succ n ih =>
    intro m2 m4 s0
    rw [f_X2_power_5]
    refine S_ (R_iload hO dX2_power_5 rfl) ?_
    refine S_ (R_iload_n hO dX2_power_7 rfl) ?_
    refine S_icmp_ge (tgt := 22) hO dX2_power_8 (by decide) ?_ ?_
    · refine S_ (R_lload_n hO dX2_power_11 rfl) ?_
      refine S_ (R_iload_n hO dX2_power_12 rfl) ?_
      refine S_ (R_i2l hO dX2_power_13) ?_
      refine S_ (R_lmul hO dX2_power_14) ?_
      refine S_lstore_n (L2 := fun x1 => [(2, .long x1), (0, .int p0), (1, .int p1), (4, .int m4)]) hO dX2_power_15 (Nat.le_of_ble_eq_true rfl) (fun _ => rfl) (fun x1 => ?_)
      refine S_iinc (L2 := fun x2 => [(4, .int x2), (2, .long x1), (0, .int p0), (1, .int p1)]) (v := (1 : Int32)) hO dX2_power_16 rfl (by decide) (Nat.le_of_ble_eq_true rfl) (fun _ => rfl) (fun x2 => ?_)
      refine S_ (R_goto (tgt := 5) hO dX2_power_19 (by decide)) ?_
      refine S_sub [2, 3, 1, 0] rfl ?_
      exact ih x1 x2 s0
    · refine S_ (R_lload_n hO dX2_power_22 rfl) ?_
      exact S_lret rfl hO hQ dX2_power_23 rfl
def f_X2_power (p0 : Int32) (p1 : Int32) (s0 : Mem) : Option (Int64 × Mem) := lt ((1 : Int64)) fun x1 => lt ((0 : Int32)) fun x2 => f_X2_power_5 p0 p1 FU x1 x2 s0
theorem cs_X2_power (p0 : Int32) (p1 : Int32) (s0 : Mem) : CS 1 MX2_power [.int p0, .int p1] s0 ((f_X2_power p0 p1 s0).map wL) := by
  refine CS.of (by decide +kernel) (Nat.le_of_ble_eq_true rfl) (fun X Z hO hQ => ?_)
  show SIM X MX2_power wL Z 0 [(0, .int p0), (1, .int p1)] [] s0 _
  unfold f_X2_power
  refine S_ (R_lconst (v := (1 : Int64)) hO dX2_power_0 (by decide)) ?_
  refine S_lstore_n (L2 := fun x1 => [(2, .long x1), (0, .int p0), (1, .int p1)]) hO dX2_power_1 (Nat.le_of_ble_eq_true rfl) (fun _ => rfl) (fun x1 => ?_)
  refine S_ (R_iconst (v := (0 : Int32)) hO dX2_power_2 (by decide)) ?_
  refine S_istore (L2 := fun x2 => [(4, .int x2), (2, .long x1), (0, .int p0), (1, .int p1)]) hO dX2_power_3 (Nat.le_of_ble_eq_true rfl) (fun _ => rfl) (fun x2 => ?_)
  refine S_sub [2, 3, 1, 0] rfl ?_
  exact w_X2_power_5 hO hQ p0 p1 FU x1 x2 s0
def f_X2_commonDivisor_45 (p0 : Int64) (p2 : Int64) (m4 : Int64) (s0 : Mem) : Option (Int64 × Mem) := some (lmax (1 : Int64) m4, s0)
theorem w_X2_commonDivisor_45 {X : CX} {Z : Option Value × Mem → Prop} (hO : OKX X false 2 MX2_commonDivisor) (hQ : OKS X Z) (p0 : Int64) (p2 : Int64) (m4 : Int64) (s0 : Mem) : SIM X MX2_commonDivisor wL Z 45 [(4, .long m4)] [] s0 (f_X2_commonDivisor_45 p0 p2 m4 s0) := by
  unfold f_X2_commonDivisor_45
  refine S_ (R_lconst (v := (1 : Int64)) hO dX2_commonDivisor_45 (by decide)) ?_
  refine S_ (R_lload hO dX2_commonDivisor_46 rfl) ?_
  refine S_maxL hO dX2_commonDivisor_48 (by omega) kmm_maxL_X2_117 kw_maxL (Nat.le_of_ble_eq_true rfl) ?_
  exact S_lret rfl hO hQ dX2_commonDivisor_51 rfl
def f_X2_commonDivisor_9 (p0 : Int64) (p2 : Int64) : Nat → Int64 → Int64 → Int32 → Mem → Option (Int64 × Mem)
  | 0, _, _, _, _ => none
  | n + 1, m4, m6, m8, s0 => if (1000 : Int32) ≤ m8 then (f_X2_commonDivisor_45 p0 p2 m4 s0) else if (lg_cmp m6 (0 : Int64)) ≤ 0 then (f_X2_commonDivisor_45 p0 p2 m4 s0) else gd (¬ m6 = 0) <| lt (m4 - m4 / m6 * m6) fun x1 => lt (m6) fun x2 => lt (x1) fun x3 => lt (m8 + (1 : Int32)) fun x4 => f_X2_commonDivisor_9 p0 p2 n x2 x3 x4 s0
theorem w_X2_commonDivisor_9 {X : CX} {Z : Option Value × Mem → Prop} (hO : OKX X false 2 MX2_commonDivisor) (hQ : OKS X Z) (p0 : Int64) (p2 : Int64) : ∀ (n : Nat) (m4 : Int64) (m6 : Int64) (m8 : Int32) (s0 : Mem), SIM X MX2_commonDivisor wL Z 9 [(4, .long m4), (6, .long m6), (8, .int m8)] [] s0 (f_X2_commonDivisor_9 p0 p2 n m4 m6 m8 s0) := by
  intro n
  induction n with
  | zero => intros; exact S_none
  | succ n ih =>
    intro m4 m6 m8 s0
    rw [f_X2_commonDivisor_9]
    refine S_ (R_iload hO dX2_commonDivisor_9 rfl) ?_
    refine S_ (R_sipush (v := (1000 : Int32)) hO dX2_commonDivisor_11 (by decide)) ?_
    refine S_icmp_ge (tgt := 45) hO dX2_commonDivisor_14 (by decide) ?_ ?_
    · refine S_ (R_lload hO dX2_commonDivisor_17 rfl) ?_
      refine S_ (R_lconst (v := (0 : Int64)) hO dX2_commonDivisor_19 (by decide)) ?_
      refine S_ (R_lcmp hO dX2_commonDivisor_20) ?_
      refine S_if_le (tgt := 45) hO dX2_commonDivisor_21 (by decide) ?_ ?_
      · refine S_ (R_lload hO dX2_commonDivisor_24 rfl) ?_
        refine S_ (R_lload hO dX2_commonDivisor_26 rfl) ?_
        refine S_lrem hO dX2_commonDivisor_28 ?_
        refine S_lstore (L2 := fun x1 => [(9, .long x1), (4, .long m4), (6, .long m6), (8, .int m8)]) hO dX2_commonDivisor_29 (Nat.le_of_ble_eq_true rfl) (fun _ => rfl) (fun x1 => ?_)
        refine S_ (R_lload hO dX2_commonDivisor_31 rfl) ?_
        refine S_lstore (L2 := fun x2 => [(4, .long x2), (9, .long x1), (6, .long m6), (8, .int m8)]) hO dX2_commonDivisor_33 (Nat.le_of_ble_eq_true rfl) (fun _ => rfl) (fun x2 => ?_)
        refine S_ (R_lload hO dX2_commonDivisor_35 rfl) ?_
        refine S_lstore (L2 := fun x3 => [(6, .long x3), (4, .long x2), (9, .long x1), (8, .int m8)]) hO dX2_commonDivisor_37 (Nat.le_of_ble_eq_true rfl) (fun _ => rfl) (fun x3 => ?_)
        refine S_iinc (L2 := fun x4 => [(8, .int x4), (6, .long x3), (4, .long x2), (9, .long x1)]) (v := (1 : Int32)) hO dX2_commonDivisor_39 rfl (by decide) (Nat.le_of_ble_eq_true rfl) (fun _ => rfl) (fun x4 => ?_)
        refine S_ (R_goto (tgt := 9) hO dX2_commonDivisor_42 (by decide)) ?_
        refine S_sub [2, 1, 0] rfl ?_
        exact ih x2 x3 x4 s0
      · refine S_sub [0] rfl ?_
        exact w_X2_commonDivisor_45 hO hQ p0 p2 m4 s0
    · refine S_sub [0] rfl ?_
      exact w_X2_commonDivisor_45 hO hQ p0 p2 m4 s0
def f_X2_commonDivisor (p0 : Int64) (p2 : Int64) (s0 : Mem) : Option (Int64 × Mem) := lt (p0) fun x1 => lt (p2) fun x2 => lt ((0 : Int32)) fun x3 => f_X2_commonDivisor_9 p0 p2 FU x1 x2 x3 s0
theorem cs_X2_commonDivisor (p0 : Int64) (p2 : Int64) (s0 : Mem) : CS 2 MX2_commonDivisor [.long p0, .long p2] s0 ((f_X2_commonDivisor p0 p2 s0).map wL) := by
  refine CS.of (by decide +kernel) (Nat.le_of_ble_eq_true rfl) (fun X Z hO hQ => ?_)
  show SIM X MX2_commonDivisor wL Z 0 [(0, .long p0), (2, .long p2)] [] s0 _
  unfold f_X2_commonDivisor
  refine S_ (R_lload_n hO dX2_commonDivisor_0 rfl) ?_
  refine S_lstore (L2 := fun x1 => [(4, .long x1), (0, .long p0), (2, .long p2)]) hO dX2_commonDivisor_1 (Nat.le_of_ble_eq_true rfl) (fun _ => rfl) (fun x1 => ?_)
  refine S_ (R_lload_n hO dX2_commonDivisor_3 rfl) ?_
  refine S_lstore (L2 := fun x2 => [(6, .long x2), (4, .long x1), (0, .long p0), (2, .long p2)]) hO dX2_commonDivisor_4 (Nat.le_of_ble_eq_true rfl) (fun _ => rfl) (fun x2 => ?_)
  refine S_ (R_iconst (v := (0 : Int32)) hO dX2_commonDivisor_6 (by decide)) ?_
  refine S_istore (L2 := fun x3 => [(8, .int x3), (6, .long x2), (4, .long x1), (0, .long p0), (2, .long p2)]) hO dX2_commonDivisor_7 (Nat.le_of_ble_eq_true rfl) (fun _ => rfl) (fun x3 => ?_)
  refine S_sub [2, 1, 0] rfl ?_
  exact w_X2_commonDivisor_9 hO hQ p0 p2 FU x1 x2 x3 s0
def f_X2_chance_12 (b : Nat) (p2 : Int32) (p3 : Int32) (p4 : Int32) (p5 : Int32) : Nat → Int32 → Int64 → Int32 → Mem → Option (Int64 × Mem)
  | 0, _, _, _, _ => none
  | n + 1, m6, m7, m9, s0 => if ((1 : Int32) <<< ((s0 b 3) &&& 31)) ≤ m9 then (bd2 (f_J6_bitCount_0f7a4 m6 s0) fun x16 s17 => bd2 (f_X2_power (10 : Int32) x16 s17) fun x18 s19 => lt (x18) fun x20 => bd2 (f_X2_commonDivisor x20 m7 s19) fun x21 s22 => lt (x21) fun x23 => if p5 = 0 then (gd (¬ x23 = 0) <| some (m7 / x23, s22)) else gd (¬ x23 = 0) <| some (x20 / x23, s22)) else if (m9 &&& (m6 ^^^ (-1 : Int32))) = 0 then (bd2 (f_X2_standsCracked b m9 p2 p3 s0) fun x1 s2 => if x1 = 0 then (lt (m9 + (1 : Int32)) fun x14 => f_X2_chance_12 b p2 p3 p4 p5 n m6 m7 x14 s2) else bd2 (f_J6_bitCount_0f7a4 m9 s2) fun x3 s4 => lt (x3) fun x5 => bd2 (f_X2_power p4 x5 s4) fun x6 s7 => bd2 (f_J6_bitCount_0f7a4 m6 s7) fun x8 s9 => bd2 (f_X2_power ((10 : Int32) - p4) (x8 - x5) s9) fun x10 s11 => lt (m7 + (x6 * x10)) fun x12 => lt (m9 + (1 : Int32)) fun x13 => f_X2_chance_12 b p2 p3 p4 p5 n m6 x12 x13 s11) else lt (m9 + (1 : Int32)) fun x15 => f_X2_chance_12 b p2 p3 p4 p5 n m6 m7 x15 s0
theorem w_X2_chance_12 {X : CX} {Z : Option Value × Mem → Prop} (hO : OKX X false 6 MX2_chance) (hQ : OKS X Z) (b : Nat) (hb : isSt b) (p2 : Int32) (p3 : Int32) (p4 : Int32) (p5 : Int32) : ∀ (n : Nat) (m6 : Int32) (m7 : Int64) (m9 : Int32) (s0 : Mem), SIM X MX2_chance wL Z 12 [(0, .ref 111), (1, .ref b), (2, .int p2), (3, .int p3), (4, .int p4), (5, .int p5), (6, .int m6), (7, .long m7), (9, .int m9)] [] s0 (f_X2_chance_12 b p2 p3 p4 p5 n m6 m7 m9 s0) := by
  intro n
  induction n with
  | zero => intros; exact S_none
  | succ n ih =>
    intro m6 m7 m9 s0
    rw [f_X2_chance_12]
    refine S_ (R_iload hO dX2_chance_12 rfl) ?_
    refine S_ (R_iconst (v := (1 : Int32)) hO dX2_chance_14 (by decide)) ?_
    refine S_ (R_aload_n hO dX2_chance_15 rfl) ?_
    refine S_getI hO dX2_chance_16 fl_X2_44 hb.1 rfl ?_
    refine S_ (R_ishl hO dX2_chance_19) ?_
    refine S_icmp_ge (tgt := 87) hO dX2_chance_20 (by decide) ?_ ?_
    · refine S_ (R_iload hO dX2_chance_23 rfl) ?_
      refine S_ (R_iload hO dX2_chance_25 rfl) ?_
      refine S_ (R_iconst (v := (-1 : Int32)) hO dX2_chance_27 (by decide)) ?_
      refine S_ (R_ixor hO dX2_chance_28) ?_
      refine S_ (R_iand hO dX2_chance_29) ?_
      refine S_if_ne (tgt := 81) hO dX2_chance_30 (by decide) ?_ ?_
      · refine S_ (R_aload_n hO dX2_chance_33 rfl) ?_
        refine S_ (R_aload_n hO dX2_chance_34 rfl) ?_
        refine S_ (R_iload hO dX2_chance_35 rfl) ?_
        refine S_ (R_iload_n hO dX2_chance_37 rfl) ?_
        refine S_ (R_iload_n hO dX2_chance_38 rfl) ?_
        refine S_callVI (rest := []) hO dX2_chance_39 (cs_X2_standsCracked b hb m9 p2 p3 s0) (by omega) lk_X2_105 np_X2_standsCracked (rc_111 rfl) rfl (Nat.le_of_ble_eq_true rfl) (fun x1 s2 => ?_)
        refine S_if_eq (tgt := 81) hO dX2_chance_42 (by decide) ?_ ?_
        · refine S_ (R_iload hO dX2_chance_45 rfl) ?_
          refine S_callSI (rest := []) hO dX2_chance_47 (cs_J6_bitCount_0f7a4 m9 s2) (by omega) lk_X2_52 np_J6_bitCount_0f7a4 rfl (Nat.le_of_ble_eq_true rfl) (fun x3 s4 => ?_)
          refine S_istore (L2 := fun x5 => [(10, .int x5), (0, .ref 111), (1, .ref b), (2, .int p2), (3, .int p3), (4, .int p4), (5, .int p5), (6, .int m6), (7, .long m7), (9, .int m9)]) hO dX2_chance_50 (Nat.le_of_ble_eq_true rfl) (fun _ => rfl) (fun x5 => ?_)
          refine S_ (R_lload hO dX2_chance_52 rfl) ?_
          refine S_ (R_iload hO dX2_chance_54 rfl) ?_
          refine S_ (R_iload hO dX2_chance_56 rfl) ?_
          refine S_callSL (rest := [.long m7]) hO dX2_chance_58 (cs_X2_power p4 x5 s4) (by omega) lk_X2_109 np_X2_power rfl (Nat.le_of_ble_eq_true rfl) (fun x6 s7 => ?_)
          refine S_ (R_bipush (v := (10 : Int32)) hO dX2_chance_61 (by decide)) ?_
          refine S_ (R_iload hO dX2_chance_63 rfl) ?_
          refine S_ (R_isub hO dX2_chance_65) ?_
          refine S_ (R_iload hO dX2_chance_66 rfl) ?_
          refine S_callSI (rest := [.int ((10 : Int32) - p4), .long x6, .long m7]) hO dX2_chance_68 (cs_J6_bitCount_0f7a4 m6 s7) (by omega) lk_X2_52 np_J6_bitCount_0f7a4 rfl (Nat.le_of_ble_eq_true rfl) (fun x8 s9 => ?_)
          refine S_ (R_iload hO dX2_chance_71 rfl) ?_
          refine S_ (R_isub hO dX2_chance_73) ?_
          refine S_callSL (rest := [.long x6, .long m7]) hO dX2_chance_74 (cs_X2_power ((10 : Int32) - p4) (x8 - x5) s9) (by omega) lk_X2_109 np_X2_power rfl (Nat.le_of_ble_eq_true rfl) (fun x10 s11 => ?_)
          refine S_ (R_lmul hO dX2_chance_77) ?_
          refine S_ (R_ladd hO dX2_chance_78) ?_
          refine S_lstore (L2 := fun x12 => [(7, .long x12), (10, .int x5), (0, .ref 111), (1, .ref b), (2, .int p2), (3, .int p3), (4, .int p4), (5, .int p5), (6, .int m6), (9, .int m9)]) hO dX2_chance_79 (Nat.le_of_ble_eq_true rfl) (fun _ => rfl) (fun x12 => ?_)
          refine S_iinc (L2 := fun x13 => [(9, .int x13), (7, .long x12), (10, .int x5), (0, .ref 111), (1, .ref b), (2, .int p2), (3, .int p3), (4, .int p4), (5, .int p5), (6, .int m6)]) (v := (1 : Int32)) hO dX2_chance_81 rfl (by decide) (Nat.le_of_ble_eq_true rfl) (fun _ => rfl) (fun x13 => ?_)
          refine S_ (R_goto (tgt := 12) hO dX2_chance_84 (by decide)) ?_
          refine S_sub [3, 4, 5, 6, 7, 8, 9, 1, 0] rfl ?_
          exact ih m6 x12 x13 s11
        · refine S_iinc (L2 := fun x14 => [(9, .int x14), (0, .ref 111), (1, .ref b), (2, .int p2), (3, .int p3), (4, .int p4), (5, .int p5), (6, .int m6), (7, .long m7)]) (v := (1 : Int32)) hO dX2_chance_81 rfl (by decide) (Nat.le_of_ble_eq_true rfl) (fun _ => rfl) (fun x14 => ?_)
          refine S_ (R_goto (tgt := 12) hO dX2_chance_84 (by decide)) ?_
          refine S_sub [1, 2, 3, 4, 5, 6, 7, 8, 0] rfl ?_
          exact ih m6 m7 x14 s2
      · refine S_iinc (L2 := fun x15 => [(9, .int x15), (0, .ref 111), (1, .ref b), (2, .int p2), (3, .int p3), (4, .int p4), (5, .int p5), (6, .int m6), (7, .long m7)]) (v := (1 : Int32)) hO dX2_chance_81 rfl (by decide) (Nat.le_of_ble_eq_true rfl) (fun _ => rfl) (fun x15 => ?_)
        refine S_ (R_goto (tgt := 12) hO dX2_chance_84 (by decide)) ?_
        refine S_sub [1, 2, 3, 4, 5, 6, 7, 8, 0] rfl ?_
        exact ih m6 m7 x15 s0
    · refine S_ (R_bipush (v := (10 : Int32)) hO dX2_chance_87 (by decide)) ?_
      refine S_ (R_iload hO dX2_chance_89 rfl) ?_
      refine S_callSI (rest := [.int (10 : Int32)]) hO dX2_chance_91 (cs_J6_bitCount_0f7a4 m6 s0) (by omega) lk_X2_52 np_J6_bitCount_0f7a4 rfl (Nat.le_of_ble_eq_true rfl) (fun x16 s17 => ?_)
      refine S_callSL (rest := []) hO dX2_chance_94 (cs_X2_power (10 : Int32) x16 s17) (by omega) lk_X2_109 np_X2_power rfl (Nat.le_of_ble_eq_true rfl) (fun x18 s19 => ?_)
      refine S_lstore (L2 := fun x20 => [(9, .long x20), (0, .ref 111), (1, .ref b), (2, .int p2), (3, .int p3), (4, .int p4), (5, .int p5), (6, .int m6), (7, .long m7)]) hO dX2_chance_97 (Nat.le_of_ble_eq_true rfl) (fun _ => rfl) (fun x20 => ?_)
      refine S_ (R_lload hO dX2_chance_99 rfl) ?_
      refine S_ (R_lload hO dX2_chance_101 rfl) ?_
      refine S_callSL (rest := []) hO dX2_chance_103 (cs_X2_commonDivisor x20 m7 s19) (by omega) lk_X2_113 np_X2_commonDivisor rfl (Nat.le_of_ble_eq_true rfl) (fun x21 s22 => ?_)
      refine S_lstore (L2 := fun x23 => [(11, .long x23), (9, .long x20), (0, .ref 111), (1, .ref b), (2, .int p2), (3, .int p3), (4, .int p4), (5, .int p5), (6, .int m6), (7, .long m7)]) hO dX2_chance_106 (Nat.le_of_ble_eq_true rfl) (fun _ => rfl) (fun x23 => ?_)
      refine S_ (R_iload hO dX2_chance_108 rfl) ?_
      refine S_if_ne (tgt := 118) hO dX2_chance_110 (by decide) ?_ ?_
      · refine S_ (R_lload hO dX2_chance_113 rfl) ?_
        refine S_ (R_goto (tgt := 120) hO dX2_chance_115 (by decide)) ?_
        refine S_ (R_lload hO dX2_chance_120 rfl) ?_
        refine S_ldiv hO dX2_chance_122 ?_
        exact S_lret rfl hO hQ dX2_chance_123 rfl
      · refine S_ (R_lload hO dX2_chance_118 rfl) ?_
        refine S_ (R_lload hO dX2_chance_120 rfl) ?_
        refine S_ldiv hO dX2_chance_122 ?_
        exact S_lret rfl hO hQ dX2_chance_123 rfl
def f_X2_chance (b : Nat) (p2 : Int32) (p3 : Int32) (p4 : Int32) (p5 : Int32) (s0 : Mem) : Option (Int64 × Mem) := bd2 (f_X5_standing b s0) fun x1 s2 => lt (x1) fun x3 => lt ((0 : Int64)) fun x4 => lt ((0 : Int32)) fun x5 => f_X2_chance_12 b p2 p3 p4 p5 FU x3 x4 x5 s2
theorem cs_X2_chance (b : Nat) (hb : isSt b) (p2 : Int32) (p3 : Int32) (p4 : Int32) (p5 : Int32) (s0 : Mem) : CS 6 MX2_chance [.ref 111, .ref b, .int p2, .int p3, .int p4, .int p5] s0 ((f_X2_chance b p2 p3 p4 p5 s0).map wL) := by
  refine CS.of (by decide +kernel) (Nat.le_of_ble_eq_true rfl) (fun X Z hO hQ => ?_)
  show SIM X MX2_chance wL Z 0 [(0, .ref 111), (1, .ref b), (2, .int p2), (3, .int p3), (4, .int p4), (5, .int p5)] [] s0 _
  unfold f_X2_chance
  refine S_ (R_aload_n hO dX2_chance_0 rfl) ?_
  refine S_callVI (rest := []) hO dX2_chance_1 (cs_X5_standing b hb s0) (by omega) lk_X2_48 np_X5_standing (rc_St hb rfl) rfl (Nat.le_of_ble_eq_true rfl) (fun x1 s2 => ?_)
  refine S_istore (L2 := fun x3 => [(6, .int x3), (0, .ref 111), (1, .ref b), (2, .int p2), (3, .int p3), (4, .int p4), (5, .int p5)]) hO dX2_chance_4 (Nat.le_of_ble_eq_true rfl) (fun _ => rfl) (fun x3 => ?_)
  refine S_ (R_lconst (v := (0 : Int64)) hO dX2_chance_6 (by decide)) ?_
  refine S_lstore (L2 := fun x4 => [(7, .long x4), (6, .int x3), (0, .ref 111), (1, .ref b), (2, .int p2), (3, .int p3), (4, .int p4), (5, .int p5)]) hO dX2_chance_7 (Nat.le_of_ble_eq_true rfl) (fun _ => rfl) (fun x4 => ?_)
  refine S_ (R_iconst (v := (0 : Int32)) hO dX2_chance_9 (by decide)) ?_
  refine S_istore (L2 := fun x5 => [(9, .int x5), (7, .long x4), (6, .int x3), (0, .ref 111), (1, .ref b), (2, .int p2), (3, .int p3), (4, .int p4), (5, .int p5)]) hO dX2_chance_10 (Nat.le_of_ble_eq_true rfl) (fun _ => rfl) (fun x5 => ?_)
  refine S_sub [3, 4, 5, 6, 7, 8, 2, 1, 0] rfl ?_
  exact w_X2_chance_12 hO hQ b hb p2 p3 p4 p5 FU x3 x4 x5 s2
def f_X2_decades_117 (b : Nat) (p2 : Int32) (p3 : Int32) (K15 : Int64 → Int32 → Mem → Option (Mem)) (m4 : Int64) (m6 : Int32) (s0 : Mem) : Option (Mem) := bd (f_X5_pass 112 s0) fun s2 => lt (m6 + (1 : Int32)) fun x3 => K15 m4 x3 s2
theorem w_X2_decades_117 {X : CX} {Z : Option Value × Mem → Prop} (hO : OKX X false 4 MX2_decades) (hQ : OKS X Z) (b : Nat) (hb : isSt b) (p2 : Int32) (p3 : Int32) (K15 : Int64 → Int32 → Mem → Option (Mem)) (h15 : ∀ m4 m6 τ, SIM X MX2_decades (wR 112) Z 15 [(0, .ref 111), (1, .ref b), (2, .int p2), (4, .long m4), (6, .int m6)] [] τ (K15 m4 m6 τ)) (m4 : Int64) (m6 : Int32) (s0 : Mem) : SIM X MX2_decades (wR 112) Z 117 [(0, .ref 111), (1, .ref b), (2, .int p2), (4, .long m4), (6, .int m6)] [] s0 (f_X2_decades_117 b p2 p3 K15 m4 m6 s0) := by
  unfold f_X2_decades_117
  refine S_ (R_aload_n hO dX2_decades_117 rfl) ?_
  refine S_getR hO dX2_decades_118 fl_X2_12 sh_111 rfl ?_
  refine S_callVV (rest := []) hO dX2_decades_121 (cs_X5_pass 112 isSt_112 s0) (by omega) lk_X2_40 np_X5_pass (rc_St isSt_112 rfl) rfl (Nat.le_of_ble_eq_true rfl) (fun s2 => ?_)
  refine S_iinc (L2 := fun x3 => [(6, .int x3), (0, .ref 111), (1, .ref b), (2, .int p2), (4, .long m4)]) (v := (1 : Int32)) hO dX2_decades_124 rfl (by decide) (Nat.le_of_ble_eq_true rfl) (fun _ => rfl) (fun x3 => ?_)
  refine S_ (R_goto (tgt := 15) hO dX2_decades_127 (by decide)) ?_
  refine S_sub [1, 2, 3, 4, 0] rfl ?_
  exact h15 m4 x3 s2
def f_X2_decades_15 (b : Nat) (p2 : Int32) (p3 : Int32) : Nat → Int64 → Int32 → Mem → Option (Mem)
  | 0, _, _, _ => none
  | n + 1, m4, m6, s0 => if p2 ≤ m6 then (some s0) else if (s0 b 3) ≤ 0 then (some s0) else lt ((m4 * (16807 : Int64)) - (m4 * (16807 : Int64)) / (2147483647 : Int64) * (2147483647 : Int64)) fun x1 => gd (¬ ((s0 b 3).toInt64) = 0) <| lt ((x1 - x1 / ((s0 b 3).toInt64) * ((s0 b 3).toInt64)).toInt32) fun x2 => ing x2 8 <| if (s0 (112 + 3) x2.toNatClampNeg) ≤ 0 then (if (lg_cmp (x1 - x1 / (5 : Int64) * (5 : Int64)) (0 : Int64)) = 0 then (ing x2 8 <| lt (st2 s0 (112 + 3) x2.toNatClampNeg (50 : Int32)) fun s5 => f_X2_decades_117 b p2 p3 (f_X2_decades_15 b p2 p3 n) x1 m6 s5) else f_X2_decades_117 b p2 p3 (f_X2_decades_15 b p2 p3 n) x1 m6 s0) else if (lg_cmp (x1 - x1 / (2 : Int64) * (2 : Int64)) (0 : Int64)) = 0 then (bd (f_X5_raise 112 x2 (s0 112 4) s0) fun s4 => f_X2_decades_117 b p2 p3 (f_X2_decades_15 b p2 p3 n) x1 m6 s4) else f_X2_decades_117 b p2 p3 (f_X2_decades_15 b p2 p3 n) x1 m6 s0
theorem w_X2_decades_15 {X : CX} {Z : Option Value × Mem → Prop} (hO : OKX X false 4 MX2_decades) (hQ : OKS X Z) (b : Nat) (hb : isSt b) (p2 : Int32) (p3 : Int32) : ∀ (n : Nat) (m4 : Int64) (m6 : Int32) (s0 : Mem), SIM X MX2_decades (wR 112) Z 15 [(0, .ref 111), (1, .ref b), (2, .int p2), (4, .long m4), (6, .int m6)] [] s0 (f_X2_decades_15 b p2 p3 n m4 m6 s0) := by
  intro n
  induction n with
  | zero => intros; exact S_none
  | succ n ih =>
    intro m4 m6 s0
    rw [f_X2_decades_15]
    refine S_ (R_iload hO dX2_decades_15 rfl) ?_
    refine S_ (R_iload_n hO dX2_decades_17 rfl) ?_
    refine S_icmp_ge (tgt := 130) hO dX2_decades_18 (by decide) ?_ ?_
    · refine S_ (R_aload_n hO dX2_decades_21 rfl) ?_
      refine S_getI hO dX2_decades_22 fl_X2_44 hb.1 rfl ?_
      refine S_if_le (tgt := 130) hO dX2_decades_25 (by decide) ?_ ?_
      · refine S_ (R_lload hO dX2_decades_28 rfl) ?_
        refine S_ (R_ldc2 (v := (16807 : Int64)) hO dX2_decades_30 kl_X2_119) ?_
        refine S_ (R_lmul hO dX2_decades_33) ?_
        refine S_ (R_ldc2 (v := (2147483647 : Int64)) hO dX2_decades_34 kl_X2_121) ?_
        refine S_ (R_lrem hO dX2_decades_37 (by decide)) ?_
        refine S_lstore (L2 := fun x1 => [(4, .long x1), (0, .ref 111), (1, .ref b), (2, .int p2), (6, .int m6)]) hO dX2_decades_38 (Nat.le_of_ble_eq_true rfl) (fun _ => rfl) (fun x1 => ?_)
        refine S_ (R_lload hO dX2_decades_40 rfl) ?_
        refine S_ (R_aload_n hO dX2_decades_42 rfl) ?_
        refine S_getI hO dX2_decades_43 fl_X2_44 hb.1 rfl ?_
        refine S_ (R_i2l hO dX2_decades_46) ?_
        refine S_lrem hO dX2_decades_47 ?_
        refine S_ (R_l2i hO dX2_decades_48) ?_
        refine S_istore (L2 := fun x2 => [(7, .int x2), (4, .long x1), (0, .ref 111), (1, .ref b), (2, .int p2), (6, .int m6)]) hO dX2_decades_49 (Nat.le_of_ble_eq_true rfl) (fun _ => rfl) (fun x2 => ?_)
        refine S_ (R_aload_n hO dX2_decades_51 rfl) ?_
        refine S_getR hO dX2_decades_52 fl_X2_12 sh_111 rfl ?_
        refine S_getR hO dX2_decades_55 fl_X2_33 isSt_112.1 rfl ?_
        refine S_ (R_iload hO dX2_decades_58 rfl) ?_
        refine S_iald hO dX2_decades_60 isSt_112.2.2.2 ?_
        refine S_if_le (tgt := 94) hO dX2_decades_61 (by decide) ?_ ?_
        · refine S_ (R_lload hO dX2_decades_64 rfl) ?_
          refine S_ (R_ldc2 (v := (2 : Int64)) hO dX2_decades_66 kl_X2_123) ?_
          refine S_ (R_lrem hO dX2_decades_69 (by decide)) ?_
          refine S_ (R_lconst (v := (0 : Int64)) hO dX2_decades_70 (by decide)) ?_
          refine S_ (R_lcmp hO dX2_decades_71) ?_
          refine S_if_ne (tgt := 117) hO dX2_decades_72 (by decide) ?_ ?_
          · refine S_ (R_aload_n hO dX2_decades_75 rfl) ?_
            refine S_getR hO dX2_decades_76 fl_X2_12 sh_111 rfl ?_
            refine S_ (R_iload hO dX2_decades_79 rfl) ?_
            refine S_ (R_aload_n hO dX2_decades_81 rfl) ?_
            refine S_getR hO dX2_decades_82 fl_X2_12 sh_111 rfl ?_
            refine S_getI hO dX2_decades_85 fl_X2_71 isSt_112.1 rfl ?_
            refine S_callVV (rest := []) hO dX2_decades_88 (cs_X5_raise 112 isSt_112 x2 (s0 112 4) s0) (by omega) lk_X2_74 np_X5_raise (rc_St isSt_112 rfl) rfl (Nat.le_of_ble_eq_true rfl) (fun s4 => ?_)
            refine S_ (R_goto (tgt := 117) hO dX2_decades_91 (by decide)) ?_
            refine S_sub [2, 3, 4, 1, 5] rfl ?_
            exact w_X2_decades_117 hO hQ b hb p2 p3 (f_X2_decades_15 b p2 p3 n) ih x1 m6 s4
          · refine S_sub [2, 3, 4, 1, 5] rfl ?_
            exact w_X2_decades_117 hO hQ b hb p2 p3 (f_X2_decades_15 b p2 p3 n) ih x1 m6 s0
        · refine S_ (R_lload hO dX2_decades_94 rfl) ?_
          refine S_ (R_ldc2 (v := (5 : Int64)) hO dX2_decades_96 kl_X2_125) ?_
          refine S_ (R_lrem hO dX2_decades_99 (by decide)) ?_
          refine S_ (R_lconst (v := (0 : Int64)) hO dX2_decades_100 (by decide)) ?_
          refine S_ (R_lcmp hO dX2_decades_101) ?_
          refine S_if_ne (tgt := 117) hO dX2_decades_102 (by decide) ?_ ?_
          · refine S_ (R_aload_n hO dX2_decades_105 rfl) ?_
            refine S_getR hO dX2_decades_106 fl_X2_12 sh_111 rfl ?_
            refine S_getR hO dX2_decades_109 fl_X2_33 isSt_112.1 rfl ?_
            refine S_ (R_iload hO dX2_decades_112 rfl) ?_
            refine S_ (R_bipush (v := (50 : Int32)) hO dX2_decades_114 (by decide)) ?_
            refine S_iast hO dX2_decades_116 isSt_112.2.2.2 (fun s5 => ?_)
            refine S_sub [2, 3, 4, 1, 5] rfl ?_
            exact w_X2_decades_117 hO hQ b hb p2 p3 (f_X2_decades_15 b p2 p3 n) ih x1 m6 s5
          · refine S_sub [2, 3, 4, 1, 5] rfl ?_
            exact w_X2_decades_117 hO hQ b hb p2 p3 (f_X2_decades_15 b p2 p3 n) ih x1 m6 s0
      · refine S_ (R_aload_n hO dX2_decades_130 rfl) ?_
        refine S_getR hO dX2_decades_131 fl_X2_12 sh_111 rfl ?_
        exact S_rret rfl hO hQ dX2_decades_134 rfl rfl
    · refine S_ (R_aload_n hO dX2_decades_130 rfl) ?_
      refine S_getR hO dX2_decades_131 fl_X2_12 sh_111 rfl ?_
      exact S_rret rfl hO hQ dX2_decades_134 rfl rfl
def f_X2_decades (b : Nat) (p2 : Int32) (p3 : Int32) (s0 : Mem) : Option (Mem) := bd (f_X5_take 112 b s0) fun s2 => lt (p3.toInt64) fun x3 => lt ((0 : Int32)) fun x4 => f_X2_decades_15 b p2 p3 FU x3 x4 s2
theorem cs_X2_decades (b : Nat) (hb : isSt b) (p2 : Int32) (p3 : Int32) (s0 : Mem) : CS 4 MX2_decades [.ref 111, .ref b, .int p2, .int p3] s0 ((f_X2_decades b p2 p3 s0).map (wR 112)) := by
  refine CS.of (by decide +kernel) (Nat.le_of_ble_eq_true rfl) (fun X Z hO hQ => ?_)
  show SIM X MX2_decades (wR 112) Z 0 [(0, .ref 111), (1, .ref b), (2, .int p2), (3, .int p3)] [] s0 _
  unfold f_X2_decades
  refine S_ (R_aload_n hO dX2_decades_0 rfl) ?_
  refine S_getR hO dX2_decades_1 fl_X2_12 sh_111 rfl ?_
  refine S_ (R_aload_n hO dX2_decades_4 rfl) ?_
  refine S_callVV (rest := []) hO dX2_decades_5 (cs_X5_take 112 isSt_112 b hb s0) (by omega) lk_X2_25 np_X5_take (rc_St isSt_112 rfl) rfl (Nat.le_of_ble_eq_true rfl) (fun s2 => ?_)
  refine S_ (R_iload_n hO dX2_decades_8 rfl) ?_
  refine S_ (R_i2l hO dX2_decades_9) ?_
  refine S_lstore (L2 := fun x3 => [(4, .long x3), (0, .ref 111), (1, .ref b), (2, .int p2), (3, .int p3)]) hO dX2_decades_10 (Nat.le_of_ble_eq_true rfl) (fun _ => rfl) (fun x3 => ?_)
  refine S_ (R_iconst (v := (0 : Int32)) hO dX2_decades_12 (by decide)) ?_
  refine S_istore (L2 := fun x4 => [(6, .int x4), (4, .long x3), (0, .ref 111), (1, .ref b), (2, .int p2), (3, .int p3)]) hO dX2_decades_13 (Nat.le_of_ble_eq_true rfl) (fun _ => rfl) (fun x4 => ?_)
  refine S_sub [2, 3, 4, 1, 0] rfl ?_
  exact w_X2_decades_15 hO hQ b hb p2 p3 FU x3 x4 s2
def f_X1_turnTo (b : Nat) (p2 : Int32) (s0 : Mem) : Option (Mem) := lt (st2 s0 157 1 (0 : Int32)) fun s1 => lt (st2 s1 157 2 p2) fun s2 => ing p2 8 <| lt (st2 s2 157 3 (s2 (b + 1) p2.toNatClampNeg)) fun s3 => ing p2 8 <| lt (st2 s3 157 4 (s3 (b + 2) p2.toNatClampNeg)) fun s4 => ing p2 8 <| lt (st2 s4 157 5 (s4 (b + 3) p2.toNatClampNeg)) fun s5 => some s5
theorem cs_X1_turnTo (b : Nat) (hb : isSt b) (p2 : Int32) (s0 : Mem) : CS 1 MX1_turnTo [.ref 157, .ref b, .int p2] s0 ((f_X1_turnTo b p2 s0).map wV) := by
  refine CS.of (by decide +kernel) (Nat.le_of_ble_eq_true rfl) (fun X Z hO hQ => ?_)
  show SIM X MX1_turnTo wV Z 0 [(0, .ref 157), (1, .ref b), (2, .int p2)] [] s0 _
  unfold f_X1_turnTo
  refine S_ (R_aload_n hO dX1_turnTo_0 rfl) ?_
  refine S_ (R_iconst (v := (0 : Int32)) hO dX1_turnTo_1 (by decide)) ?_
  refine S_put hO dX1_turnTo_2 fl_X1_15 sh_157 rfl (fun s1 => ?_)
  refine S_ (R_aload_n hO dX1_turnTo_5 rfl) ?_
  refine S_ (R_iload_n hO dX1_turnTo_6 rfl) ?_
  refine S_put hO dX1_turnTo_7 fl_X1_19 sh_157 rfl (fun s2 => ?_)
  refine S_ (R_aload_n hO dX1_turnTo_10 rfl) ?_
  refine S_ (R_aload_n hO dX1_turnTo_11 rfl) ?_
  refine S_getR hO dX1_turnTo_12 fl_X1_22 hb.1 rfl ?_
  refine S_ (R_iload_n hO dX1_turnTo_15 rfl) ?_
  refine S_iald hO dX1_turnTo_16 hb.2.1 ?_
  refine S_put hO dX1_turnTo_17 fl_X1_27 sh_157 rfl (fun s3 => ?_)
  refine S_ (R_aload_n hO dX1_turnTo_20 rfl) ?_
  refine S_ (R_aload_n hO dX1_turnTo_21 rfl) ?_
  refine S_getR hO dX1_turnTo_22 fl_X1_29 hb.1 rfl ?_
  refine S_ (R_iload_n hO dX1_turnTo_25 rfl) ?_
  refine S_iald hO dX1_turnTo_26 hb.2.2.1 ?_
  refine S_put hO dX1_turnTo_27 fl_X1_32 sh_157 rfl (fun s4 => ?_)
  refine S_ (R_aload_n hO dX1_turnTo_30 rfl) ?_
  refine S_ (R_aload_n hO dX1_turnTo_31 rfl) ?_
  refine S_getR hO dX1_turnTo_32 fl_X1_34 hb.1 rfl ?_
  refine S_ (R_iload_n hO dX1_turnTo_35 rfl) ?_
  refine S_iald hO dX1_turnTo_36 hb.2.2.2 ?_
  refine S_put hO dX1_turnTo_37 fl_X1_37 sh_157 rfl (fun s5 => ?_)
  exact S_vret rfl hO hQ dX1_turnTo_40 rfl
def f_X1_leave (p1 : Int32) (s0 : Mem) : Option (Mem) := if (16 : Int32) ≤ (s0 157 1) then (some s0) else ing (s0 157 1) 16 <| lt (st2 s0 158 (s0 157 1).toNatClampNeg p1) fun s1 => lt (st2 s1 157 1 ((s1 157 1) + (1 : Int32))) fun s2 => some s2
theorem cs_X1_leave (p1 : Int32) (s0 : Mem) : CS 1 MX1_leave [.ref 157, .int p1] s0 ((f_X1_leave p1 s0).map wV) := by
  refine CS.of (by decide +kernel) (Nat.le_of_ble_eq_true rfl) (fun X Z hO hQ => ?_)
  show SIM X MX1_leave wV Z 0 [(0, .ref 157), (1, .int p1)] [] s0 _
  unfold f_X1_leave
  refine S_ (R_aload_n hO dX1_leave_0 rfl) ?_
  refine S_getI hO dX1_leave_1 fl_X1_15 sh_157 rfl ?_
  refine S_ (R_bipush (v := (16 : Int32)) hO dX1_leave_4 (by decide)) ?_
  refine S_icmp_ge (tgt := 29) hO dX1_leave_6 (by decide) ?_ ?_
  · refine S_ (R_aload_n hO dX1_leave_9 rfl) ?_
    refine S_getR hO dX1_leave_10 fl_X1_11 sh_157 rfl ?_
    refine S_ (R_aload_n hO dX1_leave_13 rfl) ?_
    refine S_getI hO dX1_leave_14 fl_X1_15 sh_157 rfl ?_
    refine S_ (R_iload_n hO dX1_leave_17 rfl) ?_
    refine S_iast hO dX1_leave_18 sh_158 (fun s1 => ?_)
    refine S_ (R_aload_n hO dX1_leave_19 rfl) ?_
    refine S_ (R_dup hO dX1_leave_20 rfl) ?_
    refine S_getI hO dX1_leave_21 fl_X1_15 sh_157 rfl ?_
    refine S_ (R_iconst (v := (1 : Int32)) hO dX1_leave_24 (by decide)) ?_
    refine S_ (R_iadd hO dX1_leave_25) ?_
    refine S_put hO dX1_leave_26 fl_X1_15 sh_157 rfl (fun s2 => ?_)
    exact S_vret rfl hO hQ dX1_leave_29 rfl
  · exact S_vret rfl hO hQ dX1_leave_29 rfl
def f_X1_lentSize (s0 : Mem) : Option (Int32 × Mem) := bd (f_X1_leave (10 : Int32) s0) fun s2 => some (s2 157 4, s2)
theorem cs_X1_lentSize (s0 : Mem) : CS 2 MX1_lentSize [.ref 157] s0 ((f_X1_lentSize s0).map wI) := by
  refine CS.of (by decide +kernel) (Nat.le_of_ble_eq_true rfl) (fun X Z hO hQ => ?_)
  show SIM X MX1_lentSize wI Z 0 [(0, .ref 157)] [] s0 _
  unfold f_X1_lentSize
  refine S_ (R_aload_n hO dX1_lentSize_0 rfl) ?_
  refine S_ (R_bipush (v := (10 : Int32)) hO dX1_lentSize_1 (by decide)) ?_
  refine S_callVV (rest := []) hO dX1_lentSize_3 (cs_X1_leave (10 : Int32) s0) (by omega) lk_X1_43 np_X1_leave (rc_157 rfl) rfl (Nat.le_of_ble_eq_true rfl) (fun s2 => ?_)
  refine S_ (R_aload_n hO dX1_lentSize_6 rfl) ?_
  refine S_getI hO dX1_lentSize_7 fl_X1_32 sh_157 rfl ?_
  exact S_iret rfl hO hQ dX1_lentSize_10 rfl
def f_X1_parishSize (s0 : Mem) : Option (Int32 × Mem) := bd (f_X1_leave (13 : Int32) s0) fun s2 => bd2 (f_X1_lentSize s2) fun x3 s4 => some (x3 - (100 : Int32), s4)
theorem cs_X1_parishSize (s0 : Mem) : CS 3 MX1_parishSize [.ref 157] s0 ((f_X1_parishSize s0).map wI) := by
  refine CS.of (by decide +kernel) (Nat.le_of_ble_eq_true rfl) (fun X Z hO hQ => ?_)
  show SIM X MX1_parishSize wI Z 0 [(0, .ref 157)] [] s0 _
  unfold f_X1_parishSize
  refine S_ (R_aload_n hO dX1_parishSize_0 rfl) ?_
  refine S_ (R_bipush (v := (13 : Int32)) hO dX1_parishSize_1 (by decide)) ?_
  refine S_callVV (rest := []) hO dX1_parishSize_3 (cs_X1_leave (13 : Int32) s0) (by omega) lk_X1_43 np_X1_leave (rc_157 rfl) rfl (Nat.le_of_ble_eq_true rfl) (fun s2 => ?_)
  refine S_ (R_aload_n hO dX1_parishSize_6 rfl) ?_
  refine S_callVI (rest := []) hO dX1_parishSize_7 (cs_X1_lentSize s2) (by omega) lk_X1_62 np_X1_lentSize (rc_157 rfl) rfl (Nat.le_of_ble_eq_true rfl) (fun x3 s4 => ?_)
  refine S_ (R_bipush (v := (100 : Int32)) hO dX1_parishSize_10 (by decide)) ?_
  refine S_ (R_isub hO dX1_parishSize_12) ?_
  exact S_iret rfl hO hQ dX1_parishSize_13 rfl
def f_X1_sizeInParish (s0 : Mem) : Option (Int32 × Mem) := if (s0 157 3) = (5 : Int32) then (bd (f_X1_leave (14 : Int32) s0) fun s2 => bd2 (f_X1_parishSize s2) fun x3 s4 => some ((2 : Int32) * x3, s4)) else bd2 (f_X1_parishSize s0) fun x5 s6 => some (x5, s6)
theorem cs_X1_sizeInParish (s0 : Mem) : CS 4 MX1_sizeInParish [.ref 157] s0 ((f_X1_sizeInParish s0).map wI) := by
  refine CS.of (by decide +kernel) (Nat.le_of_ble_eq_true rfl) (fun X Z hO hQ => ?_)
  show SIM X MX1_sizeInParish wI Z 0 [(0, .ref 157)] [] s0 _
  unfold f_X1_sizeInParish
  refine S_ (R_aload_n hO dX1_sizeInParish_0 rfl) ?_
  refine S_getI hO dX1_sizeInParish_1 fl_X1_27 sh_157 rfl ?_
  refine S_ (R_iconst (v := (5 : Int32)) hO dX1_sizeInParish_4 (by decide)) ?_
  refine S_icmp_ne (tgt := 21) hO dX1_sizeInParish_5 (by decide) ?_ ?_
  · refine S_ (R_aload_n hO dX1_sizeInParish_8 rfl) ?_
    refine S_ (R_bipush (v := (14 : Int32)) hO dX1_sizeInParish_9 (by decide)) ?_
    refine S_callVV (rest := []) hO dX1_sizeInParish_11 (cs_X1_leave (14 : Int32) s0) (by omega) lk_X1_43 np_X1_leave (rc_157 rfl) rfl (Nat.le_of_ble_eq_true rfl) (fun s2 => ?_)
    refine S_ (R_iconst (v := (2 : Int32)) hO dX1_sizeInParish_14 (by decide)) ?_
    refine S_ (R_aload_n hO dX1_sizeInParish_15 rfl) ?_
    refine S_callVI (rest := [.int (2 : Int32)]) hO dX1_sizeInParish_16 (cs_X1_parishSize s2) (by omega) lk_X1_56 np_X1_parishSize (rc_157 rfl) rfl (Nat.le_of_ble_eq_true rfl) (fun x3 s4 => ?_)
    refine S_ (R_imul hO dX1_sizeInParish_19) ?_
    exact S_iret rfl hO hQ dX1_sizeInParish_20 rfl
  · refine S_ (R_aload_n hO dX1_sizeInParish_21 rfl) ?_
    refine S_callVI (rest := []) hO dX1_sizeInParish_22 (cs_X1_parishSize s0) (by omega) lk_X1_56 np_X1_parishSize (rc_157 rfl) rfl (Nat.le_of_ble_eq_true rfl) (fun x5 s6 => ?_)
    exact S_iret rfl hO hQ dX1_sizeInParish_25 rfl
def f_X1_lentMark (s0 : Mem) : Option (Int32 × Mem) := bd (f_X1_leave (20 : Int32) s0) fun s2 => some (s2 157 2, s2)
theorem cs_X1_lentMark (s0 : Mem) : CS 2 MX1_lentMark [.ref 157] s0 ((f_X1_lentMark s0).map wI) := by
  refine CS.of (by decide +kernel) (Nat.le_of_ble_eq_true rfl) (fun X Z hO hQ => ?_)
  show SIM X MX1_lentMark wI Z 0 [(0, .ref 157)] [] s0 _
  unfold f_X1_lentMark
  refine S_ (R_aload_n hO dX1_lentMark_0 rfl) ?_
  refine S_ (R_bipush (v := (20 : Int32)) hO dX1_lentMark_1 (by decide)) ?_
  refine S_callVV (rest := []) hO dX1_lentMark_3 (cs_X1_leave (20 : Int32) s0) (by omega) lk_X1_43 np_X1_leave (rc_157 rfl) rfl (Nat.le_of_ble_eq_true rfl) (fun s2 => ?_)
  refine S_ (R_aload_n hO dX1_lentMark_6 rfl) ?_
  refine S_getI hO dX1_lentMark_7 fl_X1_19 sh_157 rfl ?_
  exact S_iret rfl hO hQ dX1_lentMark_10 rfl
def f_X1_woodMark (s0 : Mem) : Option (Int32 × Mem) := bd (f_X1_leave (21 : Int32) s0) fun s2 => bd2 (f_X1_lentMark s2) fun x3 s4 => some (x3 + (s4 157 5), s4)
theorem cs_X1_woodMark (s0 : Mem) : CS 3 MX1_woodMark [.ref 157] s0 ((f_X1_woodMark s0).map wI) := by
  refine CS.of (by decide +kernel) (Nat.le_of_ble_eq_true rfl) (fun X Z hO hQ => ?_)
  show SIM X MX1_woodMark wI Z 0 [(0, .ref 157)] [] s0 _
  unfold f_X1_woodMark
  refine S_ (R_aload_n hO dX1_woodMark_0 rfl) ?_
  refine S_ (R_bipush (v := (21 : Int32)) hO dX1_woodMark_1 (by decide)) ?_
  refine S_callVV (rest := []) hO dX1_woodMark_3 (cs_X1_leave (21 : Int32) s0) (by omega) lk_X1_43 np_X1_leave (rc_157 rfl) rfl (Nat.le_of_ble_eq_true rfl) (fun s2 => ?_)
  refine S_ (R_aload_n hO dX1_woodMark_6 rfl) ?_
  refine S_callVI (rest := []) hO dX1_woodMark_7 (cs_X1_lentMark s2) (by omega) lk_X1_65 np_X1_lentMark (rc_157 rfl) rfl (Nat.le_of_ble_eq_true rfl) (fun x3 s4 => ?_)
  refine S_ (R_aload_n hO dX1_woodMark_10 rfl) ?_
  refine S_getI hO dX1_woodMark_11 fl_X1_37 sh_157 rfl ?_
  refine S_ (R_iadd hO dX1_woodMark_14) ?_
  exact S_iret rfl hO hQ dX1_woodMark_15 rfl
def f_X1_markInWood (s0 : Mem) : Option (Int32 × Mem) := if (s0 157 3) = (2 : Int32) then (bd (f_X1_leave (24 : Int32) s0) fun s2 => bd2 (f_X1_woodMark s2) fun x3 s4 => some ((2 : Int32) * x3, s4)) else if (s0 157 3) = (3 : Int32) then (bd (f_X1_leave (22 : Int32) s0) fun s6 => bd2 (f_X1_woodMark s6) fun x7 s8 => some (x7 - (1000 : Int32), s8)) else bd2 (f_X1_woodMark s0) fun x9 s10 => some (x9, s10)
theorem cs_X1_markInWood (s0 : Mem) : CS 4 MX1_markInWood [.ref 157] s0 ((f_X1_markInWood s0).map wI) := by
  refine CS.of (by decide +kernel) (Nat.le_of_ble_eq_true rfl) (fun X Z hO hQ => ?_)
  show SIM X MX1_markInWood wI Z 0 [(0, .ref 157)] [] s0 _
  unfold f_X1_markInWood
  refine S_ (R_aload_n hO dX1_markInWood_0 rfl) ?_
  refine S_getI hO dX1_markInWood_1 fl_X1_27 sh_157 rfl ?_
  refine S_ (R_iconst (v := (2 : Int32)) hO dX1_markInWood_4 (by decide)) ?_
  refine S_icmp_ne (tgt := 21) hO dX1_markInWood_5 (by decide) ?_ ?_
  · refine S_ (R_aload_n hO dX1_markInWood_8 rfl) ?_
    refine S_ (R_bipush (v := (24 : Int32)) hO dX1_markInWood_9 (by decide)) ?_
    refine S_callVV (rest := []) hO dX1_markInWood_11 (cs_X1_leave (24 : Int32) s0) (by omega) lk_X1_43 np_X1_leave (rc_157 rfl) rfl (Nat.le_of_ble_eq_true rfl) (fun s2 => ?_)
    refine S_ (R_iconst (v := (2 : Int32)) hO dX1_markInWood_14 (by decide)) ?_
    refine S_ (R_aload_n hO dX1_markInWood_15 rfl) ?_
    refine S_callVI (rest := [.int (2 : Int32)]) hO dX1_markInWood_16 (cs_X1_woodMark s2) (by omega) lk_X1_59 np_X1_woodMark (rc_157 rfl) rfl (Nat.le_of_ble_eq_true rfl) (fun x3 s4 => ?_)
    refine S_ (R_imul hO dX1_markInWood_19) ?_
    exact S_iret rfl hO hQ dX1_markInWood_20 rfl
  · refine S_ (R_aload_n hO dX1_markInWood_21 rfl) ?_
    refine S_getI hO dX1_markInWood_22 fl_X1_27 sh_157 rfl ?_
    refine S_ (R_iconst (v := (3 : Int32)) hO dX1_markInWood_25 (by decide)) ?_
    refine S_icmp_ne (tgt := 44) hO dX1_markInWood_26 (by decide) ?_ ?_
    · refine S_ (R_aload_n hO dX1_markInWood_29 rfl) ?_
      refine S_ (R_bipush (v := (22 : Int32)) hO dX1_markInWood_30 (by decide)) ?_
      refine S_callVV (rest := []) hO dX1_markInWood_32 (cs_X1_leave (22 : Int32) s0) (by omega) lk_X1_43 np_X1_leave (rc_157 rfl) rfl (Nat.le_of_ble_eq_true rfl) (fun s6 => ?_)
      refine S_ (R_aload_n hO dX1_markInWood_35 rfl) ?_
      refine S_callVI (rest := []) hO dX1_markInWood_36 (cs_X1_woodMark s6) (by omega) lk_X1_59 np_X1_woodMark (rc_157 rfl) rfl (Nat.le_of_ble_eq_true rfl) (fun x7 s8 => ?_)
      refine S_ (R_sipush (v := (1000 : Int32)) hO dX1_markInWood_39 (by decide)) ?_
      refine S_ (R_isub hO dX1_markInWood_42) ?_
      exact S_iret rfl hO hQ dX1_markInWood_43 rfl
    · refine S_ (R_aload_n hO dX1_markInWood_44 rfl) ?_
      refine S_callVI (rest := []) hO dX1_markInWood_45 (cs_X1_woodMark s0) (by omega) lk_X1_59 np_X1_woodMark (rc_157 rfl) rfl (Nat.le_of_ble_eq_true rfl) (fun x9 s10 => ?_)
      exact S_iret rfl hO hQ dX1_markInWood_48 rfl
def f_X1_woodSize (s0 : Mem) : Option (Int32 × Mem) := bd (f_X1_leave (11 : Int32) s0) fun s2 => bd2 (f_X1_lentSize s2) fun x3 s4 => lt (x3) fun x5 => bd2 (f_X1_markInWood s4) fun x6 s7 => some (x5 + x6, s7)
theorem cs_X1_woodSize (s0 : Mem) : CS 5 MX1_woodSize [.ref 157] s0 ((f_X1_woodSize s0).map wI) := by
  refine CS.of (by decide +kernel) (Nat.le_of_ble_eq_true rfl) (fun X Z hO hQ => ?_)
  show SIM X MX1_woodSize wI Z 0 [(0, .ref 157)] [] s0 _
  unfold f_X1_woodSize
  refine S_ (R_aload_n hO dX1_woodSize_0 rfl) ?_
  refine S_ (R_bipush (v := (11 : Int32)) hO dX1_woodSize_1 (by decide)) ?_
  refine S_callVV (rest := []) hO dX1_woodSize_3 (cs_X1_leave (11 : Int32) s0) (by omega) lk_X1_43 np_X1_leave (rc_157 rfl) rfl (Nat.le_of_ble_eq_true rfl) (fun s2 => ?_)
  refine S_ (R_aload_n hO dX1_woodSize_6 rfl) ?_
  refine S_callVI (rest := []) hO dX1_woodSize_7 (cs_X1_lentSize s2) (by omega) lk_X1_62 np_X1_lentSize (rc_157 rfl) rfl (Nat.le_of_ble_eq_true rfl) (fun x3 s4 => ?_)
  refine S_istore_n (L2 := fun x5 => [(1, .int x5), (0, .ref 157)]) hO dX1_woodSize_10 (Nat.le_of_ble_eq_true rfl) (fun _ => rfl) (fun x5 => ?_)
  refine S_ (R_iload_n hO dX1_woodSize_11 rfl) ?_
  refine S_ (R_aload_n hO dX1_woodSize_12 rfl) ?_
  refine S_callVI (rest := [.int x5]) hO dX1_woodSize_13 (cs_X1_markInWood s4) (by omega) lk_X1_53 np_X1_markInWood (rc_157 rfl) rfl (Nat.le_of_ble_eq_true rfl) (fun x6 s7 => ?_)
  refine S_ (R_iadd hO dX1_woodSize_16) ?_
  exact S_iret rfl hO hQ dX1_woodSize_17 rfl
def f_X1_size_16 (s0 : Mem) : Option (Int32 × Mem) := bd2 (f_X1_sizeInParish s0) fun x1 s2 => some (x1, s2)
theorem w_X1_size_16 {X : CX} {Z : Option Value × Mem → Prop} (hO : OKX X false 6 MX1_size) (hQ : OKS X Z) (s0 : Mem) : SIM X MX1_size wI Z 16 [(0, .ref 157)] [] s0 (f_X1_size_16 s0) := by
  unfold f_X1_size_16
  refine S_ (R_aload_n hO dX1_size_16 rfl) ?_
  refine S_callVI (rest := []) hO dX1_size_17 (cs_X1_sizeInParish s0) (by omega) lk_X1_39 np_X1_sizeInParish (rc_157 rfl) rfl (Nat.le_of_ble_eq_true rfl) (fun x1 s2 => ?_)
  exact S_iret rfl hO hQ dX1_size_20 rfl
def f_X1_size (s0 : Mem) : Option (Int32 × Mem) := if (s0 157 3) = (4 : Int32) then (f_X1_size_16 s0) else if (s0 157 3) = (5 : Int32) then (f_X1_size_16 s0) else if (s0 157 3) = (2 : Int32) then (bd (f_X1_leave (12 : Int32) s0) fun s2 => bd2 (f_X1_woodSize s2) fun x3 s4 => some (-x3, s4)) else bd2 (f_X1_woodSize s0) fun x5 s6 => some (x5, s6)
theorem cs_X1_size (s0 : Mem) : CS 6 MX1_size [.ref 157] s0 ((f_X1_size s0).map wI) := by
  refine CS.of (by decide +kernel) (Nat.le_of_ble_eq_true rfl) (fun X Z hO hQ => ?_)
  show SIM X MX1_size wI Z 0 [(0, .ref 157)] [] s0 _
  unfold f_X1_size
  refine S_ (R_aload_n hO dX1_size_0 rfl) ?_
  refine S_getI hO dX1_size_1 fl_X1_27 sh_157 rfl ?_
  refine S_ (R_iconst (v := (4 : Int32)) hO dX1_size_4 (by decide)) ?_
  refine S_icmp_eq (tgt := 16) hO dX1_size_5 (by decide) ?_ ?_
  · refine S_ (R_aload_n hO dX1_size_8 rfl) ?_
    refine S_getI hO dX1_size_9 fl_X1_27 sh_157 rfl ?_
    refine S_ (R_iconst (v := (5 : Int32)) hO dX1_size_12 (by decide)) ?_
    refine S_icmp_ne (tgt := 21) hO dX1_size_13 (by decide) ?_ ?_
    · refine S_sub [0] rfl ?_
      exact w_X1_size_16 hO hQ s0
    · refine S_ (R_aload_n hO dX1_size_21 rfl) ?_
      refine S_getI hO dX1_size_22 fl_X1_27 sh_157 rfl ?_
      refine S_ (R_iconst (v := (2 : Int32)) hO dX1_size_25 (by decide)) ?_
      refine S_icmp_ne (tgt := 41) hO dX1_size_26 (by decide) ?_ ?_
      · refine S_ (R_aload_n hO dX1_size_29 rfl) ?_
        refine S_ (R_bipush (v := (12 : Int32)) hO dX1_size_30 (by decide)) ?_
        refine S_callVV (rest := []) hO dX1_size_32 (cs_X1_leave (12 : Int32) s0) (by omega) lk_X1_43 np_X1_leave (rc_157 rfl) rfl (Nat.le_of_ble_eq_true rfl) (fun s2 => ?_)
        refine S_ (R_aload_n hO dX1_size_35 rfl) ?_
        refine S_callVI (rest := []) hO dX1_size_36 (cs_X1_woodSize s2) (by omega) lk_X1_47 np_X1_woodSize (rc_157 rfl) rfl (Nat.le_of_ble_eq_true rfl) (fun x3 s4 => ?_)
        refine S_ (R_ineg hO dX1_size_39) ?_
        exact S_iret rfl hO hQ dX1_size_40 rfl
      · refine S_ (R_aload_n hO dX1_size_41 rfl) ?_
        refine S_callVI (rest := []) hO dX1_size_42 (cs_X1_woodSize s0) (by omega) lk_X1_47 np_X1_woodSize (rc_157 rfl) rfl (Nat.le_of_ble_eq_true rfl) (fun x5 s6 => ?_)
        exact S_iret rfl hO hQ dX1_size_45 rfl
  · refine S_sub [0] rfl ?_
    exact w_X1_size_16 hO hQ s0
def f_X1_parishMark (s0 : Mem) : Option (Int32 × Mem) := bd (f_X1_leave (23 : Int32) s0) fun s2 => bd2 (f_X1_lentMark s2) fun x3 s4 => lt (x3) fun x5 => bd2 (f_X1_sizeInParish s4) fun x6 s7 => some (x5 - x6, s7)
theorem cs_X1_parishMark (s0 : Mem) : CS 5 MX1_parishMark [.ref 157] s0 ((f_X1_parishMark s0).map wI) := by
  refine CS.of (by decide +kernel) (Nat.le_of_ble_eq_true rfl) (fun X Z hO hQ => ?_)
  show SIM X MX1_parishMark wI Z 0 [(0, .ref 157)] [] s0 _
  unfold f_X1_parishMark
  refine S_ (R_aload_n hO dX1_parishMark_0 rfl) ?_
  refine S_ (R_bipush (v := (23 : Int32)) hO dX1_parishMark_1 (by decide)) ?_
  refine S_callVV (rest := []) hO dX1_parishMark_3 (cs_X1_leave (23 : Int32) s0) (by omega) lk_X1_43 np_X1_leave (rc_157 rfl) rfl (Nat.le_of_ble_eq_true rfl) (fun s2 => ?_)
  refine S_ (R_aload_n hO dX1_parishMark_6 rfl) ?_
  refine S_callVI (rest := []) hO dX1_parishMark_7 (cs_X1_lentMark s2) (by omega) lk_X1_65 np_X1_lentMark (rc_157 rfl) rfl (Nat.le_of_ble_eq_true rfl) (fun x3 s4 => ?_)
  refine S_istore_n (L2 := fun x5 => [(1, .int x5), (0, .ref 157)]) hO dX1_parishMark_10 (Nat.le_of_ble_eq_true rfl) (fun _ => rfl) (fun x5 => ?_)
  refine S_ (R_iload_n hO dX1_parishMark_11 rfl) ?_
  refine S_ (R_aload_n hO dX1_parishMark_12 rfl) ?_
  refine S_callVI (rest := [.int x5]) hO dX1_parishMark_13 (cs_X1_sizeInParish s4) (by omega) lk_X1_39 np_X1_sizeInParish (rc_157 rfl) rfl (Nat.le_of_ble_eq_true rfl) (fun x6 s7 => ?_)
  refine S_ (R_isub hO dX1_parishMark_16) ?_
  exact S_iret rfl hO hQ dX1_parishMark_17 rfl
def f_X1_mark_16 (s0 : Mem) : Option (Int32 × Mem) := bd2 (f_X1_parishMark s0) fun x1 s2 => some (x1, s2)
theorem w_X1_mark_16 {X : CX} {Z : Option Value × Mem → Prop} (hO : OKX X false 6 MX1_mark) (hQ : OKS X Z) (s0 : Mem) : SIM X MX1_mark wI Z 16 [(0, .ref 157)] [] s0 (f_X1_mark_16 s0) := by
  unfold f_X1_mark_16
  refine S_ (R_aload_n hO dX1_mark_16 rfl) ?_
  refine S_callVI (rest := []) hO dX1_mark_17 (cs_X1_parishMark s0) (by omega) lk_X1_50 np_X1_parishMark (rc_157 rfl) rfl (Nat.le_of_ble_eq_true rfl) (fun x1 s2 => ?_)
  refine S_ (R_goto (tgt := 27) hO dX1_mark_20 (by decide)) ?_
  exact S_iret rfl hO hQ dX1_mark_27 rfl
def f_X1_mark (s0 : Mem) : Option (Int32 × Mem) := if (s0 157 3) = (4 : Int32) then (f_X1_mark_16 s0) else if (s0 157 3) = (5 : Int32) then (f_X1_mark_16 s0) else bd2 (f_X1_markInWood s0) fun x1 s2 => some (x1, s2)
theorem cs_X1_mark (s0 : Mem) : CS 6 MX1_mark [.ref 157] s0 ((f_X1_mark s0).map wI) := by
  refine CS.of (by decide +kernel) (Nat.le_of_ble_eq_true rfl) (fun X Z hO hQ => ?_)
  show SIM X MX1_mark wI Z 0 [(0, .ref 157)] [] s0 _
  unfold f_X1_mark
  refine S_ (R_aload_n hO dX1_mark_0 rfl) ?_
  refine S_getI hO dX1_mark_1 fl_X1_27 sh_157 rfl ?_
  refine S_ (R_iconst (v := (4 : Int32)) hO dX1_mark_4 (by decide)) ?_
  refine S_icmp_eq (tgt := 16) hO dX1_mark_5 (by decide) ?_ ?_
  · refine S_ (R_aload_n hO dX1_mark_8 rfl) ?_
    refine S_getI hO dX1_mark_9 fl_X1_27 sh_157 rfl ?_
    refine S_ (R_iconst (v := (5 : Int32)) hO dX1_mark_12 (by decide)) ?_
    refine S_icmp_ne (tgt := 23) hO dX1_mark_13 (by decide) ?_ ?_
    · refine S_sub [0] rfl ?_
      exact w_X1_mark_16 hO hQ s0
    · refine S_ (R_aload_n hO dX1_mark_23 rfl) ?_
      refine S_callVI (rest := []) hO dX1_mark_24 (cs_X1_markInWood s0) (by omega) lk_X1_53 np_X1_markInWood (rc_157 rfl) rfl (Nat.le_of_ble_eq_true rfl) (fun x1 s2 => ?_)
      exact S_iret rfl hO hQ dX1_mark_27 rfl
  · refine S_sub [0] rfl ?_
    exact w_X1_mark_16 hO hQ s0
