theorem kc_J6_265 : Cond.constant RJ6 265 (1431655765 : Int32) ∈ TS := (TSi 661 (by decide +kernel) (by decide +kernel))
theorem kc_J6_266 : Cond.constant RJ6 266 (858993459 : Int32) ∈ TS := (TSi 662 (by decide +kernel) (by decide +kernel))
theorem kc_J6_267 : Cond.constant RJ6 267 (252645135 : Int32) ∈ TS := (TSi 663 (by decide +kernel) (by decide +kernel))
def f_J6_bitCount_0f7a4 (p0 : Int32) (s0 : Mem) : Option (Int32 × Mem) := lt (p0 - (((p0.toUInt32 >>> ((1 : Int32).toUInt32 &&& Int32.toUInt32 31)).toInt32) &&& (1431655765 : Int32))) fun x1 => lt ((x1 &&& (858993459 : Int32)) + (((x1.toUInt32 >>> ((2 : Int32).toUInt32 &&& Int32.toUInt32 31)).toInt32) &&& (858993459 : Int32))) fun x2 => lt ((x2 + ((x2.toUInt32 >>> ((4 : Int32).toUInt32 &&& Int32.toUInt32 31)).toInt32)) &&& (252645135 : Int32)) fun x3 => lt (x3 + ((x3.toUInt32 >>> ((8 : Int32).toUInt32 &&& Int32.toUInt32 31)).toInt32)) fun x4 => lt (x4 + ((x4.toUInt32 >>> ((16 : Int32).toUInt32 &&& Int32.toUInt32 31)).toInt32)) fun x5 => some (x5 &&& (63 : Int32), s0)
theorem cs_J6_bitCount_0f7a4 (p0 : Int32) (s0 : Mem) : CS 1 MJ6_bitCount_0f7a4 [.int p0] s0 ((f_J6_bitCount_0f7a4 p0 s0).map wI) := by
  refine CS.of (by decide +kernel) (Nat.le_of_ble_eq_true rfl) (fun X Z hO hQ => ?_)
  show SIM X MJ6_bitCount_0f7a4 wI Z 0 [(0, .int p0)] [] s0 _
  unfold f_J6_bitCount_0f7a4
  refine S_ (R_iload_n hO dJ6_bitCount_0f7a4_0 rfl) ?_
  refine S_ (R_iload_n hO dJ6_bitCount_0f7a4_1 rfl) ?_
  refine S_ (R_iconst (v := (1 : Int32)) hO dJ6_bitCount_0f7a4_2 (by decide)) ?_
  refine S_ (R_iushr hO dJ6_bitCount_0f7a4_3) ?_
  refine S_ (R_ldc_w (v := (1431655765 : Int32)) hO dJ6_bitCount_0f7a4_4 kc_J6_265) ?_
  refine S_ (R_iand hO dJ6_bitCount_0f7a4_7) ?_
  refine S_ (R_isub hO dJ6_bitCount_0f7a4_8) ?_
  refine S_istore_n (L2 := fun x1 => [(0, .int x1)]) hO dJ6_bitCount_0f7a4_9 (Nat.le_of_ble_eq_true rfl) (fun _ => rfl) (fun x1 => ?_)
  refine S_ (R_iload_n hO dJ6_bitCount_0f7a4_10 rfl) ?_
  refine S_ (R_ldc_w (v := (858993459 : Int32)) hO dJ6_bitCount_0f7a4_11 kc_J6_266) ?_
  refine S_ (R_iand hO dJ6_bitCount_0f7a4_14) ?_
  refine S_ (R_iload_n hO dJ6_bitCount_0f7a4_15 rfl) ?_
  refine S_ (R_iconst (v := (2 : Int32)) hO dJ6_bitCount_0f7a4_16 (by decide)) ?_
  refine S_ (R_iushr hO dJ6_bitCount_0f7a4_17) ?_
  refine S_ (R_ldc_w (v := (858993459 : Int32)) hO dJ6_bitCount_0f7a4_18 kc_J6_266) ?_
  refine S_ (R_iand hO dJ6_bitCount_0f7a4_21) ?_
  refine S_ (R_iadd hO dJ6_bitCount_0f7a4_22) ?_
  refine S_istore_n (L2 := fun x2 => [(0, .int x2)]) hO dJ6_bitCount_0f7a4_23 (Nat.le_of_ble_eq_true rfl) (fun _ => rfl) (fun x2 => ?_)
  refine S_ (R_iload_n hO dJ6_bitCount_0f7a4_24 rfl) ?_
  refine S_ (R_iload_n hO dJ6_bitCount_0f7a4_25 rfl) ?_
  refine S_ (R_iconst (v := (4 : Int32)) hO dJ6_bitCount_0f7a4_26 (by decide)) ?_
  refine S_ (R_iushr hO dJ6_bitCount_0f7a4_27) ?_
  refine S_ (R_iadd hO dJ6_bitCount_0f7a4_28) ?_
  refine S_ (R_ldc_w (v := (252645135 : Int32)) hO dJ6_bitCount_0f7a4_29 kc_J6_267) ?_
  refine S_ (R_iand hO dJ6_bitCount_0f7a4_32) ?_
  refine S_istore_n (L2 := fun x3 => [(0, .int x3)]) hO dJ6_bitCount_0f7a4_33 (Nat.le_of_ble_eq_true rfl) (fun _ => rfl) (fun x3 => ?_)
  refine S_ (R_iload_n hO dJ6_bitCount_0f7a4_34 rfl) ?_
  refine S_ (R_iload_n hO dJ6_bitCount_0f7a4_35 rfl) ?_
  refine S_ (R_bipush (v := (8 : Int32)) hO dJ6_bitCount_0f7a4_36 (by decide)) ?_
  refine S_ (R_iushr hO dJ6_bitCount_0f7a4_38) ?_
  refine S_ (R_iadd hO dJ6_bitCount_0f7a4_39) ?_
  refine S_istore_n (L2 := fun x4 => [(0, .int x4)]) hO dJ6_bitCount_0f7a4_40 (Nat.le_of_ble_eq_true rfl) (fun _ => rfl) (fun x4 => ?_)
  refine S_ (R_iload_n hO dJ6_bitCount_0f7a4_41 rfl) ?_
  refine S_ (R_iload_n hO dJ6_bitCount_0f7a4_42 rfl) ?_
  refine S_ (R_bipush (v := (16 : Int32)) hO dJ6_bitCount_0f7a4_43 (by decide)) ?_
  refine S_ (R_iushr hO dJ6_bitCount_0f7a4_45) ?_
  refine S_ (R_iadd hO dJ6_bitCount_0f7a4_46) ?_
  refine S_istore_n (L2 := fun x5 => [(0, .int x5)]) hO dJ6_bitCount_0f7a4_47 (Nat.le_of_ble_eq_true rfl) (fun _ => rfl) (fun x5 => ?_)
  refine S_ (R_iload_n hO dJ6_bitCount_0f7a4_48 rfl) ?_
  refine S_ (R_bipush (v := (63 : Int32)) hO dJ6_bitCount_0f7a4_49 (by decide)) ?_
  refine S_ (R_iand hO dJ6_bitCount_0f7a4_51) ?_
  exact S_iret rfl hO hQ dJ6_bitCount_0f7a4_52 rfl
