/-! CONSTRUCTORS, walked with their numbers: printed by program -/
theorem ci_X5 {h : AH} {n : Nat} (hn : h.length = n) (hl : n < 990) : C true 2 MX5_init 3 24 [.ref n] (h ++ [(5, [.null, .null, .null, .int 0, .int 0, .int 0, .int 0, .int 0])]) (fun v h' => v = none ∧ h' = h ++ stC n) := by
  subst hn
  refine C.of (by decide +kernel) (Nat.le_of_ble_eq_true rfl) (fun X hO hQ => ?_)
  have hrm := roomQ hQ
  show R X MX5_init 0 [(0, .ref h.length)] [] _ 0 0
  refine R_aload_n hO dX5_init_0 rfl ?_
  refine R_objInit hO dX5_init_1 (by omega) (TSi 104 (by decide +kernel) (by decide +kernel)) (Nat.le_of_ble_eq_true rfl) ?_
  refine R_aload_n hO dX5_init_4 rfl ?_
  refine R_bipush (v := (8 : Int32)) hO dX5_init_5 (by decide) ?_
  refine Q_newi (N := 8) (n := h.length + 1) (h2 := h ++ (5, [.null, .null, .null, .int 0, .int 0, .int 0, .int 0, .int 0]) :: [z8]) (c2 := 1) (s2 := 8) hO dX5_init_7 (by decide) (by decide) (by decide) (by simp) (by omega) (by simp [z8]) rfl rfl (room_le hrm (by decide) (by decide)) ?_
  refine R_putq (fs := [.null, .null, .null, .int 0, .int 0, .int 0, .int 0, .int 0]) (h2 := h ++ (5, [.ref (h.length + 1), .null, .null, .int 0, .int 0, .int 0, .int 0, .int 0]) :: [z8]) hO dX5_init_9 fl_X5_9 (Or.inr ⟨rfl, rfl⟩) ap_len (Nat.le_of_ble_eq_true rfl) (fun _ => rfl) (fun _ => rfl) ap_set ?_
  refine R_aload_n hO dX5_init_12 rfl ?_
  refine R_bipush (v := (8 : Int32)) hO dX5_init_13 (by decide) ?_
  refine Q_newi (N := 8) (n := h.length + 2) (h2 := h ++ (5, [.ref (h.length + 1), .null, .null, .int 0, .int 0, .int 0, .int 0, .int 0]) :: [z8, z8]) (c2 := 2) (s2 := 16) hO dX5_init_15 (by decide) (by decide) (by decide) (by simp) (by omega) (by simp [z8]) rfl rfl (room_le hrm (by decide) (by decide)) ?_
  refine R_putq (fs := [.ref (h.length + 1), .null, .null, .int 0, .int 0, .int 0, .int 0, .int 0]) (h2 := h ++ (5, [.ref (h.length + 1), .ref (h.length + 2), .null, .int 0, .int 0, .int 0, .int 0, .int 0]) :: [z8, z8]) hO dX5_init_17 fl_X5_15 (Or.inr ⟨rfl, rfl⟩) ap_len (Nat.le_of_ble_eq_true rfl) (fun _ => rfl) (fun _ => rfl) ap_set ?_
  refine R_aload_n hO dX5_init_20 rfl ?_
  refine R_bipush (v := (8 : Int32)) hO dX5_init_21 (by decide) ?_
  refine Q_newi (N := 8) (n := h.length + 3) (h2 := h ++ (5, [.ref (h.length + 1), .ref (h.length + 2), .null, .int 0, .int 0, .int 0, .int 0, .int 0]) :: [z8, z8, z8]) (c2 := 3) (s2 := 24) hO dX5_init_23 (by decide) (by decide) (by decide) (by simp) (by omega) (by simp [z8]) rfl rfl (room_le hrm (by decide) (by decide)) ?_
  refine R_putq (fs := [.ref (h.length + 1), .ref (h.length + 2), .null, .int 0, .int 0, .int 0, .int 0, .int 0]) (h2 := h ++ (5, [.ref (h.length + 1), .ref (h.length + 2), .ref (h.length + 3), .int 0, .int 0, .int 0, .int 0, .int 0]) :: [z8, z8, z8]) hO dX5_init_25 fl_X5_18 (Or.inr ⟨rfl, rfl⟩) ap_len (Nat.le_of_ble_eq_true rfl) (fun _ => rfl) (fun _ => rfl) ap_set ?_
  exact R_vret hO hQ dX5_init_28 rfl ⟨rfl, rfl⟩
theorem ci_X4 {h : AH} {n : Nat} (hn : h.length = n) (hl : n < 990) : C true 2 MX4_init 1 40 [.ref n] (h ++ [(4, [.null, .int 0, .int 0, .int 0])]) (fun v h' => v = none ∧ h' = h ++ rwC n) := by
  subst hn
  refine C.of (by decide +kernel) (Nat.le_of_ble_eq_true rfl) (fun X hO hQ => ?_)
  have hrm := roomQ hQ
  show R X MX4_init 0 [(0, .ref h.length)] [] _ 0 0
  refine R_aload_n hO dX4_init_0 rfl ?_
  refine R_objInit hO dX4_init_1 (by omega) (TSi 276 (by decide +kernel) (by decide +kernel)) (Nat.le_of_ble_eq_true rfl) ?_
  refine R_aload_n hO dX4_init_4 rfl ?_
  refine R_bipush (v := (40 : Int32)) hO dX4_init_5 (by decide) ?_
  refine Q_newi (N := 40) (n := h.length + 1) (h2 := h ++ (4, [.null, .int 0, .int 0, .int 0]) :: [(20, List.replicate 40 (.int 0))]) (c2 := 1) (s2 := 40) hO dX4_init_7 (by decide) (by decide) (by decide) (by simp) (by omega) (by simp) rfl rfl (room_le hrm (by decide) (by decide)) ?_
  refine R_putq (fs := [.null, .int 0, .int 0, .int 0]) (h2 := h ++ (4, [.ref (h.length + 1), .int 0, .int 0, .int 0]) :: [(20, List.replicate 40 (.int 0))]) hO dX4_init_9 fl_X4_9 (Or.inr ⟨rfl, rfl⟩) ap_len (Nat.le_of_ble_eq_true rfl) (fun _ => rfl) (fun _ => rfl) ap_set ?_
  refine R_aload_n hO dX4_init_12 rfl ?_
  refine R_iconst (v := (1 : Int32)) hO dX4_init_13 (by decide) ?_
  refine R_putq (fs := [.ref (h.length + 1), .int 0, .int 0, .int 0]) (h2 := h ++ (4, [.ref (h.length + 1), .int 1, .int 0, .int 0]) :: [(20, List.replicate 40 (.int 0))]) hO dX4_init_14 fl_X4_15 (Or.inl rfl) ap_len (Nat.le_of_ble_eq_true rfl) (fun _ => rfl) (fun _ => rfl) ap_set ?_
  exact R_vret hO hQ dX4_init_17 rfl ⟨rfl, rfl⟩
def hs_0 : AH := []
def hs_1 : AH := hs_0 ++ [(7, [.null, .null, .null, .null, .null, .null, .null, .null, .int 0, .int 0])]
def hs_2 : AH := hs_1 ++ [(23, List.replicate 8 .null)]
def hs_3 : AH := hs_2.set 0 (7, [.ref 1, .null, .null, .null, .null, .null, .null, .null, .int 0, .int 0])
def hs_4 : AH := hs_3 ++ [(6, [.null, .int 0, .int 0, .int 0, .null])]
theorem kk_X6_init : Cond.initialized MX6_init.1.cls ∈ TS ∧ Cond.code MX6_init.1 MX6_init.2.1 MX6_init.2.2.1 MX6_init.2.2.2 ∈ TS ∧ (MX6_init.1.cls ≠ "java/lang/invoke/MethodHandle" ∧ MX6_init.1.cls ≠ "java/lang/invoke/VarHandle") ∧ MX6_init.2.2.1 ≤ 40 := ⟨(TSi 67 (by decide +kernel) (by decide +kernel)), (TSi 97 (by decide +kernel) (by decide +kernel)), ⟨by decide +kernel, by decide +kernel⟩, by decide⟩
theorem ki_X6_init : MX6_init.1.name = "<init>" ∧ Cond.instanceMethod MX6_init.1 ∈ TS := ⟨rfl, (TSi 96 (by decide +kernel) (by decide +kernel))⟩
theorem kp_X6_init : (parseMethodDescriptor MX6_init.1.desc).map (fun d => d.parameters.length) = some 0 := by decide +kernel
def hs_5 : AH := hs_4 ++ [(5, [.null, .null, .null, .int 0, .int 0, .int 0, .int 0, .int 0])]
theorem kk_X5_init : Cond.initialized MX5_init.1.cls ∈ TS ∧ Cond.code MX5_init.1 MX5_init.2.1 MX5_init.2.2.1 MX5_init.2.2.2 ∈ TS ∧ (MX5_init.1.cls ≠ "java/lang/invoke/MethodHandle" ∧ MX5_init.1.cls ≠ "java/lang/invoke/VarHandle") ∧ MX5_init.2.2.1 ≤ 40 := ⟨(TSi 68 (by decide +kernel) (by decide +kernel)), (TSi 103 (by decide +kernel) (by decide +kernel)), ⟨by decide +kernel, by decide +kernel⟩, by decide⟩
theorem ki_X5_init : MX5_init.1.name = "<init>" ∧ Cond.instanceMethod MX5_init.1 ∈ TS := ⟨rfl, (TSi 102 (by decide +kernel) (by decide +kernel))⟩
theorem kp_X5_init : (parseMethodDescriptor MX5_init.1.desc).map (fun d => d.parameters.length) = some 0 := by decide +kernel
def hs_6 : AH := hs_4 ++ stC 3
def hs_7 : AH := hs_6.set 2 (6, [.ref 3, .int 0, .int 0, .int 0, .null])
def hs_8 : AH := hs_7 ++ [(20, List.replicate 100 (.int 0))]
def hs_9 : AH := hs_8.set 2 (6, [.ref 3, .int 0, .int 0, .int 0, .ref 7])
set_option maxRecDepth 20000 in
set_option maxHeartbeats 4000000 in
theorem ci_X6_init : C true 3 MX6_init 5 132 [.ref 2] hs_4 (fun v h' => v = none ∧ h' = hs_9) := by
  refine C.of (by decide +kernel) (Nat.le_of_ble_eq_true rfl) (fun X hO hQ => ?_)
  have hrm := roomQ hQ
  show R X MX6_init 0 [(0, .ref 2)] [] hs_4 0 0
  refine R_aload_n hO dX6_init_0 rfl ?_
  refine R_objInit hO dX6_init_1 (by omega) (TSi 98 (by decide +kernel) (by decide +kernel)) (Nat.le_of_ble_eq_true rfl) ?_
  refine R_aload_n hO dX6_init_4 rfl ?_
  refine Q_new (ci := 5) (N := 8) (T := TX5) (ty := tyX5) (n := 3) (fs := [.null, .null, .null, .int 0, .int 0, .int 0, .int 0, .int 0]) (h2 := hs_5) (c2 := 1) (s2 := 8) hO dX6_init_5 ⟨(TSi 99 (by decide +kernel) (by decide +kernel)), (TSi 100 (by decide +kernel) (by decide +kernel)), (TSi 68 (by decide +kernel) (by decide +kernel))⟩ rfl (by decide) uin_5 tyX5_ok (by decide +kernel) (fun _ => rfl) (by decide +kernel) (by decide) rfl rfl rfl (room_le hrm (by decide) (by decide)) ?_
  refine R_dup hO dX6_init_8 rfl ?_
  refine Q_init (d2 := 2) (mc := 3) (ms := 24) (h2 := hs_6) (c2 := 4) (s2 := 32) hO dX6_init_9 (ci_X5 (h := hs_4) (n := 3) (by decide +kernel) (by decide)) (by decide) rfl (Or.inr (by decide +kernel)) ki_X5_init kk_X5_init kp_X5_init (Nat.le_of_ble_eq_true rfl) rfl rfl (room_le hrm (by decide) (by decide)) ?_
  refine R_putq (fs := [.null, .int 0, .int 0, .int 0, .null]) (h2 := hs_7) hO dX6_init_12 fl_X6_12 (Or.inr ⟨rfl, rfl⟩) (by decide +kernel) (by decide) (fun _ => rfl) (fun _ => rfl) rfl ?_
  refine R_aload_n hO dX6_init_15 rfl ?_
  refine R_bipush (v := (100 : Int32)) hO dX6_init_16 (by decide) ?_
  refine Q_newi (N := 100) (n := 7) (h2 := hs_8) (c2 := 5) (s2 := 132) hO dX6_init_18 (by decide) (by decide) (by decide) (by decide +kernel) (by decide) rfl rfl rfl (room_le hrm (by decide) (by decide)) ?_
  refine R_putq (fs := [.ref 3, .int 0, .int 0, .int 0, .null]) (h2 := hs_9) hO dX6_init_20 fl_X6_18 (Or.inr ⟨rfl, rfl⟩) (by decide +kernel) (by decide) (fun _ => rfl) (fun _ => rfl) rfl ?_
  exact R_vret hO hQ dX6_init_23 rfl ⟨rfl, rfl⟩
def hs_10 : AH := hs_9.set 0 (7, [.ref 1, .ref 2, .null, .null, .null, .null, .null, .null, .int 0, .int 0])
def hs_11 : AH := hs_10 ++ [(5, [.null, .null, .null, .int 0, .int 0, .int 0, .int 0, .int 0])]
def hs_12 : AH := hs_10 ++ stC 8
def hs_13 : AH := hs_12.set 0 (7, [.ref 1, .ref 2, .ref 8, .null, .null, .null, .null, .null, .int 0, .int 0])
def hs_14 : AH := hs_13 ++ [(22, List.replicate 2 .null)]
def hs_15 : AH := hs_14.set 0 (7, [.ref 1, .ref 2, .ref 8, .ref 12, .null, .null, .null, .null, .int 0, .int 0])
def hs_16 : AH := hs_15 ++ [(0, [.null, .int 0, .int 0])]
theorem kk_X0_init : Cond.initialized MX0_init.1.cls ∈ TS ∧ Cond.code MX0_init.1 MX0_init.2.1 MX0_init.2.2.1 MX0_init.2.2.2 ∈ TS ∧ (MX0_init.1.cls ≠ "java/lang/invoke/MethodHandle" ∧ MX0_init.1.cls ≠ "java/lang/invoke/VarHandle") ∧ MX0_init.2.2.1 ≤ 40 := ⟨(TSi 69 (by decide +kernel) (by decide +kernel)), (TSi 181 (by decide +kernel) (by decide +kernel)), ⟨by decide +kernel, by decide +kernel⟩, by decide⟩
theorem ki_X0_init : MX0_init.1.name = "<init>" ∧ Cond.instanceMethod MX0_init.1 ∈ TS := ⟨rfl, (TSi 180 (by decide +kernel) (by decide +kernel))⟩
theorem kp_X0_init : (parseMethodDescriptor MX0_init.1.desc).map (fun d => d.parameters.length) = some 0 := by decide +kernel
def hs_17 : AH := hs_16 ++ [(22, List.replicate 24 .null)]
def hs_18 : AH := hs_17.set 13 (0, [.ref 14, .int 0, .int 0])
def hs_19 : AH := hs_18 ++ [(5, [.null, .null, .null, .int 0, .int 0, .int 0, .int 0, .int 0])]
def hs_20 : AH := hs_18 ++ stC 15
def hs_21 : AH := hs_20.set 14 (22, [.ref 15, .null, .null, .null, .null, .null, .null, .null, .null, .null, .null, .null, .null, .null, .null, .null, .null, .null, .null, .null, .null, .null, .null, .null])
def hs_22 : AH := hs_21 ++ [(5, [.null, .null, .null, .int 0, .int 0, .int 0, .int 0, .int 0])]
def hs_23 : AH := hs_21 ++ stC 19
def hs_24 : AH := hs_23.set 14 (22, [.ref 15, .ref 19, .null, .null, .null, .null, .null, .null, .null, .null, .null, .null, .null, .null, .null, .null, .null, .null, .null, .null, .null, .null, .null, .null])
def hs_25 : AH := hs_24 ++ [(5, [.null, .null, .null, .int 0, .int 0, .int 0, .int 0, .int 0])]
def hs_26 : AH := hs_24 ++ stC 23
def hs_27 : AH := hs_26.set 14 (22, [.ref 15, .ref 19, .ref 23, .null, .null, .null, .null, .null, .null, .null, .null, .null, .null, .null, .null, .null, .null, .null, .null, .null, .null, .null, .null, .null])
def hs_28 : AH := hs_27 ++ [(5, [.null, .null, .null, .int 0, .int 0, .int 0, .int 0, .int 0])]
def hs_29 : AH := hs_27 ++ stC 27
def hs_30 : AH := hs_29.set 14 (22, [.ref 15, .ref 19, .ref 23, .ref 27, .null, .null, .null, .null, .null, .null, .null, .null, .null, .null, .null, .null, .null, .null, .null, .null, .null, .null, .null, .null])
def hs_31 : AH := hs_30 ++ [(5, [.null, .null, .null, .int 0, .int 0, .int 0, .int 0, .int 0])]
def hs_32 : AH := hs_30 ++ stC 31
def hs_33 : AH := hs_32.set 14 (22, [.ref 15, .ref 19, .ref 23, .ref 27, .ref 31, .null, .null, .null, .null, .null, .null, .null, .null, .null, .null, .null, .null, .null, .null, .null, .null, .null, .null, .null])
def hs_34 : AH := hs_33 ++ [(5, [.null, .null, .null, .int 0, .int 0, .int 0, .int 0, .int 0])]
def hs_35 : AH := hs_33 ++ stC 35
def hs_36 : AH := hs_35.set 14 (22, [.ref 15, .ref 19, .ref 23, .ref 27, .ref 31, .ref 35, .null, .null, .null, .null, .null, .null, .null, .null, .null, .null, .null, .null, .null, .null, .null, .null, .null, .null])
def hs_37 : AH := hs_36 ++ [(5, [.null, .null, .null, .int 0, .int 0, .int 0, .int 0, .int 0])]
def hs_38 : AH := hs_36 ++ stC 39
def hs_39 : AH := hs_38.set 14 (22, [.ref 15, .ref 19, .ref 23, .ref 27, .ref 31, .ref 35, .ref 39, .null, .null, .null, .null, .null, .null, .null, .null, .null, .null, .null, .null, .null, .null, .null, .null, .null])
def hs_40 : AH := hs_39 ++ [(5, [.null, .null, .null, .int 0, .int 0, .int 0, .int 0, .int 0])]
def hs_41 : AH := hs_39 ++ stC 43
def hs_42 : AH := hs_41.set 14 (22, [.ref 15, .ref 19, .ref 23, .ref 27, .ref 31, .ref 35, .ref 39, .ref 43, .null, .null, .null, .null, .null, .null, .null, .null, .null, .null, .null, .null, .null, .null, .null, .null])
def hs_43 : AH := hs_42 ++ [(5, [.null, .null, .null, .int 0, .int 0, .int 0, .int 0, .int 0])]
def hs_44 : AH := hs_42 ++ stC 47
def hs_45 : AH := hs_44.set 14 (22, [.ref 15, .ref 19, .ref 23, .ref 27, .ref 31, .ref 35, .ref 39, .ref 43, .ref 47, .null, .null, .null, .null, .null, .null, .null, .null, .null, .null, .null, .null, .null, .null, .null])
def hs_46 : AH := hs_45 ++ [(5, [.null, .null, .null, .int 0, .int 0, .int 0, .int 0, .int 0])]
def hs_47 : AH := hs_45 ++ stC 51
def hs_48 : AH := hs_47.set 14 (22, [.ref 15, .ref 19, .ref 23, .ref 27, .ref 31, .ref 35, .ref 39, .ref 43, .ref 47, .ref 51, .null, .null, .null, .null, .null, .null, .null, .null, .null, .null, .null, .null, .null, .null])
def hs_49 : AH := hs_48 ++ [(5, [.null, .null, .null, .int 0, .int 0, .int 0, .int 0, .int 0])]
def hs_50 : AH := hs_48 ++ stC 55
def hs_51 : AH := hs_50.set 14 (22, [.ref 15, .ref 19, .ref 23, .ref 27, .ref 31, .ref 35, .ref 39, .ref 43, .ref 47, .ref 51, .ref 55, .null, .null, .null, .null, .null, .null, .null, .null, .null, .null, .null, .null, .null])
def hs_52 : AH := hs_51 ++ [(5, [.null, .null, .null, .int 0, .int 0, .int 0, .int 0, .int 0])]
def hs_53 : AH := hs_51 ++ stC 59
def hs_54 : AH := hs_53.set 14 (22, [.ref 15, .ref 19, .ref 23, .ref 27, .ref 31, .ref 35, .ref 39, .ref 43, .ref 47, .ref 51, .ref 55, .ref 59, .null, .null, .null, .null, .null, .null, .null, .null, .null, .null, .null, .null])
def hs_55 : AH := hs_54 ++ [(5, [.null, .null, .null, .int 0, .int 0, .int 0, .int 0, .int 0])]
def hs_56 : AH := hs_54 ++ stC 63
def hs_57 : AH := hs_56.set 14 (22, [.ref 15, .ref 19, .ref 23, .ref 27, .ref 31, .ref 35, .ref 39, .ref 43, .ref 47, .ref 51, .ref 55, .ref 59, .ref 63, .null, .null, .null, .null, .null, .null, .null, .null, .null, .null, .null])
def hs_58 : AH := hs_57 ++ [(5, [.null, .null, .null, .int 0, .int 0, .int 0, .int 0, .int 0])]
def hs_59 : AH := hs_57 ++ stC 67
def hs_60 : AH := hs_59.set 14 (22, [.ref 15, .ref 19, .ref 23, .ref 27, .ref 31, .ref 35, .ref 39, .ref 43, .ref 47, .ref 51, .ref 55, .ref 59, .ref 63, .ref 67, .null, .null, .null, .null, .null, .null, .null, .null, .null, .null])
def hs_61 : AH := hs_60 ++ [(5, [.null, .null, .null, .int 0, .int 0, .int 0, .int 0, .int 0])]
def hs_62 : AH := hs_60 ++ stC 71
def hs_63 : AH := hs_62.set 14 (22, [.ref 15, .ref 19, .ref 23, .ref 27, .ref 31, .ref 35, .ref 39, .ref 43, .ref 47, .ref 51, .ref 55, .ref 59, .ref 63, .ref 67, .ref 71, .null, .null, .null, .null, .null, .null, .null, .null, .null])
def hs_64 : AH := hs_63 ++ [(5, [.null, .null, .null, .int 0, .int 0, .int 0, .int 0, .int 0])]
def hs_65 : AH := hs_63 ++ stC 75
def hs_66 : AH := hs_65.set 14 (22, [.ref 15, .ref 19, .ref 23, .ref 27, .ref 31, .ref 35, .ref 39, .ref 43, .ref 47, .ref 51, .ref 55, .ref 59, .ref 63, .ref 67, .ref 71, .ref 75, .null, .null, .null, .null, .null, .null, .null, .null])
def hs_67 : AH := hs_66 ++ [(5, [.null, .null, .null, .int 0, .int 0, .int 0, .int 0, .int 0])]
def hs_68 : AH := hs_66 ++ stC 79
def hs_69 : AH := hs_68.set 14 (22, [.ref 15, .ref 19, .ref 23, .ref 27, .ref 31, .ref 35, .ref 39, .ref 43, .ref 47, .ref 51, .ref 55, .ref 59, .ref 63, .ref 67, .ref 71, .ref 75, .ref 79, .null, .null, .null, .null, .null, .null, .null])
def hs_70 : AH := hs_69 ++ [(5, [.null, .null, .null, .int 0, .int 0, .int 0, .int 0, .int 0])]
def hs_71 : AH := hs_69 ++ stC 83
def hs_72 : AH := hs_71.set 14 (22, [.ref 15, .ref 19, .ref 23, .ref 27, .ref 31, .ref 35, .ref 39, .ref 43, .ref 47, .ref 51, .ref 55, .ref 59, .ref 63, .ref 67, .ref 71, .ref 75, .ref 79, .ref 83, .null, .null, .null, .null, .null, .null])
def hs_73 : AH := hs_72 ++ [(5, [.null, .null, .null, .int 0, .int 0, .int 0, .int 0, .int 0])]
def hs_74 : AH := hs_72 ++ stC 87
def hs_75 : AH := hs_74.set 14 (22, [.ref 15, .ref 19, .ref 23, .ref 27, .ref 31, .ref 35, .ref 39, .ref 43, .ref 47, .ref 51, .ref 55, .ref 59, .ref 63, .ref 67, .ref 71, .ref 75, .ref 79, .ref 83, .ref 87, .null, .null, .null, .null, .null])
def hs_76 : AH := hs_75 ++ [(5, [.null, .null, .null, .int 0, .int 0, .int 0, .int 0, .int 0])]
def hs_77 : AH := hs_75 ++ stC 91
def hs_78 : AH := hs_77.set 14 (22, [.ref 15, .ref 19, .ref 23, .ref 27, .ref 31, .ref 35, .ref 39, .ref 43, .ref 47, .ref 51, .ref 55, .ref 59, .ref 63, .ref 67, .ref 71, .ref 75, .ref 79, .ref 83, .ref 87, .ref 91, .null, .null, .null, .null])
def hs_79 : AH := hs_78 ++ [(5, [.null, .null, .null, .int 0, .int 0, .int 0, .int 0, .int 0])]
def hs_80 : AH := hs_78 ++ stC 95
def hs_81 : AH := hs_80.set 14 (22, [.ref 15, .ref 19, .ref 23, .ref 27, .ref 31, .ref 35, .ref 39, .ref 43, .ref 47, .ref 51, .ref 55, .ref 59, .ref 63, .ref 67, .ref 71, .ref 75, .ref 79, .ref 83, .ref 87, .ref 91, .ref 95, .null, .null, .null])
def hs_82 : AH := hs_81 ++ [(5, [.null, .null, .null, .int 0, .int 0, .int 0, .int 0, .int 0])]
def hs_83 : AH := hs_81 ++ stC 99
def hs_84 : AH := hs_83.set 14 (22, [.ref 15, .ref 19, .ref 23, .ref 27, .ref 31, .ref 35, .ref 39, .ref 43, .ref 47, .ref 51, .ref 55, .ref 59, .ref 63, .ref 67, .ref 71, .ref 75, .ref 79, .ref 83, .ref 87, .ref 91, .ref 95, .ref 99, .null, .null])
def hs_85 : AH := hs_84 ++ [(5, [.null, .null, .null, .int 0, .int 0, .int 0, .int 0, .int 0])]
def hs_86 : AH := hs_84 ++ stC 103
def hs_87 : AH := hs_86.set 14 (22, [.ref 15, .ref 19, .ref 23, .ref 27, .ref 31, .ref 35, .ref 39, .ref 43, .ref 47, .ref 51, .ref 55, .ref 59, .ref 63, .ref 67, .ref 71, .ref 75, .ref 79, .ref 83, .ref 87, .ref 91, .ref 95, .ref 99, .ref 103, .null])
def hs_88 : AH := hs_87 ++ [(5, [.null, .null, .null, .int 0, .int 0, .int 0, .int 0, .int 0])]
def hs_89 : AH := hs_87 ++ stC 107
def hs_90 : AH := hs_89.set 14 (22, [.ref 15, .ref 19, .ref 23, .ref 27, .ref 31, .ref 35, .ref 39, .ref 43, .ref 47, .ref 51, .ref 55, .ref 59, .ref 63, .ref 67, .ref 71, .ref 75, .ref 79, .ref 83, .ref 87, .ref 91, .ref 95, .ref 99, .ref 103, .ref 107])
set_option maxRecDepth 20000 in
set_option maxHeartbeats 4000000 in
theorem ci_X0_init : C true 3 MX0_init 97 792 [.ref 13] hs_16 (fun v h' => v = none ∧ h' = hs_90) := by
  refine C.of (by decide +kernel) (Nat.le_of_ble_eq_true rfl) (fun X hO hQ => ?_)
  have hrm := roomQ hQ
  show R X MX0_init 0 [(0, .ref 13)] [] hs_16 0 0
  refine R_aload_n hO dX0_init_0 rfl ?_
  refine R_objInit hO dX0_init_1 (by omega) (TSi 182 (by decide +kernel) (by decide +kernel)) (Nat.le_of_ble_eq_true rfl) ?_
  refine R_aload_n hO dX0_init_4 rfl ?_
  refine R_bipush (v := (24 : Int32)) hO dX0_init_5 (by decide) ?_
  refine Q_newq (N := 24) (n := 14) (h2 := hs_17) (c2 := 1) (s2 := 24) hO dX0_init_7 (Or.inl ⟨rfl, rfl, rfl⟩) (TSi 183 (by decide +kernel) (by decide +kernel)) (by decide) (by decide) (by decide) (by decide +kernel) (by decide) rfl rfl rfl (room_le hrm (by decide) (by decide)) ?_
  refine R_putq (fs := [.null, .int 0, .int 0]) (h2 := hs_18) hO dX0_init_10 fl_X0_11 (Or.inr ⟨rfl, rfl⟩) (by decide +kernel) (by decide) (fun _ => rfl) (fun _ => rfl) rfl ?_
  refine R_iconst (v := (0 : Int32)) hO dX0_init_13 (by decide) ?_
  refine R_istore_n (L2 := [(1, .int (0 : Int32)), (0, .ref 13)]) hO dX0_init_14 (Nat.le_of_ble_eq_true rfl) rfl ?_
  refine R_iload_n hO dX0_init_15 rfl ?_
  refine R_bipush (v := (24 : Int32)) hO dX0_init_16 (by decide) ?_
  refine R_icmp_ge (tgt := 40) hO dX0_init_18 (by decide) (fun c => absurd c (by decide)) (fun _ => ?_)
  refine R_aload_n hO dX0_init_21 rfl ?_
  refine R_getf (fs := [.ref 14, .int 0, .int 0]) hO dX0_init_22 fl_X0_11 (by decide +kernel) rfl ?_
  refine R_iload_n hO dX0_init_25 rfl ?_
  refine Q_new (ci := 5) (N := 8) (T := TX5) (ty := tyX5) (n := 15) (fs := [.null, .null, .null, .int 0, .int 0, .int 0, .int 0, .int 0]) (h2 := hs_19) (c2 := 2) (s2 := 32) hO dX0_init_26 ⟨(TSi 183 (by decide +kernel) (by decide +kernel)), (TSi 100 (by decide +kernel) (by decide +kernel)), (TSi 68 (by decide +kernel) (by decide +kernel))⟩ rfl (by decide) uin_5 tyX5_ok (by decide +kernel) (fun _ => rfl) (by decide +kernel) (by decide) rfl rfl rfl (room_le hrm (by decide) (by decide)) ?_
  refine R_dup hO dX0_init_29 rfl ?_
  refine Q_init (d2 := 2) (mc := 3) (ms := 24) (h2 := hs_20) (c2 := 5) (s2 := 56) hO dX0_init_30 (ci_X5 (h := hs_18) (n := 15) (by decide +kernel) (by decide)) (by decide) rfl (Or.inr (by decide +kernel)) ki_X5_init kk_X5_init kp_X5_init (Nat.le_of_ble_eq_true rfl) rfl rfl (room_le hrm (by decide) (by decide)) ?_
  refine R_aastq (ci := 5) (n := 0) (fs := [.null, .null, .null, .null, .null, .null, .null, .null, .null, .null, .null, .null, .null, .null, .null, .null, .null, .null, .null, .null, .null, .null, .null, .null]) (vs := [.ref 16, .ref 17, .ref 18, .int 0, .int 0, .int 0, .int 0, .int 0]) (h2 := hs_21) hO dX0_init_33 (Or.inl ⟨rfl, rfl, rfl⟩) (by decide +kernel) (by decide +kernel) (by decide) rfl rfl (by decide) (by decide) rfl ?_
  refine R_iinc (v := (1 : Int32)) (L2 := [(1, .int (1 : Int32)), (0, .ref 13)]) hO dX0_init_34 rfl (by decide) (Nat.le_of_ble_eq_true rfl) rfl ?_
  refine R_goto (tgt := 15) hO dX0_init_37 (by decide) ?_
  refine R_iload_n hO dX0_init_15 rfl ?_
  refine R_bipush (v := (24 : Int32)) hO dX0_init_16 (by decide) ?_
  refine R_icmp_ge (tgt := 40) hO dX0_init_18 (by decide) (fun c => absurd c (by decide)) (fun _ => ?_)
  refine R_aload_n hO dX0_init_21 rfl ?_
  refine R_getf (fs := [.ref 14, .int 0, .int 0]) hO dX0_init_22 fl_X0_11 (by decide +kernel) rfl ?_
  refine R_iload_n hO dX0_init_25 rfl ?_
  refine Q_new (ci := 5) (N := 8) (T := TX5) (ty := tyX5) (n := 19) (fs := [.null, .null, .null, .int 0, .int 0, .int 0, .int 0, .int 0]) (h2 := hs_22) (c2 := 6) (s2 := 64) hO dX0_init_26 ⟨(TSi 183 (by decide +kernel) (by decide +kernel)), (TSi 100 (by decide +kernel) (by decide +kernel)), (TSi 68 (by decide +kernel) (by decide +kernel))⟩ rfl (by decide) uin_5 tyX5_ok (by decide +kernel) (fun _ => rfl) (by decide +kernel) (by decide) rfl rfl rfl (room_le hrm (by decide) (by decide)) ?_
  refine R_dup hO dX0_init_29 rfl ?_
  refine Q_init (d2 := 2) (mc := 3) (ms := 24) (h2 := hs_23) (c2 := 9) (s2 := 88) hO dX0_init_30 (ci_X5 (h := hs_21) (n := 19) (by decide +kernel) (by decide)) (by decide) rfl (Or.inr (by decide +kernel)) ki_X5_init kk_X5_init kp_X5_init (Nat.le_of_ble_eq_true rfl) rfl rfl (room_le hrm (by decide) (by decide)) ?_
  refine R_aastq (ci := 5) (n := 1) (fs := [.ref 15, .null, .null, .null, .null, .null, .null, .null, .null, .null, .null, .null, .null, .null, .null, .null, .null, .null, .null, .null, .null, .null, .null, .null]) (vs := [.ref 20, .ref 21, .ref 22, .int 0, .int 0, .int 0, .int 0, .int 0]) (h2 := hs_24) hO dX0_init_33 (Or.inl ⟨rfl, rfl, rfl⟩) (by decide +kernel) (by decide +kernel) (by decide) rfl rfl (by decide) (by decide) rfl ?_
  refine R_iinc (v := (2 : Int32)) (L2 := [(1, .int (2 : Int32)), (0, .ref 13)]) hO dX0_init_34 rfl (by decide) (Nat.le_of_ble_eq_true rfl) rfl ?_
  refine R_goto (tgt := 15) hO dX0_init_37 (by decide) ?_
  refine R_iload_n hO dX0_init_15 rfl ?_
  refine R_bipush (v := (24 : Int32)) hO dX0_init_16 (by decide) ?_
  refine R_icmp_ge (tgt := 40) hO dX0_init_18 (by decide) (fun c => absurd c (by decide)) (fun _ => ?_)
  refine R_aload_n hO dX0_init_21 rfl ?_
  refine R_getf (fs := [.ref 14, .int 0, .int 0]) hO dX0_init_22 fl_X0_11 (by decide +kernel) rfl ?_
  refine R_iload_n hO dX0_init_25 rfl ?_
  refine Q_new (ci := 5) (N := 8) (T := TX5) (ty := tyX5) (n := 23) (fs := [.null, .null, .null, .int 0, .int 0, .int 0, .int 0, .int 0]) (h2 := hs_25) (c2 := 10) (s2 := 96) hO dX0_init_26 ⟨(TSi 183 (by decide +kernel) (by decide +kernel)), (TSi 100 (by decide +kernel) (by decide +kernel)), (TSi 68 (by decide +kernel) (by decide +kernel))⟩ rfl (by decide) uin_5 tyX5_ok (by decide +kernel) (fun _ => rfl) (by decide +kernel) (by decide) rfl rfl rfl (room_le hrm (by decide) (by decide)) ?_
  refine R_dup hO dX0_init_29 rfl ?_
  refine Q_init (d2 := 2) (mc := 3) (ms := 24) (h2 := hs_26) (c2 := 13) (s2 := 120) hO dX0_init_30 (ci_X5 (h := hs_24) (n := 23) (by decide +kernel) (by decide)) (by decide) rfl (Or.inr (by decide +kernel)) ki_X5_init kk_X5_init kp_X5_init (Nat.le_of_ble_eq_true rfl) rfl rfl (room_le hrm (by decide) (by decide)) ?_
  refine R_aastq (ci := 5) (n := 2) (fs := [.ref 15, .ref 19, .null, .null, .null, .null, .null, .null, .null, .null, .null, .null, .null, .null, .null, .null, .null, .null, .null, .null, .null, .null, .null, .null]) (vs := [.ref 24, .ref 25, .ref 26, .int 0, .int 0, .int 0, .int 0, .int 0]) (h2 := hs_27) hO dX0_init_33 (Or.inl ⟨rfl, rfl, rfl⟩) (by decide +kernel) (by decide +kernel) (by decide) rfl rfl (by decide) (by decide) rfl ?_
  refine R_iinc (v := (3 : Int32)) (L2 := [(1, .int (3 : Int32)), (0, .ref 13)]) hO dX0_init_34 rfl (by decide) (Nat.le_of_ble_eq_true rfl) rfl ?_
  refine R_goto (tgt := 15) hO dX0_init_37 (by decide) ?_
  refine R_iload_n hO dX0_init_15 rfl ?_
  refine R_bipush (v := (24 : Int32)) hO dX0_init_16 (by decide) ?_
  refine R_icmp_ge (tgt := 40) hO dX0_init_18 (by decide) (fun c => absurd c (by decide)) (fun _ => ?_)
  refine R_aload_n hO dX0_init_21 rfl ?_
  refine R_getf (fs := [.ref 14, .int 0, .int 0]) hO dX0_init_22 fl_X0_11 (by decide +kernel) rfl ?_
  refine R_iload_n hO dX0_init_25 rfl ?_
  refine Q_new (ci := 5) (N := 8) (T := TX5) (ty := tyX5) (n := 27) (fs := [.null, .null, .null, .int 0, .int 0, .int 0, .int 0, .int 0]) (h2 := hs_28) (c2 := 14) (s2 := 128) hO dX0_init_26 ⟨(TSi 183 (by decide +kernel) (by decide +kernel)), (TSi 100 (by decide +kernel) (by decide +kernel)), (TSi 68 (by decide +kernel) (by decide +kernel))⟩ rfl (by decide) uin_5 tyX5_ok (by decide +kernel) (fun _ => rfl) (by decide +kernel) (by decide) rfl rfl rfl (room_le hrm (by decide) (by decide)) ?_
  refine R_dup hO dX0_init_29 rfl ?_
  refine Q_init (d2 := 2) (mc := 3) (ms := 24) (h2 := hs_29) (c2 := 17) (s2 := 152) hO dX0_init_30 (ci_X5 (h := hs_27) (n := 27) (by decide +kernel) (by decide)) (by decide) rfl (Or.inr (by decide +kernel)) ki_X5_init kk_X5_init kp_X5_init (Nat.le_of_ble_eq_true rfl) rfl rfl (room_le hrm (by decide) (by decide)) ?_
  refine R_aastq (ci := 5) (n := 3) (fs := [.ref 15, .ref 19, .ref 23, .null, .null, .null, .null, .null, .null, .null, .null, .null, .null, .null, .null, .null, .null, .null, .null, .null, .null, .null, .null, .null]) (vs := [.ref 28, .ref 29, .ref 30, .int 0, .int 0, .int 0, .int 0, .int 0]) (h2 := hs_30) hO dX0_init_33 (Or.inl ⟨rfl, rfl, rfl⟩) (by decide +kernel) (by decide +kernel) (by decide) rfl rfl (by decide) (by decide) rfl ?_
  refine R_iinc (v := (4 : Int32)) (L2 := [(1, .int (4 : Int32)), (0, .ref 13)]) hO dX0_init_34 rfl (by decide) (Nat.le_of_ble_eq_true rfl) rfl ?_
  refine R_goto (tgt := 15) hO dX0_init_37 (by decide) ?_
  refine R_iload_n hO dX0_init_15 rfl ?_
  refine R_bipush (v := (24 : Int32)) hO dX0_init_16 (by decide) ?_
  refine R_icmp_ge (tgt := 40) hO dX0_init_18 (by decide) (fun c => absurd c (by decide)) (fun _ => ?_)
  refine R_aload_n hO dX0_init_21 rfl ?_
  refine R_getf (fs := [.ref 14, .int 0, .int 0]) hO dX0_init_22 fl_X0_11 (by decide +kernel) rfl ?_
  refine R_iload_n hO dX0_init_25 rfl ?_
  refine Q_new (ci := 5) (N := 8) (T := TX5) (ty := tyX5) (n := 31) (fs := [.null, .null, .null, .int 0, .int 0, .int 0, .int 0, .int 0]) (h2 := hs_31) (c2 := 18) (s2 := 160) hO dX0_init_26 ⟨(TSi 183 (by decide +kernel) (by decide +kernel)), (TSi 100 (by decide +kernel) (by decide +kernel)), (TSi 68 (by decide +kernel) (by decide +kernel))⟩ rfl (by decide) uin_5 tyX5_ok (by decide +kernel) (fun _ => rfl) (by decide +kernel) (by decide) rfl rfl rfl (room_le hrm (by decide) (by decide)) ?_
  refine R_dup hO dX0_init_29 rfl ?_
  refine Q_init (d2 := 2) (mc := 3) (ms := 24) (h2 := hs_32) (c2 := 21) (s2 := 184) hO dX0_init_30 (ci_X5 (h := hs_30) (n := 31) (by decide +kernel) (by decide)) (by decide) rfl (Or.inr (by decide +kernel)) ki_X5_init kk_X5_init kp_X5_init (Nat.le_of_ble_eq_true rfl) rfl rfl (room_le hrm (by decide) (by decide)) ?_
  refine R_aastq (ci := 5) (n := 4) (fs := [.ref 15, .ref 19, .ref 23, .ref 27, .null, .null, .null, .null, .null, .null, .null, .null, .null, .null, .null, .null, .null, .null, .null, .null, .null, .null, .null, .null]) (vs := [.ref 32, .ref 33, .ref 34, .int 0, .int 0, .int 0, .int 0, .int 0]) (h2 := hs_33) hO dX0_init_33 (Or.inl ⟨rfl, rfl, rfl⟩) (by decide +kernel) (by decide +kernel) (by decide) rfl rfl (by decide) (by decide) rfl ?_
  refine R_iinc (v := (5 : Int32)) (L2 := [(1, .int (5 : Int32)), (0, .ref 13)]) hO dX0_init_34 rfl (by decide) (Nat.le_of_ble_eq_true rfl) rfl ?_
  refine R_goto (tgt := 15) hO dX0_init_37 (by decide) ?_
  refine R_iload_n hO dX0_init_15 rfl ?_
  refine R_bipush (v := (24 : Int32)) hO dX0_init_16 (by decide) ?_
  refine R_icmp_ge (tgt := 40) hO dX0_init_18 (by decide) (fun c => absurd c (by decide)) (fun _ => ?_)
  refine R_aload_n hO dX0_init_21 rfl ?_
  refine R_getf (fs := [.ref 14, .int 0, .int 0]) hO dX0_init_22 fl_X0_11 (by decide +kernel) rfl ?_
  refine R_iload_n hO dX0_init_25 rfl ?_
  refine Q_new (ci := 5) (N := 8) (T := TX5) (ty := tyX5) (n := 35) (fs := [.null, .null, .null, .int 0, .int 0, .int 0, .int 0, .int 0]) (h2 := hs_34) (c2 := 22) (s2 := 192) hO dX0_init_26 ⟨(TSi 183 (by decide +kernel) (by decide +kernel)), (TSi 100 (by decide +kernel) (by decide +kernel)), (TSi 68 (by decide +kernel) (by decide +kernel))⟩ rfl (by decide) uin_5 tyX5_ok (by decide +kernel) (fun _ => rfl) (by decide +kernel) (by decide) rfl rfl rfl (room_le hrm (by decide) (by decide)) ?_
  refine R_dup hO dX0_init_29 rfl ?_
  refine Q_init (d2 := 2) (mc := 3) (ms := 24) (h2 := hs_35) (c2 := 25) (s2 := 216) hO dX0_init_30 (ci_X5 (h := hs_33) (n := 35) (by decide +kernel) (by decide)) (by decide) rfl (Or.inr (by decide +kernel)) ki_X5_init kk_X5_init kp_X5_init (Nat.le_of_ble_eq_true rfl) rfl rfl (room_le hrm (by decide) (by decide)) ?_
  refine R_aastq (ci := 5) (n := 5) (fs := [.ref 15, .ref 19, .ref 23, .ref 27, .ref 31, .null, .null, .null, .null, .null, .null, .null, .null, .null, .null, .null, .null, .null, .null, .null, .null, .null, .null, .null]) (vs := [.ref 36, .ref 37, .ref 38, .int 0, .int 0, .int 0, .int 0, .int 0]) (h2 := hs_36) hO dX0_init_33 (Or.inl ⟨rfl, rfl, rfl⟩) (by decide +kernel) (by decide +kernel) (by decide) rfl rfl (by decide) (by decide) rfl ?_
  refine R_iinc (v := (6 : Int32)) (L2 := [(1, .int (6 : Int32)), (0, .ref 13)]) hO dX0_init_34 rfl (by decide) (Nat.le_of_ble_eq_true rfl) rfl ?_
  refine R_goto (tgt := 15) hO dX0_init_37 (by decide) ?_
  refine R_iload_n hO dX0_init_15 rfl ?_
  refine R_bipush (v := (24 : Int32)) hO dX0_init_16 (by decide) ?_
  refine R_icmp_ge (tgt := 40) hO dX0_init_18 (by decide) (fun c => absurd c (by decide)) (fun _ => ?_)
  refine R_aload_n hO dX0_init_21 rfl ?_
  refine R_getf (fs := [.ref 14, .int 0, .int 0]) hO dX0_init_22 fl_X0_11 (by decide +kernel) rfl ?_
  refine R_iload_n hO dX0_init_25 rfl ?_
  refine Q_new (ci := 5) (N := 8) (T := TX5) (ty := tyX5) (n := 39) (fs := [.null, .null, .null, .int 0, .int 0, .int 0, .int 0, .int 0]) (h2 := hs_37) (c2 := 26) (s2 := 224) hO dX0_init_26 ⟨(TSi 183 (by decide +kernel) (by decide +kernel)), (TSi 100 (by decide +kernel) (by decide +kernel)), (TSi 68 (by decide +kernel) (by decide +kernel))⟩ rfl (by decide) uin_5 tyX5_ok (by decide +kernel) (fun _ => rfl) (by decide +kernel) (by decide) rfl rfl rfl (room_le hrm (by decide) (by decide)) ?_
  refine R_dup hO dX0_init_29 rfl ?_
  refine Q_init (d2 := 2) (mc := 3) (ms := 24) (h2 := hs_38) (c2 := 29) (s2 := 248) hO dX0_init_30 (ci_X5 (h := hs_36) (n := 39) (by decide +kernel) (by decide)) (by decide) rfl (Or.inr (by decide +kernel)) ki_X5_init kk_X5_init kp_X5_init (Nat.le_of_ble_eq_true rfl) rfl rfl (room_le hrm (by decide) (by decide)) ?_
  refine R_aastq (ci := 5) (n := 6) (fs := [.ref 15, .ref 19, .ref 23, .ref 27, .ref 31, .ref 35, .null, .null, .null, .null, .null, .null, .null, .null, .null, .null, .null, .null, .null, .null, .null, .null, .null, .null]) (vs := [.ref 40, .ref 41, .ref 42, .int 0, .int 0, .int 0, .int 0, .int 0]) (h2 := hs_39) hO dX0_init_33 (Or.inl ⟨rfl, rfl, rfl⟩) (by decide +kernel) (by decide +kernel) (by decide) rfl rfl (by decide) (by decide) rfl ?_
  refine R_iinc (v := (7 : Int32)) (L2 := [(1, .int (7 : Int32)), (0, .ref 13)]) hO dX0_init_34 rfl (by decide) (Nat.le_of_ble_eq_true rfl) rfl ?_
  refine R_goto (tgt := 15) hO dX0_init_37 (by decide) ?_
  refine R_iload_n hO dX0_init_15 rfl ?_
  refine R_bipush (v := (24 : Int32)) hO dX0_init_16 (by decide) ?_
  refine R_icmp_ge (tgt := 40) hO dX0_init_18 (by decide) (fun c => absurd c (by decide)) (fun _ => ?_)
  refine R_aload_n hO dX0_init_21 rfl ?_
  refine R_getf (fs := [.ref 14, .int 0, .int 0]) hO dX0_init_22 fl_X0_11 (by decide +kernel) rfl ?_
  refine R_iload_n hO dX0_init_25 rfl ?_
  refine Q_new (ci := 5) (N := 8) (T := TX5) (ty := tyX5) (n := 43) (fs := [.null, .null, .null, .int 0, .int 0, .int 0, .int 0, .int 0]) (h2 := hs_40) (c2 := 30) (s2 := 256) hO dX0_init_26 ⟨(TSi 183 (by decide +kernel) (by decide +kernel)), (TSi 100 (by decide +kernel) (by decide +kernel)), (TSi 68 (by decide +kernel) (by decide +kernel))⟩ rfl (by decide) uin_5 tyX5_ok (by decide +kernel) (fun _ => rfl) (by decide +kernel) (by decide) rfl rfl rfl (room_le hrm (by decide) (by decide)) ?_
  refine R_dup hO dX0_init_29 rfl ?_
  refine Q_init (d2 := 2) (mc := 3) (ms := 24) (h2 := hs_41) (c2 := 33) (s2 := 280) hO dX0_init_30 (ci_X5 (h := hs_39) (n := 43) (by decide +kernel) (by decide)) (by decide) rfl (Or.inr (by decide +kernel)) ki_X5_init kk_X5_init kp_X5_init (Nat.le_of_ble_eq_true rfl) rfl rfl (room_le hrm (by decide) (by decide)) ?_
  refine R_aastq (ci := 5) (n := 7) (fs := [.ref 15, .ref 19, .ref 23, .ref 27, .ref 31, .ref 35, .ref 39, .null, .null, .null, .null, .null, .null, .null, .null, .null, .null, .null, .null, .null, .null, .null, .null, .null]) (vs := [.ref 44, .ref 45, .ref 46, .int 0, .int 0, .int 0, .int 0, .int 0]) (h2 := hs_42) hO dX0_init_33 (Or.inl ⟨rfl, rfl, rfl⟩) (by decide +kernel) (by decide +kernel) (by decide) rfl rfl (by decide) (by decide) rfl ?_
  refine R_iinc (v := (8 : Int32)) (L2 := [(1, .int (8 : Int32)), (0, .ref 13)]) hO dX0_init_34 rfl (by decide) (Nat.le_of_ble_eq_true rfl) rfl ?_
  refine R_goto (tgt := 15) hO dX0_init_37 (by decide) ?_
  refine R_iload_n hO dX0_init_15 rfl ?_
  refine R_bipush (v := (24 : Int32)) hO dX0_init_16 (by decide) ?_
  refine R_icmp_ge (tgt := 40) hO dX0_init_18 (by decide) (fun c => absurd c (by decide)) (fun _ => ?_)
  refine R_aload_n hO dX0_init_21 rfl ?_
  refine R_getf (fs := [.ref 14, .int 0, .int 0]) hO dX0_init_22 fl_X0_11 (by decide +kernel) rfl ?_
  refine R_iload_n hO dX0_init_25 rfl ?_
  refine Q_new (ci := 5) (N := 8) (T := TX5) (ty := tyX5) (n := 47) (fs := [.null, .null, .null, .int 0, .int 0, .int 0, .int 0, .int 0]) (h2 := hs_43) (c2 := 34) (s2 := 288) hO dX0_init_26 ⟨(TSi 183 (by decide +kernel) (by decide +kernel)), (TSi 100 (by decide +kernel) (by decide +kernel)), (TSi 68 (by decide +kernel) (by decide +kernel))⟩ rfl (by decide) uin_5 tyX5_ok (by decide +kernel) (fun _ => rfl) (by decide +kernel) (by decide) rfl rfl rfl (room_le hrm (by decide) (by decide)) ?_
  refine R_dup hO dX0_init_29 rfl ?_
  refine Q_init (d2 := 2) (mc := 3) (ms := 24) (h2 := hs_44) (c2 := 37) (s2 := 312) hO dX0_init_30 (ci_X5 (h := hs_42) (n := 47) (by decide +kernel) (by decide)) (by decide) rfl (Or.inr (by decide +kernel)) ki_X5_init kk_X5_init kp_X5_init (Nat.le_of_ble_eq_true rfl) rfl rfl (room_le hrm (by decide) (by decide)) ?_
  refine R_aastq (ci := 5) (n := 8) (fs := [.ref 15, .ref 19, .ref 23, .ref 27, .ref 31, .ref 35, .ref 39, .ref 43, .null, .null, .null, .null, .null, .null, .null, .null, .null, .null, .null, .null, .null, .null, .null, .null]) (vs := [.ref 48, .ref 49, .ref 50, .int 0, .int 0, .int 0, .int 0, .int 0]) (h2 := hs_45) hO dX0_init_33 (Or.inl ⟨rfl, rfl, rfl⟩) (by decide +kernel) (by decide +kernel) (by decide) rfl rfl (by decide) (by decide) rfl ?_
  refine R_iinc (v := (9 : Int32)) (L2 := [(1, .int (9 : Int32)), (0, .ref 13)]) hO dX0_init_34 rfl (by decide) (Nat.le_of_ble_eq_true rfl) rfl ?_
  refine R_goto (tgt := 15) hO dX0_init_37 (by decide) ?_
  refine R_iload_n hO dX0_init_15 rfl ?_
  refine R_bipush (v := (24 : Int32)) hO dX0_init_16 (by decide) ?_
  refine R_icmp_ge (tgt := 40) hO dX0_init_18 (by decide) (fun c => absurd c (by decide)) (fun _ => ?_)
  refine R_aload_n hO dX0_init_21 rfl ?_
  refine R_getf (fs := [.ref 14, .int 0, .int 0]) hO dX0_init_22 fl_X0_11 (by decide +kernel) rfl ?_
  refine R_iload_n hO dX0_init_25 rfl ?_
  refine Q_new (ci := 5) (N := 8) (T := TX5) (ty := tyX5) (n := 51) (fs := [.null, .null, .null, .int 0, .int 0, .int 0, .int 0, .int 0]) (h2 := hs_46) (c2 := 38) (s2 := 320) hO dX0_init_26 ⟨(TSi 183 (by decide +kernel) (by decide +kernel)), (TSi 100 (by decide +kernel) (by decide +kernel)), (TSi 68 (by decide +kernel) (by decide +kernel))⟩ rfl (by decide) uin_5 tyX5_ok (by decide +kernel) (fun _ => rfl) (by decide +kernel) (by decide) rfl rfl rfl (room_le hrm (by decide) (by decide)) ?_
  refine R_dup hO dX0_init_29 rfl ?_
  refine Q_init (d2 := 2) (mc := 3) (ms := 24) (h2 := hs_47) (c2 := 41) (s2 := 344) hO dX0_init_30 (ci_X5 (h := hs_45) (n := 51) (by decide +kernel) (by decide)) (by decide) rfl (Or.inr (by decide +kernel)) ki_X5_init kk_X5_init kp_X5_init (Nat.le_of_ble_eq_true rfl) rfl rfl (room_le hrm (by decide) (by decide)) ?_
  refine R_aastq (ci := 5) (n := 9) (fs := [.ref 15, .ref 19, .ref 23, .ref 27, .ref 31, .ref 35, .ref 39, .ref 43, .ref 47, .null, .null, .null, .null, .null, .null, .null, .null, .null, .null, .null, .null, .null, .null, .null]) (vs := [.ref 52, .ref 53, .ref 54, .int 0, .int 0, .int 0, .int 0, .int 0]) (h2 := hs_48) hO dX0_init_33 (Or.inl ⟨rfl, rfl, rfl⟩) (by decide +kernel) (by decide +kernel) (by decide) rfl rfl (by decide) (by decide) rfl ?_
  refine R_iinc (v := (10 : Int32)) (L2 := [(1, .int (10 : Int32)), (0, .ref 13)]) hO dX0_init_34 rfl (by decide) (Nat.le_of_ble_eq_true rfl) rfl ?_
  refine R_goto (tgt := 15) hO dX0_init_37 (by decide) ?_
  refine R_iload_n hO dX0_init_15 rfl ?_
  refine R_bipush (v := (24 : Int32)) hO dX0_init_16 (by decide) ?_
  refine R_icmp_ge (tgt := 40) hO dX0_init_18 (by decide) (fun c => absurd c (by decide)) (fun _ => ?_)
  refine R_aload_n hO dX0_init_21 rfl ?_
  refine R_getf (fs := [.ref 14, .int 0, .int 0]) hO dX0_init_22 fl_X0_11 (by decide +kernel) rfl ?_
  refine R_iload_n hO dX0_init_25 rfl ?_
  refine Q_new (ci := 5) (N := 8) (T := TX5) (ty := tyX5) (n := 55) (fs := [.null, .null, .null, .int 0, .int 0, .int 0, .int 0, .int 0]) (h2 := hs_49) (c2 := 42) (s2 := 352) hO dX0_init_26 ⟨(TSi 183 (by decide +kernel) (by decide +kernel)), (TSi 100 (by decide +kernel) (by decide +kernel)), (TSi 68 (by decide +kernel) (by decide +kernel))⟩ rfl (by decide) uin_5 tyX5_ok (by decide +kernel) (fun _ => rfl) (by decide +kernel) (by decide) rfl rfl rfl (room_le hrm (by decide) (by decide)) ?_
  refine R_dup hO dX0_init_29 rfl ?_
  refine Q_init (d2 := 2) (mc := 3) (ms := 24) (h2 := hs_50) (c2 := 45) (s2 := 376) hO dX0_init_30 (ci_X5 (h := hs_48) (n := 55) (by decide +kernel) (by decide)) (by decide) rfl (Or.inr (by decide +kernel)) ki_X5_init kk_X5_init kp_X5_init (Nat.le_of_ble_eq_true rfl) rfl rfl (room_le hrm (by decide) (by decide)) ?_
  refine R_aastq (ci := 5) (n := 10) (fs := [.ref 15, .ref 19, .ref 23, .ref 27, .ref 31, .ref 35, .ref 39, .ref 43, .ref 47, .ref 51, .null, .null, .null, .null, .null, .null, .null, .null, .null, .null, .null, .null, .null, .null]) (vs := [.ref 56, .ref 57, .ref 58, .int 0, .int 0, .int 0, .int 0, .int 0]) (h2 := hs_51) hO dX0_init_33 (Or.inl ⟨rfl, rfl, rfl⟩) (by decide +kernel) (by decide +kernel) (by decide) rfl rfl (by decide) (by decide) rfl ?_
  refine R_iinc (v := (11 : Int32)) (L2 := [(1, .int (11 : Int32)), (0, .ref 13)]) hO dX0_init_34 rfl (by decide) (Nat.le_of_ble_eq_true rfl) rfl ?_
  refine R_goto (tgt := 15) hO dX0_init_37 (by decide) ?_
  refine R_iload_n hO dX0_init_15 rfl ?_
  refine R_bipush (v := (24 : Int32)) hO dX0_init_16 (by decide) ?_
  refine R_icmp_ge (tgt := 40) hO dX0_init_18 (by decide) (fun c => absurd c (by decide)) (fun _ => ?_)
  refine R_aload_n hO dX0_init_21 rfl ?_
  refine R_getf (fs := [.ref 14, .int 0, .int 0]) hO dX0_init_22 fl_X0_11 (by decide +kernel) rfl ?_
  refine R_iload_n hO dX0_init_25 rfl ?_
  refine Q_new (ci := 5) (N := 8) (T := TX5) (ty := tyX5) (n := 59) (fs := [.null, .null, .null, .int 0, .int 0, .int 0, .int 0, .int 0]) (h2 := hs_52) (c2 := 46) (s2 := 384) hO dX0_init_26 ⟨(TSi 183 (by decide +kernel) (by decide +kernel)), (TSi 100 (by decide +kernel) (by decide +kernel)), (TSi 68 (by decide +kernel) (by decide +kernel))⟩ rfl (by decide) uin_5 tyX5_ok (by decide +kernel) (fun _ => rfl) (by decide +kernel) (by decide) rfl rfl rfl (room_le hrm (by decide) (by decide)) ?_
  refine R_dup hO dX0_init_29 rfl ?_
  refine Q_init (d2 := 2) (mc := 3) (ms := 24) (h2 := hs_53) (c2 := 49) (s2 := 408) hO dX0_init_30 (ci_X5 (h := hs_51) (n := 59) (by decide +kernel) (by decide)) (by decide) rfl (Or.inr (by decide +kernel)) ki_X5_init kk_X5_init kp_X5_init (Nat.le_of_ble_eq_true rfl) rfl rfl (room_le hrm (by decide) (by decide)) ?_
  refine R_aastq (ci := 5) (n := 11) (fs := [.ref 15, .ref 19, .ref 23, .ref 27, .ref 31, .ref 35, .ref 39, .ref 43, .ref 47, .ref 51, .ref 55, .null, .null, .null, .null, .null, .null, .null, .null, .null, .null, .null, .null, .null]) (vs := [.ref 60, .ref 61, .ref 62, .int 0, .int 0, .int 0, .int 0, .int 0]) (h2 := hs_54) hO dX0_init_33 (Or.inl ⟨rfl, rfl, rfl⟩) (by decide +kernel) (by decide +kernel) (by decide) rfl rfl (by decide) (by decide) rfl ?_
  refine R_iinc (v := (12 : Int32)) (L2 := [(1, .int (12 : Int32)), (0, .ref 13)]) hO dX0_init_34 rfl (by decide) (Nat.le_of_ble_eq_true rfl) rfl ?_
  refine R_goto (tgt := 15) hO dX0_init_37 (by decide) ?_
  refine R_iload_n hO dX0_init_15 rfl ?_
  refine R_bipush (v := (24 : Int32)) hO dX0_init_16 (by decide) ?_
  refine R_icmp_ge (tgt := 40) hO dX0_init_18 (by decide) (fun c => absurd c (by decide)) (fun _ => ?_)
  refine R_aload_n hO dX0_init_21 rfl ?_
  refine R_getf (fs := [.ref 14, .int 0, .int 0]) hO dX0_init_22 fl_X0_11 (by decide +kernel) rfl ?_
  refine R_iload_n hO dX0_init_25 rfl ?_
  refine Q_new (ci := 5) (N := 8) (T := TX5) (ty := tyX5) (n := 63) (fs := [.null, .null, .null, .int 0, .int 0, .int 0, .int 0, .int 0]) (h2 := hs_55) (c2 := 50) (s2 := 416) hO dX0_init_26 ⟨(TSi 183 (by decide +kernel) (by decide +kernel)), (TSi 100 (by decide +kernel) (by decide +kernel)), (TSi 68 (by decide +kernel) (by decide +kernel))⟩ rfl (by decide) uin_5 tyX5_ok (by decide +kernel) (fun _ => rfl) (by decide +kernel) (by decide) rfl rfl rfl (room_le hrm (by decide) (by decide)) ?_
  refine R_dup hO dX0_init_29 rfl ?_
  refine Q_init (d2 := 2) (mc := 3) (ms := 24) (h2 := hs_56) (c2 := 53) (s2 := 440) hO dX0_init_30 (ci_X5 (h := hs_54) (n := 63) (by decide +kernel) (by decide)) (by decide) rfl (Or.inr (by decide +kernel)) ki_X5_init kk_X5_init kp_X5_init (Nat.le_of_ble_eq_true rfl) rfl rfl (room_le hrm (by decide) (by decide)) ?_
  refine R_aastq (ci := 5) (n := 12) (fs := [.ref 15, .ref 19, .ref 23, .ref 27, .ref 31, .ref 35, .ref 39, .ref 43, .ref 47, .ref 51, .ref 55, .ref 59, .null, .null, .null, .null, .null, .null, .null, .null, .null, .null, .null, .null]) (vs := [.ref 64, .ref 65, .ref 66, .int 0, .int 0, .int 0, .int 0, .int 0]) (h2 := hs_57) hO dX0_init_33 (Or.inl ⟨rfl, rfl, rfl⟩) (by decide +kernel) (by decide +kernel) (by decide) rfl rfl (by decide) (by decide) rfl ?_
  refine R_iinc (v := (13 : Int32)) (L2 := [(1, .int (13 : Int32)), (0, .ref 13)]) hO dX0_init_34 rfl (by decide) (Nat.le_of_ble_eq_true rfl) rfl ?_
  refine R_goto (tgt := 15) hO dX0_init_37 (by decide) ?_
  refine R_iload_n hO dX0_init_15 rfl ?_
  refine R_bipush (v := (24 : Int32)) hO dX0_init_16 (by decide) ?_
  refine R_icmp_ge (tgt := 40) hO dX0_init_18 (by decide) (fun c => absurd c (by decide)) (fun _ => ?_)
  refine R_aload_n hO dX0_init_21 rfl ?_
  refine R_getf (fs := [.ref 14, .int 0, .int 0]) hO dX0_init_22 fl_X0_11 (by decide +kernel) rfl ?_
  refine R_iload_n hO dX0_init_25 rfl ?_
  refine Q_new (ci := 5) (N := 8) (T := TX5) (ty := tyX5) (n := 67) (fs := [.null, .null, .null, .int 0, .int 0, .int 0, .int 0, .int 0]) (h2 := hs_58) (c2 := 54) (s2 := 448) hO dX0_init_26 ⟨(TSi 183 (by decide +kernel) (by decide +kernel)), (TSi 100 (by decide +kernel) (by decide +kernel)), (TSi 68 (by decide +kernel) (by decide +kernel))⟩ rfl (by decide) uin_5 tyX5_ok (by decide +kernel) (fun _ => rfl) (by decide +kernel) (by decide) rfl rfl rfl (room_le hrm (by decide) (by decide)) ?_
  refine R_dup hO dX0_init_29 rfl ?_
  refine Q_init (d2 := 2) (mc := 3) (ms := 24) (h2 := hs_59) (c2 := 57) (s2 := 472) hO dX0_init_30 (ci_X5 (h := hs_57) (n := 67) (by decide +kernel) (by decide)) (by decide) rfl (Or.inr (by decide +kernel)) ki_X5_init kk_X5_init kp_X5_init (Nat.le_of_ble_eq_true rfl) rfl rfl (room_le hrm (by decide) (by decide)) ?_
  refine R_aastq (ci := 5) (n := 13) (fs := [.ref 15, .ref 19, .ref 23, .ref 27, .ref 31, .ref 35, .ref 39, .ref 43, .ref 47, .ref 51, .ref 55, .ref 59, .ref 63, .null, .null, .null, .null, .null, .null, .null, .null, .null, .null, .null]) (vs := [.ref 68, .ref 69, .ref 70, .int 0, .int 0, .int 0, .int 0, .int 0]) (h2 := hs_60) hO dX0_init_33 (Or.inl ⟨rfl, rfl, rfl⟩) (by decide +kernel) (by decide +kernel) (by decide) rfl rfl (by decide) (by decide) rfl ?_
  refine R_iinc (v := (14 : Int32)) (L2 := [(1, .int (14 : Int32)), (0, .ref 13)]) hO dX0_init_34 rfl (by decide) (Nat.le_of_ble_eq_true rfl) rfl ?_
  refine R_goto (tgt := 15) hO dX0_init_37 (by decide) ?_
  refine R_iload_n hO dX0_init_15 rfl ?_
  refine R_bipush (v := (24 : Int32)) hO dX0_init_16 (by decide) ?_
  refine R_icmp_ge (tgt := 40) hO dX0_init_18 (by decide) (fun c => absurd c (by decide)) (fun _ => ?_)
  refine R_aload_n hO dX0_init_21 rfl ?_
  refine R_getf (fs := [.ref 14, .int 0, .int 0]) hO dX0_init_22 fl_X0_11 (by decide +kernel) rfl ?_
  refine R_iload_n hO dX0_init_25 rfl ?_
  refine Q_new (ci := 5) (N := 8) (T := TX5) (ty := tyX5) (n := 71) (fs := [.null, .null, .null, .int 0, .int 0, .int 0, .int 0, .int 0]) (h2 := hs_61) (c2 := 58) (s2 := 480) hO dX0_init_26 ⟨(TSi 183 (by decide +kernel) (by decide +kernel)), (TSi 100 (by decide +kernel) (by decide +kernel)), (TSi 68 (by decide +kernel) (by decide +kernel))⟩ rfl (by decide) uin_5 tyX5_ok (by decide +kernel) (fun _ => rfl) (by decide +kernel) (by decide) rfl rfl rfl (room_le hrm (by decide) (by decide)) ?_
  refine R_dup hO dX0_init_29 rfl ?_
  refine Q_init (d2 := 2) (mc := 3) (ms := 24) (h2 := hs_62) (c2 := 61) (s2 := 504) hO dX0_init_30 (ci_X5 (h := hs_60) (n := 71) (by decide +kernel) (by decide)) (by decide) rfl (Or.inr (by decide +kernel)) ki_X5_init kk_X5_init kp_X5_init (Nat.le_of_ble_eq_true rfl) rfl rfl (room_le hrm (by decide) (by decide)) ?_
  refine R_aastq (ci := 5) (n := 14) (fs := [.ref 15, .ref 19, .ref 23, .ref 27, .ref 31, .ref 35, .ref 39, .ref 43, .ref 47, .ref 51, .ref 55, .ref 59, .ref 63, .ref 67, .null, .null, .null, .null, .null, .null, .null, .null, .null, .null]) (vs := [.ref 72, .ref 73, .ref 74, .int 0, .int 0, .int 0, .int 0, .int 0]) (h2 := hs_63) hO dX0_init_33 (Or.inl ⟨rfl, rfl, rfl⟩) (by decide +kernel) (by decide +kernel) (by decide) rfl rfl (by decide) (by decide) rfl ?_
  refine R_iinc (v := (15 : Int32)) (L2 := [(1, .int (15 : Int32)), (0, .ref 13)]) hO dX0_init_34 rfl (by decide) (Nat.le_of_ble_eq_true rfl) rfl ?_
  refine R_goto (tgt := 15) hO dX0_init_37 (by decide) ?_
  refine R_iload_n hO dX0_init_15 rfl ?_
  refine R_bipush (v := (24 : Int32)) hO dX0_init_16 (by decide) ?_
  refine R_icmp_ge (tgt := 40) hO dX0_init_18 (by decide) (fun c => absurd c (by decide)) (fun _ => ?_)
  refine R_aload_n hO dX0_init_21 rfl ?_
  refine R_getf (fs := [.ref 14, .int 0, .int 0]) hO dX0_init_22 fl_X0_11 (by decide +kernel) rfl ?_
  refine R_iload_n hO dX0_init_25 rfl ?_
  refine Q_new (ci := 5) (N := 8) (T := TX5) (ty := tyX5) (n := 75) (fs := [.null, .null, .null, .int 0, .int 0, .int 0, .int 0, .int 0]) (h2 := hs_64) (c2 := 62) (s2 := 512) hO dX0_init_26 ⟨(TSi 183 (by decide +kernel) (by decide +kernel)), (TSi 100 (by decide +kernel) (by decide +kernel)), (TSi 68 (by decide +kernel) (by decide +kernel))⟩ rfl (by decide) uin_5 tyX5_ok (by decide +kernel) (fun _ => rfl) (by decide +kernel) (by decide) rfl rfl rfl (room_le hrm (by decide) (by decide)) ?_
  refine R_dup hO dX0_init_29 rfl ?_
  refine Q_init (d2 := 2) (mc := 3) (ms := 24) (h2 := hs_65) (c2 := 65) (s2 := 536) hO dX0_init_30 (ci_X5 (h := hs_63) (n := 75) (by decide +kernel) (by decide)) (by decide) rfl (Or.inr (by decide +kernel)) ki_X5_init kk_X5_init kp_X5_init (Nat.le_of_ble_eq_true rfl) rfl rfl (room_le hrm (by decide) (by decide)) ?_
  refine R_aastq (ci := 5) (n := 15) (fs := [.ref 15, .ref 19, .ref 23, .ref 27, .ref 31, .ref 35, .ref 39, .ref 43, .ref 47, .ref 51, .ref 55, .ref 59, .ref 63, .ref 67, .ref 71, .null, .null, .null, .null, .null, .null, .null, .null, .null]) (vs := [.ref 76, .ref 77, .ref 78, .int 0, .int 0, .int 0, .int 0, .int 0]) (h2 := hs_66) hO dX0_init_33 (Or.inl ⟨rfl, rfl, rfl⟩) (by decide +kernel) (by decide +kernel) (by decide) rfl rfl (by decide) (by decide) rfl ?_
  refine R_iinc (v := (16 : Int32)) (L2 := [(1, .int (16 : Int32)), (0, .ref 13)]) hO dX0_init_34 rfl (by decide) (Nat.le_of_ble_eq_true rfl) rfl ?_
  refine R_goto (tgt := 15) hO dX0_init_37 (by decide) ?_
  refine R_iload_n hO dX0_init_15 rfl ?_
  refine R_bipush (v := (24 : Int32)) hO dX0_init_16 (by decide) ?_
  refine R_icmp_ge (tgt := 40) hO dX0_init_18 (by decide) (fun c => absurd c (by decide)) (fun _ => ?_)
  refine R_aload_n hO dX0_init_21 rfl ?_
  refine R_getf (fs := [.ref 14, .int 0, .int 0]) hO dX0_init_22 fl_X0_11 (by decide +kernel) rfl ?_
  refine R_iload_n hO dX0_init_25 rfl ?_
  refine Q_new (ci := 5) (N := 8) (T := TX5) (ty := tyX5) (n := 79) (fs := [.null, .null, .null, .int 0, .int 0, .int 0, .int 0, .int 0]) (h2 := hs_67) (c2 := 66) (s2 := 544) hO dX0_init_26 ⟨(TSi 183 (by decide +kernel) (by decide +kernel)), (TSi 100 (by decide +kernel) (by decide +kernel)), (TSi 68 (by decide +kernel) (by decide +kernel))⟩ rfl (by decide) uin_5 tyX5_ok (by decide +kernel) (fun _ => rfl) (by decide +kernel) (by decide) rfl rfl rfl (room_le hrm (by decide) (by decide)) ?_
  refine R_dup hO dX0_init_29 rfl ?_
  refine Q_init (d2 := 2) (mc := 3) (ms := 24) (h2 := hs_68) (c2 := 69) (s2 := 568) hO dX0_init_30 (ci_X5 (h := hs_66) (n := 79) (by decide +kernel) (by decide)) (by decide) rfl (Or.inr (by decide +kernel)) ki_X5_init kk_X5_init kp_X5_init (Nat.le_of_ble_eq_true rfl) rfl rfl (room_le hrm (by decide) (by decide)) ?_
  refine R_aastq (ci := 5) (n := 16) (fs := [.ref 15, .ref 19, .ref 23, .ref 27, .ref 31, .ref 35, .ref 39, .ref 43, .ref 47, .ref 51, .ref 55, .ref 59, .ref 63, .ref 67, .ref 71, .ref 75, .null, .null, .null, .null, .null, .null, .null, .null]) (vs := [.ref 80, .ref 81, .ref 82, .int 0, .int 0, .int 0, .int 0, .int 0]) (h2 := hs_69) hO dX0_init_33 (Or.inl ⟨rfl, rfl, rfl⟩) (by decide +kernel) (by decide +kernel) (by decide) rfl rfl (by decide) (by decide) rfl ?_
  refine R_iinc (v := (17 : Int32)) (L2 := [(1, .int (17 : Int32)), (0, .ref 13)]) hO dX0_init_34 rfl (by decide) (Nat.le_of_ble_eq_true rfl) rfl ?_
  refine R_goto (tgt := 15) hO dX0_init_37 (by decide) ?_
  refine R_iload_n hO dX0_init_15 rfl ?_
  refine R_bipush (v := (24 : Int32)) hO dX0_init_16 (by decide) ?_
  refine R_icmp_ge (tgt := 40) hO dX0_init_18 (by decide) (fun c => absurd c (by decide)) (fun _ => ?_)
  refine R_aload_n hO dX0_init_21 rfl ?_
  refine R_getf (fs := [.ref 14, .int 0, .int 0]) hO dX0_init_22 fl_X0_11 (by decide +kernel) rfl ?_
  refine R_iload_n hO dX0_init_25 rfl ?_
  refine Q_new (ci := 5) (N := 8) (T := TX5) (ty := tyX5) (n := 83) (fs := [.null, .null, .null, .int 0, .int 0, .int 0, .int 0, .int 0]) (h2 := hs_70) (c2 := 70) (s2 := 576) hO dX0_init_26 ⟨(TSi 183 (by decide +kernel) (by decide +kernel)), (TSi 100 (by decide +kernel) (by decide +kernel)), (TSi 68 (by decide +kernel) (by decide +kernel))⟩ rfl (by decide) uin_5 tyX5_ok (by decide +kernel) (fun _ => rfl) (by decide +kernel) (by decide) rfl rfl rfl (room_le hrm (by decide) (by decide)) ?_
  refine R_dup hO dX0_init_29 rfl ?_
  refine Q_init (d2 := 2) (mc := 3) (ms := 24) (h2 := hs_71) (c2 := 73) (s2 := 600) hO dX0_init_30 (ci_X5 (h := hs_69) (n := 83) (by decide +kernel) (by decide)) (by decide) rfl (Or.inr (by decide +kernel)) ki_X5_init kk_X5_init kp_X5_init (Nat.le_of_ble_eq_true rfl) rfl rfl (room_le hrm (by decide) (by decide)) ?_
  refine R_aastq (ci := 5) (n := 17) (fs := [.ref 15, .ref 19, .ref 23, .ref 27, .ref 31, .ref 35, .ref 39, .ref 43, .ref 47, .ref 51, .ref 55, .ref 59, .ref 63, .ref 67, .ref 71, .ref 75, .ref 79, .null, .null, .null, .null, .null, .null, .null]) (vs := [.ref 84, .ref 85, .ref 86, .int 0, .int 0, .int 0, .int 0, .int 0]) (h2 := hs_72) hO dX0_init_33 (Or.inl ⟨rfl, rfl, rfl⟩) (by decide +kernel) (by decide +kernel) (by decide) rfl rfl (by decide) (by decide) rfl ?_
  refine R_iinc (v := (18 : Int32)) (L2 := [(1, .int (18 : Int32)), (0, .ref 13)]) hO dX0_init_34 rfl (by decide) (Nat.le_of_ble_eq_true rfl) rfl ?_
  refine R_goto (tgt := 15) hO dX0_init_37 (by decide) ?_
  refine R_iload_n hO dX0_init_15 rfl ?_
  refine R_bipush (v := (24 : Int32)) hO dX0_init_16 (by decide) ?_
  refine R_icmp_ge (tgt := 40) hO dX0_init_18 (by decide) (fun c => absurd c (by decide)) (fun _ => ?_)
  refine R_aload_n hO dX0_init_21 rfl ?_
  refine R_getf (fs := [.ref 14, .int 0, .int 0]) hO dX0_init_22 fl_X0_11 (by decide +kernel) rfl ?_
  refine R_iload_n hO dX0_init_25 rfl ?_
  refine Q_new (ci := 5) (N := 8) (T := TX5) (ty := tyX5) (n := 87) (fs := [.null, .null, .null, .int 0, .int 0, .int 0, .int 0, .int 0]) (h2 := hs_73) (c2 := 74) (s2 := 608) hO dX0_init_26 ⟨(TSi 183 (by decide +kernel) (by decide +kernel)), (TSi 100 (by decide +kernel) (by decide +kernel)), (TSi 68 (by decide +kernel) (by decide +kernel))⟩ rfl (by decide) uin_5 tyX5_ok (by decide +kernel) (fun _ => rfl) (by decide +kernel) (by decide) rfl rfl rfl (room_le hrm (by decide) (by decide)) ?_
  refine R_dup hO dX0_init_29 rfl ?_
  refine Q_init (d2 := 2) (mc := 3) (ms := 24) (h2 := hs_74) (c2 := 77) (s2 := 632) hO dX0_init_30 (ci_X5 (h := hs_72) (n := 87) (by decide +kernel) (by decide)) (by decide) rfl (Or.inr (by decide +kernel)) ki_X5_init kk_X5_init kp_X5_init (Nat.le_of_ble_eq_true rfl) rfl rfl (room_le hrm (by decide) (by decide)) ?_
  refine R_aastq (ci := 5) (n := 18) (fs := [.ref 15, .ref 19, .ref 23, .ref 27, .ref 31, .ref 35, .ref 39, .ref 43, .ref 47, .ref 51, .ref 55, .ref 59, .ref 63, .ref 67, .ref 71, .ref 75, .ref 79, .ref 83, .null, .null, .null, .null, .null, .null]) (vs := [.ref 88, .ref 89, .ref 90, .int 0, .int 0, .int 0, .int 0, .int 0]) (h2 := hs_75) hO dX0_init_33 (Or.inl ⟨rfl, rfl, rfl⟩) (by decide +kernel) (by decide +kernel) (by decide) rfl rfl (by decide) (by decide) rfl ?_
  refine R_iinc (v := (19 : Int32)) (L2 := [(1, .int (19 : Int32)), (0, .ref 13)]) hO dX0_init_34 rfl (by decide) (Nat.le_of_ble_eq_true rfl) rfl ?_
  refine R_goto (tgt := 15) hO dX0_init_37 (by decide) ?_
  refine R_iload_n hO dX0_init_15 rfl ?_
  refine R_bipush (v := (24 : Int32)) hO dX0_init_16 (by decide) ?_
  refine R_icmp_ge (tgt := 40) hO dX0_init_18 (by decide) (fun c => absurd c (by decide)) (fun _ => ?_)
  refine R_aload_n hO dX0_init_21 rfl ?_
  refine R_getf (fs := [.ref 14, .int 0, .int 0]) hO dX0_init_22 fl_X0_11 (by decide +kernel) rfl ?_
  refine R_iload_n hO dX0_init_25 rfl ?_
  refine Q_new (ci := 5) (N := 8) (T := TX5) (ty := tyX5) (n := 91) (fs := [.null, .null, .null, .int 0, .int 0, .int 0, .int 0, .int 0]) (h2 := hs_76) (c2 := 78) (s2 := 640) hO dX0_init_26 ⟨(TSi 183 (by decide +kernel) (by decide +kernel)), (TSi 100 (by decide +kernel) (by decide +kernel)), (TSi 68 (by decide +kernel) (by decide +kernel))⟩ rfl (by decide) uin_5 tyX5_ok (by decide +kernel) (fun _ => rfl) (by decide +kernel) (by decide) rfl rfl rfl (room_le hrm (by decide) (by decide)) ?_
  refine R_dup hO dX0_init_29 rfl ?_
  refine Q_init (d2 := 2) (mc := 3) (ms := 24) (h2 := hs_77) (c2 := 81) (s2 := 664) hO dX0_init_30 (ci_X5 (h := hs_75) (n := 91) (by decide +kernel) (by decide)) (by decide) rfl (Or.inr (by decide +kernel)) ki_X5_init kk_X5_init kp_X5_init (Nat.le_of_ble_eq_true rfl) rfl rfl (room_le hrm (by decide) (by decide)) ?_
  refine R_aastq (ci := 5) (n := 19) (fs := [.ref 15, .ref 19, .ref 23, .ref 27, .ref 31, .ref 35, .ref 39, .ref 43, .ref 47, .ref 51, .ref 55, .ref 59, .ref 63, .ref 67, .ref 71, .ref 75, .ref 79, .ref 83, .ref 87, .null, .null, .null, .null, .null]) (vs := [.ref 92, .ref 93, .ref 94, .int 0, .int 0, .int 0, .int 0, .int 0]) (h2 := hs_78) hO dX0_init_33 (Or.inl ⟨rfl, rfl, rfl⟩) (by decide +kernel) (by decide +kernel) (by decide) rfl rfl (by decide) (by decide) rfl ?_
  refine R_iinc (v := (20 : Int32)) (L2 := [(1, .int (20 : Int32)), (0, .ref 13)]) hO dX0_init_34 rfl (by decide) (Nat.le_of_ble_eq_true rfl) rfl ?_
  refine R_goto (tgt := 15) hO dX0_init_37 (by decide) ?_
  refine R_iload_n hO dX0_init_15 rfl ?_
  refine R_bipush (v := (24 : Int32)) hO dX0_init_16 (by decide) ?_
  refine R_icmp_ge (tgt := 40) hO dX0_init_18 (by decide) (fun c => absurd c (by decide)) (fun _ => ?_)
  refine R_aload_n hO dX0_init_21 rfl ?_
  refine R_getf (fs := [.ref 14, .int 0, .int 0]) hO dX0_init_22 fl_X0_11 (by decide +kernel) rfl ?_
  refine R_iload_n hO dX0_init_25 rfl ?_
  refine Q_new (ci := 5) (N := 8) (T := TX5) (ty := tyX5) (n := 95) (fs := [.null, .null, .null, .int 0, .int 0, .int 0, .int 0, .int 0]) (h2 := hs_79) (c2 := 82) (s2 := 672) hO dX0_init_26 ⟨(TSi 183 (by decide +kernel) (by decide +kernel)), (TSi 100 (by decide +kernel) (by decide +kernel)), (TSi 68 (by decide +kernel) (by decide +kernel))⟩ rfl (by decide) uin_5 tyX5_ok (by decide +kernel) (fun _ => rfl) (by decide +kernel) (by decide) rfl rfl rfl (room_le hrm (by decide) (by decide)) ?_
  refine R_dup hO dX0_init_29 rfl ?_
  refine Q_init (d2 := 2) (mc := 3) (ms := 24) (h2 := hs_80) (c2 := 85) (s2 := 696) hO dX0_init_30 (ci_X5 (h := hs_78) (n := 95) (by decide +kernel) (by decide)) (by decide) rfl (Or.inr (by decide +kernel)) ki_X5_init kk_X5_init kp_X5_init (Nat.le_of_ble_eq_true rfl) rfl rfl (room_le hrm (by decide) (by decide)) ?_
  refine R_aastq (ci := 5) (n := 20) (fs := [.ref 15, .ref 19, .ref 23, .ref 27, .ref 31, .ref 35, .ref 39, .ref 43, .ref 47, .ref 51, .ref 55, .ref 59, .ref 63, .ref 67, .ref 71, .ref 75, .ref 79, .ref 83, .ref 87, .ref 91, .null, .null, .null, .null]) (vs := [.ref 96, .ref 97, .ref 98, .int 0, .int 0, .int 0, .int 0, .int 0]) (h2 := hs_81) hO dX0_init_33 (Or.inl ⟨rfl, rfl, rfl⟩) (by decide +kernel) (by decide +kernel) (by decide) rfl rfl (by decide) (by decide) rfl ?_
  refine R_iinc (v := (21 : Int32)) (L2 := [(1, .int (21 : Int32)), (0, .ref 13)]) hO dX0_init_34 rfl (by decide) (Nat.le_of_ble_eq_true rfl) rfl ?_
  refine R_goto (tgt := 15) hO dX0_init_37 (by decide) ?_
  refine R_iload_n hO dX0_init_15 rfl ?_
  refine R_bipush (v := (24 : Int32)) hO dX0_init_16 (by decide) ?_
  refine R_icmp_ge (tgt := 40) hO dX0_init_18 (by decide) (fun c => absurd c (by decide)) (fun _ => ?_)
  refine R_aload_n hO dX0_init_21 rfl ?_
  refine R_getf (fs := [.ref 14, .int 0, .int 0]) hO dX0_init_22 fl_X0_11 (by decide +kernel) rfl ?_
  refine R_iload_n hO dX0_init_25 rfl ?_
  refine Q_new (ci := 5) (N := 8) (T := TX5) (ty := tyX5) (n := 99) (fs := [.null, .null, .null, .int 0, .int 0, .int 0, .int 0, .int 0]) (h2 := hs_82) (c2 := 86) (s2 := 704) hO dX0_init_26 ⟨(TSi 183 (by decide +kernel) (by decide +kernel)), (TSi 100 (by decide +kernel) (by decide +kernel)), (TSi 68 (by decide +kernel) (by decide +kernel))⟩ rfl (by decide) uin_5 tyX5_ok (by decide +kernel) (fun _ => rfl) (by decide +kernel) (by decide) rfl rfl rfl (room_le hrm (by decide) (by decide)) ?_
  refine R_dup hO dX0_init_29 rfl ?_
  refine Q_init (d2 := 2) (mc := 3) (ms := 24) (h2 := hs_83) (c2 := 89) (s2 := 728) hO dX0_init_30 (ci_X5 (h := hs_81) (n := 99) (by decide +kernel) (by decide)) (by decide) rfl (Or.inr (by decide +kernel)) ki_X5_init kk_X5_init kp_X5_init (Nat.le_of_ble_eq_true rfl) rfl rfl (room_le hrm (by decide) (by decide)) ?_
  refine R_aastq (ci := 5) (n := 21) (fs := [.ref 15, .ref 19, .ref 23, .ref 27, .ref 31, .ref 35, .ref 39, .ref 43, .ref 47, .ref 51, .ref 55, .ref 59, .ref 63, .ref 67, .ref 71, .ref 75, .ref 79, .ref 83, .ref 87, .ref 91, .ref 95, .null, .null, .null]) (vs := [.ref 100, .ref 101, .ref 102, .int 0, .int 0, .int 0, .int 0, .int 0]) (h2 := hs_84) hO dX0_init_33 (Or.inl ⟨rfl, rfl, rfl⟩) (by decide +kernel) (by decide +kernel) (by decide) rfl rfl (by decide) (by decide) rfl ?_
  refine R_iinc (v := (22 : Int32)) (L2 := [(1, .int (22 : Int32)), (0, .ref 13)]) hO dX0_init_34 rfl (by decide) (Nat.le_of_ble_eq_true rfl) rfl ?_
  refine R_goto (tgt := 15) hO dX0_init_37 (by decide) ?_
  refine R_iload_n hO dX0_init_15 rfl ?_
  refine R_bipush (v := (24 : Int32)) hO dX0_init_16 (by decide) ?_
  refine R_icmp_ge (tgt := 40) hO dX0_init_18 (by decide) (fun c => absurd c (by decide)) (fun _ => ?_)
  refine R_aload_n hO dX0_init_21 rfl ?_
  refine R_getf (fs := [.ref 14, .int 0, .int 0]) hO dX0_init_22 fl_X0_11 (by decide +kernel) rfl ?_
  refine R_iload_n hO dX0_init_25 rfl ?_
  refine Q_new (ci := 5) (N := 8) (T := TX5) (ty := tyX5) (n := 103) (fs := [.null, .null, .null, .int 0, .int 0, .int 0, .int 0, .int 0]) (h2 := hs_85) (c2 := 90) (s2 := 736) hO dX0_init_26 ⟨(TSi 183 (by decide +kernel) (by decide +kernel)), (TSi 100 (by decide +kernel) (by decide +kernel)), (TSi 68 (by decide +kernel) (by decide +kernel))⟩ rfl (by decide) uin_5 tyX5_ok (by decide +kernel) (fun _ => rfl) (by decide +kernel) (by decide) rfl rfl rfl (room_le hrm (by decide) (by decide)) ?_
  refine R_dup hO dX0_init_29 rfl ?_
  refine Q_init (d2 := 2) (mc := 3) (ms := 24) (h2 := hs_86) (c2 := 93) (s2 := 760) hO dX0_init_30 (ci_X5 (h := hs_84) (n := 103) (by decide +kernel) (by decide)) (by decide) rfl (Or.inr (by decide +kernel)) ki_X5_init kk_X5_init kp_X5_init (Nat.le_of_ble_eq_true rfl) rfl rfl (room_le hrm (by decide) (by decide)) ?_
  refine R_aastq (ci := 5) (n := 22) (fs := [.ref 15, .ref 19, .ref 23, .ref 27, .ref 31, .ref 35, .ref 39, .ref 43, .ref 47, .ref 51, .ref 55, .ref 59, .ref 63, .ref 67, .ref 71, .ref 75, .ref 79, .ref 83, .ref 87, .ref 91, .ref 95, .ref 99, .null, .null]) (vs := [.ref 104, .ref 105, .ref 106, .int 0, .int 0, .int 0, .int 0, .int 0]) (h2 := hs_87) hO dX0_init_33 (Or.inl ⟨rfl, rfl, rfl⟩) (by decide +kernel) (by decide +kernel) (by decide) rfl rfl (by decide) (by decide) rfl ?_
  refine R_iinc (v := (23 : Int32)) (L2 := [(1, .int (23 : Int32)), (0, .ref 13)]) hO dX0_init_34 rfl (by decide) (Nat.le_of_ble_eq_true rfl) rfl ?_
  refine R_goto (tgt := 15) hO dX0_init_37 (by decide) ?_
  refine R_iload_n hO dX0_init_15 rfl ?_
  refine R_bipush (v := (24 : Int32)) hO dX0_init_16 (by decide) ?_
  refine R_icmp_ge (tgt := 40) hO dX0_init_18 (by decide) (fun c => absurd c (by decide)) (fun _ => ?_)
  refine R_aload_n hO dX0_init_21 rfl ?_
  refine R_getf (fs := [.ref 14, .int 0, .int 0]) hO dX0_init_22 fl_X0_11 (by decide +kernel) rfl ?_
  refine R_iload_n hO dX0_init_25 rfl ?_
  refine Q_new (ci := 5) (N := 8) (T := TX5) (ty := tyX5) (n := 107) (fs := [.null, .null, .null, .int 0, .int 0, .int 0, .int 0, .int 0]) (h2 := hs_88) (c2 := 94) (s2 := 768) hO dX0_init_26 ⟨(TSi 183 (by decide +kernel) (by decide +kernel)), (TSi 100 (by decide +kernel) (by decide +kernel)), (TSi 68 (by decide +kernel) (by decide +kernel))⟩ rfl (by decide) uin_5 tyX5_ok (by decide +kernel) (fun _ => rfl) (by decide +kernel) (by decide) rfl rfl rfl (room_le hrm (by decide) (by decide)) ?_
  refine R_dup hO dX0_init_29 rfl ?_
  refine Q_init (d2 := 2) (mc := 3) (ms := 24) (h2 := hs_89) (c2 := 97) (s2 := 792) hO dX0_init_30 (ci_X5 (h := hs_87) (n := 107) (by decide +kernel) (by decide)) (by decide) rfl (Or.inr (by decide +kernel)) ki_X5_init kk_X5_init kp_X5_init (Nat.le_of_ble_eq_true rfl) rfl rfl (room_le hrm (by decide) (by decide)) ?_
  refine R_aastq (ci := 5) (n := 23) (fs := [.ref 15, .ref 19, .ref 23, .ref 27, .ref 31, .ref 35, .ref 39, .ref 43, .ref 47, .ref 51, .ref 55, .ref 59, .ref 63, .ref 67, .ref 71, .ref 75, .ref 79, .ref 83, .ref 87, .ref 91, .ref 95, .ref 99, .ref 103, .null]) (vs := [.ref 108, .ref 109, .ref 110, .int 0, .int 0, .int 0, .int 0, .int 0]) (h2 := hs_90) hO dX0_init_33 (Or.inl ⟨rfl, rfl, rfl⟩) (by decide +kernel) (by decide +kernel) (by decide) rfl rfl (by decide) (by decide) rfl ?_
  refine R_iinc (v := (24 : Int32)) (L2 := [(1, .int (24 : Int32)), (0, .ref 13)]) hO dX0_init_34 rfl (by decide) (Nat.le_of_ble_eq_true rfl) rfl ?_
  refine R_goto (tgt := 15) hO dX0_init_37 (by decide) ?_
  refine R_iload_n hO dX0_init_15 rfl ?_
  refine R_bipush (v := (24 : Int32)) hO dX0_init_16 (by decide) ?_
  refine R_icmp_ge (tgt := 40) hO dX0_init_18 (by decide) (fun _ => ?_) (fun c => absurd (by decide) c)
  exact R_vret hO hQ dX0_init_40 rfl ⟨rfl, rfl⟩
def hs_91 : AH := hs_90.set 0 (7, [.ref 1, .ref 2, .ref 8, .ref 12, .ref 13, .null, .null, .null, .int 0, .int 0])
def hs_92 : AH := hs_91 ++ [(2, [.null, .null, .null, .int 0])]
theorem kk_X2_init : Cond.initialized MX2_init.1.cls ∈ TS ∧ Cond.code MX2_init.1 MX2_init.2.1 MX2_init.2.2.1 MX2_init.2.2.2 ∈ TS ∧ (MX2_init.1.cls ≠ "java/lang/invoke/MethodHandle" ∧ MX2_init.1.cls ≠ "java/lang/invoke/VarHandle") ∧ MX2_init.2.2.1 ≤ 40 := ⟨(TSi 70 (by decide +kernel) (by decide +kernel)), (TSi 200 (by decide +kernel) (by decide +kernel)), ⟨by decide +kernel, by decide +kernel⟩, by decide⟩
theorem ki_X2_init : MX2_init.1.name = "<init>" ∧ Cond.instanceMethod MX2_init.1 ∈ TS := ⟨rfl, (TSi 199 (by decide +kernel) (by decide +kernel))⟩
theorem kp_X2_init : (parseMethodDescriptor MX2_init.1.desc).map (fun d => d.parameters.length) = some 0 := by decide +kernel
def hs_93 : AH := hs_92 ++ [(5, [.null, .null, .null, .int 0, .int 0, .int 0, .int 0, .int 0])]
def hs_94 : AH := hs_92 ++ stC 112
def hs_95 : AH := hs_94.set 111 (2, [.ref 112, .null, .null, .int 0])
def hs_96 : AH := hs_95 ++ [(5, [.null, .null, .null, .int 0, .int 0, .int 0, .int 0, .int 0])]
def hs_97 : AH := hs_95 ++ stC 116
def hs_98 : AH := hs_97.set 111 (2, [.ref 112, .ref 116, .null, .int 0])
def hs_99 : AH := hs_98 ++ [(20, List.replicate 12 (.int 0))]
def hs_100 : AH := hs_99.set 111 (2, [.ref 112, .ref 116, .ref 120, .int 0])
set_option maxRecDepth 20000 in
set_option maxHeartbeats 4000000 in
theorem ci_X2_init : C true 3 MX2_init 9 76 [.ref 111] hs_92 (fun v h' => v = none ∧ h' = hs_100) := by
  refine C.of (by decide +kernel) (Nat.le_of_ble_eq_true rfl) (fun X hO hQ => ?_)
  have hrm := roomQ hQ
  show R X MX2_init 0 [(0, .ref 111)] [] hs_92 0 0
  refine R_aload_n hO dX2_init_0 rfl ?_
  refine R_objInit hO dX2_init_1 (by omega) (TSi 201 (by decide +kernel) (by decide +kernel)) (Nat.le_of_ble_eq_true rfl) ?_
  refine R_aload_n hO dX2_init_4 rfl ?_
  refine Q_new (ci := 5) (N := 8) (T := TX5) (ty := tyX5) (n := 112) (fs := [.null, .null, .null, .int 0, .int 0, .int 0, .int 0, .int 0]) (h2 := hs_93) (c2 := 1) (s2 := 8) hO dX2_init_5 ⟨(TSi 202 (by decide +kernel) (by decide +kernel)), (TSi 100 (by decide +kernel) (by decide +kernel)), (TSi 68 (by decide +kernel) (by decide +kernel))⟩ rfl (by decide) uin_5 tyX5_ok (by decide +kernel) (fun _ => rfl) (by decide +kernel) (by decide) rfl rfl rfl (room_le hrm (by decide) (by decide)) ?_
  refine R_dup hO dX2_init_8 rfl ?_
  refine Q_init (d2 := 2) (mc := 3) (ms := 24) (h2 := hs_94) (c2 := 4) (s2 := 32) hO dX2_init_9 (ci_X5 (h := hs_92) (n := 112) (by decide +kernel) (by decide)) (by decide) rfl (Or.inr (by decide +kernel)) ki_X5_init kk_X5_init kp_X5_init (Nat.le_of_ble_eq_true rfl) rfl rfl (room_le hrm (by decide) (by decide)) ?_
  refine R_putq (fs := [.null, .null, .null, .int 0]) (h2 := hs_95) hO dX2_init_12 fl_X2_12 (Or.inr ⟨rfl, rfl⟩) (by decide +kernel) (by decide) (fun _ => rfl) (fun _ => rfl) rfl ?_
  refine R_aload_n hO dX2_init_15 rfl ?_
  refine Q_new (ci := 5) (N := 8) (T := TX5) (ty := tyX5) (n := 116) (fs := [.null, .null, .null, .int 0, .int 0, .int 0, .int 0, .int 0]) (h2 := hs_96) (c2 := 5) (s2 := 40) hO dX2_init_16 ⟨(TSi 202 (by decide +kernel) (by decide +kernel)), (TSi 100 (by decide +kernel) (by decide +kernel)), (TSi 68 (by decide +kernel) (by decide +kernel))⟩ rfl (by decide) uin_5 tyX5_ok (by decide +kernel) (fun _ => rfl) (by decide +kernel) (by decide) rfl rfl rfl (room_le hrm (by decide) (by decide)) ?_
  refine R_dup hO dX2_init_19 rfl ?_
  refine Q_init (d2 := 2) (mc := 3) (ms := 24) (h2 := hs_97) (c2 := 8) (s2 := 64) hO dX2_init_20 (ci_X5 (h := hs_95) (n := 116) (by decide +kernel) (by decide)) (by decide) rfl (Or.inr (by decide +kernel)) ki_X5_init kk_X5_init kp_X5_init (Nat.le_of_ble_eq_true rfl) rfl rfl (room_le hrm (by decide) (by decide)) ?_
  refine R_putq (fs := [.ref 112, .null, .null, .int 0]) (h2 := hs_98) hO dX2_init_23 fl_X2_18 (Or.inr ⟨rfl, rfl⟩) (by decide +kernel) (by decide) (fun _ => rfl) (fun _ => rfl) rfl ?_
  refine R_aload_n hO dX2_init_26 rfl ?_
  refine R_bipush (v := (12 : Int32)) hO dX2_init_27 (by decide) ?_
  refine Q_newi (N := 12) (n := 120) (h2 := hs_99) (c2 := 9) (s2 := 76) hO dX2_init_29 (by decide) (by decide) (by decide) (by decide +kernel) (by decide) rfl rfl rfl (room_le hrm (by decide) (by decide)) ?_
  refine R_putq (fs := [.ref 112, .ref 116, .null, .int 0]) (h2 := hs_100) hO dX2_init_31 fl_X2_21 (Or.inr ⟨rfl, rfl⟩) (by decide +kernel) (by decide) (fun _ => rfl) (fun _ => rfl) rfl ?_
  exact R_vret hO hQ dX2_init_34 rfl ⟨rfl, rfl⟩
def hs_101 : AH := hs_100.set 0 (7, [.ref 1, .ref 2, .ref 8, .ref 12, .ref 13, .ref 111, .null, .null, .int 0, .int 0])
def hs_102 : AH := hs_101 ++ [(3, [.null, .null, .null, .int 0, .int 0])]
theorem kk_X3_init : Cond.initialized MX3_init.1.cls ∈ TS ∧ Cond.code MX3_init.1 MX3_init.2.1 MX3_init.2.2.1 MX3_init.2.2.2 ∈ TS ∧ (MX3_init.1.cls ≠ "java/lang/invoke/MethodHandle" ∧ MX3_init.1.cls ≠ "java/lang/invoke/VarHandle") ∧ MX3_init.2.2.1 ≤ 40 := ⟨(TSi 71 (by decide +kernel) (by decide +kernel)), (TSi 222 (by decide +kernel) (by decide +kernel)), ⟨by decide +kernel, by decide +kernel⟩, by decide⟩
theorem ki_X3_init : MX3_init.1.name = "<init>" ∧ Cond.instanceMethod MX3_init.1 ∈ TS := ⟨rfl, (TSi 221 (by decide +kernel) (by decide +kernel))⟩
theorem kp_X3_init : (parseMethodDescriptor MX3_init.1.desc).map (fun d => d.parameters.length) = some 0 := by decide +kernel
def hs_103 : AH := hs_102 ++ [(22, List.replicate 8 .null)]
def hs_104 : AH := hs_103.set 121 (3, [.ref 122, .null, .null, .int 0, .int 0])
def hs_105 : AH := hs_104 ++ [(20, List.replicate 7 (.int 0))]
def hs_106 : AH := hs_105.set 121 (3, [.ref 122, .ref 123, .null, .int 0, .int 0])
def hs_107 : AH := hs_106 ++ [(20, List.replicate 7 (.int 0))]
def hs_108 : AH := hs_107.set 121 (3, [.ref 122, .ref 123, .ref 124, .int 0, .int 0])
def hs_109 : AH := hs_108 ++ [(5, [.null, .null, .null, .int 0, .int 0, .int 0, .int 0, .int 0])]
def hs_110 : AH := hs_108 ++ stC 125
def hs_111 : AH := hs_110.set 122 (22, [.ref 125, .null, .null, .null, .null, .null, .null, .null])
def hs_112 : AH := hs_111 ++ [(5, [.null, .null, .null, .int 0, .int 0, .int 0, .int 0, .int 0])]
def hs_113 : AH := hs_111 ++ stC 129
def hs_114 : AH := hs_113.set 122 (22, [.ref 125, .ref 129, .null, .null, .null, .null, .null, .null])
def hs_115 : AH := hs_114 ++ [(5, [.null, .null, .null, .int 0, .int 0, .int 0, .int 0, .int 0])]
def hs_116 : AH := hs_114 ++ stC 133
def hs_117 : AH := hs_116.set 122 (22, [.ref 125, .ref 129, .ref 133, .null, .null, .null, .null, .null])
def hs_118 : AH := hs_117 ++ [(5, [.null, .null, .null, .int 0, .int 0, .int 0, .int 0, .int 0])]
def hs_119 : AH := hs_117 ++ stC 137
def hs_120 : AH := hs_119.set 122 (22, [.ref 125, .ref 129, .ref 133, .ref 137, .null, .null, .null, .null])
def hs_121 : AH := hs_120 ++ [(5, [.null, .null, .null, .int 0, .int 0, .int 0, .int 0, .int 0])]
def hs_122 : AH := hs_120 ++ stC 141
def hs_123 : AH := hs_122.set 122 (22, [.ref 125, .ref 129, .ref 133, .ref 137, .ref 141, .null, .null, .null])
def hs_124 : AH := hs_123 ++ [(5, [.null, .null, .null, .int 0, .int 0, .int 0, .int 0, .int 0])]
def hs_125 : AH := hs_123 ++ stC 145
def hs_126 : AH := hs_125.set 122 (22, [.ref 125, .ref 129, .ref 133, .ref 137, .ref 141, .ref 145, .null, .null])
def hs_127 : AH := hs_126 ++ [(5, [.null, .null, .null, .int 0, .int 0, .int 0, .int 0, .int 0])]
def hs_128 : AH := hs_126 ++ stC 149
def hs_129 : AH := hs_128.set 122 (22, [.ref 125, .ref 129, .ref 133, .ref 137, .ref 141, .ref 145, .ref 149, .null])
def hs_130 : AH := hs_129 ++ [(5, [.null, .null, .null, .int 0, .int 0, .int 0, .int 0, .int 0])]
def hs_131 : AH := hs_129 ++ stC 153
def hs_132 : AH := hs_131.set 122 (22, [.ref 125, .ref 129, .ref 133, .ref 137, .ref 141, .ref 145, .ref 149, .ref 153])
set_option maxRecDepth 20000 in
set_option maxHeartbeats 4000000 in
theorem ci_X3_init : C true 3 MX3_init 35 278 [.ref 121] hs_102 (fun v h' => v = none ∧ h' = hs_132) := by
  refine C.of (by decide +kernel) (Nat.le_of_ble_eq_true rfl) (fun X hO hQ => ?_)
  have hrm := roomQ hQ
  show R X MX3_init 0 [(0, .ref 121)] [] hs_102 0 0
  refine R_aload_n hO dX3_init_0 rfl ?_
  refine R_objInit hO dX3_init_1 (by omega) (TSi 223 (by decide +kernel) (by decide +kernel)) (Nat.le_of_ble_eq_true rfl) ?_
  refine R_aload_n hO dX3_init_4 rfl ?_
  refine R_bipush (v := (8 : Int32)) hO dX3_init_5 (by decide) ?_
  refine Q_newq (N := 8) (n := 122) (h2 := hs_103) (c2 := 1) (s2 := 8) hO dX3_init_7 (Or.inl ⟨rfl, rfl, rfl⟩) (TSi 224 (by decide +kernel) (by decide +kernel)) (by decide) (by decide) (by decide) (by decide +kernel) (by decide) rfl rfl rfl (room_le hrm (by decide) (by decide)) ?_
  refine R_putq (fs := [.null, .null, .null, .int 0, .int 0]) (h2 := hs_104) hO dX3_init_10 fl_X3_11 (Or.inr ⟨rfl, rfl⟩) (by decide +kernel) (by decide) (fun _ => rfl) (fun _ => rfl) rfl ?_
  refine R_aload_n hO dX3_init_13 rfl ?_
  refine R_bipush (v := (7 : Int32)) hO dX3_init_14 (by decide) ?_
  refine Q_newi (N := 7) (n := 123) (h2 := hs_105) (c2 := 2) (s2 := 15) hO dX3_init_16 (by decide) (by decide) (by decide) (by decide +kernel) (by decide) rfl rfl rfl (room_le hrm (by decide) (by decide)) ?_
  refine R_putq (fs := [.ref 122, .null, .null, .int 0, .int 0]) (h2 := hs_106) hO dX3_init_18 fl_X3_17 (Or.inr ⟨rfl, rfl⟩) (by decide +kernel) (by decide) (fun _ => rfl) (fun _ => rfl) rfl ?_
  refine R_aload_n hO dX3_init_21 rfl ?_
  refine R_bipush (v := (7 : Int32)) hO dX3_init_22 (by decide) ?_
  refine Q_newi (N := 7) (n := 124) (h2 := hs_107) (c2 := 3) (s2 := 22) hO dX3_init_24 (by decide) (by decide) (by decide) (by decide +kernel) (by decide) rfl rfl rfl (room_le hrm (by decide) (by decide)) ?_
  refine R_putq (fs := [.ref 122, .ref 123, .null, .int 0, .int 0]) (h2 := hs_108) hO dX3_init_26 fl_X3_21 (Or.inr ⟨rfl, rfl⟩) (by decide +kernel) (by decide) (fun _ => rfl) (fun _ => rfl) rfl ?_
  refine R_iconst (v := (0 : Int32)) hO dX3_init_29 (by decide) ?_
  refine R_istore_n (L2 := [(1, .int (0 : Int32)), (0, .ref 121)]) hO dX3_init_30 (Nat.le_of_ble_eq_true rfl) rfl ?_
  refine R_iload_n hO dX3_init_31 rfl ?_
  refine R_bipush (v := (7 : Int32)) hO dX3_init_32 (by decide) ?_
  refine R_icmp_gt (tgt := 56) hO dX3_init_34 (by decide) (fun c => absurd c (by decide)) (fun _ => ?_)
  refine R_aload_n hO dX3_init_37 rfl ?_
  refine R_getf (fs := [.ref 122, .ref 123, .ref 124, .int 0, .int 0]) hO dX3_init_38 fl_X3_11 (by decide +kernel) rfl ?_
  refine R_iload_n hO dX3_init_41 rfl ?_
  refine Q_new (ci := 5) (N := 8) (T := TX5) (ty := tyX5) (n := 125) (fs := [.null, .null, .null, .int 0, .int 0, .int 0, .int 0, .int 0]) (h2 := hs_109) (c2 := 4) (s2 := 30) hO dX3_init_42 ⟨(TSi 224 (by decide +kernel) (by decide +kernel)), (TSi 100 (by decide +kernel) (by decide +kernel)), (TSi 68 (by decide +kernel) (by decide +kernel))⟩ rfl (by decide) uin_5 tyX5_ok (by decide +kernel) (fun _ => rfl) (by decide +kernel) (by decide) rfl rfl rfl (room_le hrm (by decide) (by decide)) ?_
  refine R_dup hO dX3_init_45 rfl ?_
  refine Q_init (d2 := 2) (mc := 3) (ms := 24) (h2 := hs_110) (c2 := 7) (s2 := 54) hO dX3_init_46 (ci_X5 (h := hs_108) (n := 125) (by decide +kernel) (by decide)) (by decide) rfl (Or.inr (by decide +kernel)) ki_X5_init kk_X5_init kp_X5_init (Nat.le_of_ble_eq_true rfl) rfl rfl (room_le hrm (by decide) (by decide)) ?_
  refine R_aastq (ci := 5) (n := 0) (fs := [.null, .null, .null, .null, .null, .null, .null, .null]) (vs := [.ref 126, .ref 127, .ref 128, .int 0, .int 0, .int 0, .int 0, .int 0]) (h2 := hs_111) hO dX3_init_49 (Or.inl ⟨rfl, rfl, rfl⟩) (by decide +kernel) (by decide +kernel) (by decide) rfl rfl (by decide) (by decide) rfl ?_
  refine R_iinc (v := (1 : Int32)) (L2 := [(1, .int (1 : Int32)), (0, .ref 121)]) hO dX3_init_50 rfl (by decide) (Nat.le_of_ble_eq_true rfl) rfl ?_
  refine R_goto (tgt := 31) hO dX3_init_53 (by decide) ?_
  refine R_iload_n hO dX3_init_31 rfl ?_
  refine R_bipush (v := (7 : Int32)) hO dX3_init_32 (by decide) ?_
  refine R_icmp_gt (tgt := 56) hO dX3_init_34 (by decide) (fun c => absurd c (by decide)) (fun _ => ?_)
  refine R_aload_n hO dX3_init_37 rfl ?_
  refine R_getf (fs := [.ref 122, .ref 123, .ref 124, .int 0, .int 0]) hO dX3_init_38 fl_X3_11 (by decide +kernel) rfl ?_
  refine R_iload_n hO dX3_init_41 rfl ?_
  refine Q_new (ci := 5) (N := 8) (T := TX5) (ty := tyX5) (n := 129) (fs := [.null, .null, .null, .int 0, .int 0, .int 0, .int 0, .int 0]) (h2 := hs_112) (c2 := 8) (s2 := 62) hO dX3_init_42 ⟨(TSi 224 (by decide +kernel) (by decide +kernel)), (TSi 100 (by decide +kernel) (by decide +kernel)), (TSi 68 (by decide +kernel) (by decide +kernel))⟩ rfl (by decide) uin_5 tyX5_ok (by decide +kernel) (fun _ => rfl) (by decide +kernel) (by decide) rfl rfl rfl (room_le hrm (by decide) (by decide)) ?_
  refine R_dup hO dX3_init_45 rfl ?_
  refine Q_init (d2 := 2) (mc := 3) (ms := 24) (h2 := hs_113) (c2 := 11) (s2 := 86) hO dX3_init_46 (ci_X5 (h := hs_111) (n := 129) (by decide +kernel) (by decide)) (by decide) rfl (Or.inr (by decide +kernel)) ki_X5_init kk_X5_init kp_X5_init (Nat.le_of_ble_eq_true rfl) rfl rfl (room_le hrm (by decide) (by decide)) ?_
  refine R_aastq (ci := 5) (n := 1) (fs := [.ref 125, .null, .null, .null, .null, .null, .null, .null]) (vs := [.ref 130, .ref 131, .ref 132, .int 0, .int 0, .int 0, .int 0, .int 0]) (h2 := hs_114) hO dX3_init_49 (Or.inl ⟨rfl, rfl, rfl⟩) (by decide +kernel) (by decide +kernel) (by decide) rfl rfl (by decide) (by decide) rfl ?_
  refine R_iinc (v := (2 : Int32)) (L2 := [(1, .int (2 : Int32)), (0, .ref 121)]) hO dX3_init_50 rfl (by decide) (Nat.le_of_ble_eq_true rfl) rfl ?_
  refine R_goto (tgt := 31) hO dX3_init_53 (by decide) ?_
  refine R_iload_n hO dX3_init_31 rfl ?_
  refine R_bipush (v := (7 : Int32)) hO dX3_init_32 (by decide) ?_
  refine R_icmp_gt (tgt := 56) hO dX3_init_34 (by decide) (fun c => absurd c (by decide)) (fun _ => ?_)
  refine R_aload_n hO dX3_init_37 rfl ?_
  refine R_getf (fs := [.ref 122, .ref 123, .ref 124, .int 0, .int 0]) hO dX3_init_38 fl_X3_11 (by decide +kernel) rfl ?_
  refine R_iload_n hO dX3_init_41 rfl ?_
  refine Q_new (ci := 5) (N := 8) (T := TX5) (ty := tyX5) (n := 133) (fs := [.null, .null, .null, .int 0, .int 0, .int 0, .int 0, .int 0]) (h2 := hs_115) (c2 := 12) (s2 := 94) hO dX3_init_42 ⟨(TSi 224 (by decide +kernel) (by decide +kernel)), (TSi 100 (by decide +kernel) (by decide +kernel)), (TSi 68 (by decide +kernel) (by decide +kernel))⟩ rfl (by decide) uin_5 tyX5_ok (by decide +kernel) (fun _ => rfl) (by decide +kernel) (by decide) rfl rfl rfl (room_le hrm (by decide) (by decide)) ?_
  refine R_dup hO dX3_init_45 rfl ?_
  refine Q_init (d2 := 2) (mc := 3) (ms := 24) (h2 := hs_116) (c2 := 15) (s2 := 118) hO dX3_init_46 (ci_X5 (h := hs_114) (n := 133) (by decide +kernel) (by decide)) (by decide) rfl (Or.inr (by decide +kernel)) ki_X5_init kk_X5_init kp_X5_init (Nat.le_of_ble_eq_true rfl) rfl rfl (room_le hrm (by decide) (by decide)) ?_
  refine R_aastq (ci := 5) (n := 2) (fs := [.ref 125, .ref 129, .null, .null, .null, .null, .null, .null]) (vs := [.ref 134, .ref 135, .ref 136, .int 0, .int 0, .int 0, .int 0, .int 0]) (h2 := hs_117) hO dX3_init_49 (Or.inl ⟨rfl, rfl, rfl⟩) (by decide +kernel) (by decide +kernel) (by decide) rfl rfl (by decide) (by decide) rfl ?_
  refine R_iinc (v := (3 : Int32)) (L2 := [(1, .int (3 : Int32)), (0, .ref 121)]) hO dX3_init_50 rfl (by decide) (Nat.le_of_ble_eq_true rfl) rfl ?_
  refine R_goto (tgt := 31) hO dX3_init_53 (by decide) ?_
  refine R_iload_n hO dX3_init_31 rfl ?_
  refine R_bipush (v := (7 : Int32)) hO dX3_init_32 (by decide) ?_
  refine R_icmp_gt (tgt := 56) hO dX3_init_34 (by decide) (fun c => absurd c (by decide)) (fun _ => ?_)
  refine R_aload_n hO dX3_init_37 rfl ?_
  refine R_getf (fs := [.ref 122, .ref 123, .ref 124, .int 0, .int 0]) hO dX3_init_38 fl_X3_11 (by decide +kernel) rfl ?_
  refine R_iload_n hO dX3_init_41 rfl ?_
  refine Q_new (ci := 5) (N := 8) (T := TX5) (ty := tyX5) (n := 137) (fs := [.null, .null, .null, .int 0, .int 0, .int 0, .int 0, .int 0]) (h2 := hs_118) (c2 := 16) (s2 := 126) hO dX3_init_42 ⟨(TSi 224 (by decide +kernel) (by decide +kernel)), (TSi 100 (by decide +kernel) (by decide +kernel)), (TSi 68 (by decide +kernel) (by decide +kernel))⟩ rfl (by decide) uin_5 tyX5_ok (by decide +kernel) (fun _ => rfl) (by decide +kernel) (by decide) rfl rfl rfl (room_le hrm (by decide) (by decide)) ?_
  refine R_dup hO dX3_init_45 rfl ?_
  refine Q_init (d2 := 2) (mc := 3) (ms := 24) (h2 := hs_119) (c2 := 19) (s2 := 150) hO dX3_init_46 (ci_X5 (h := hs_117) (n := 137) (by decide +kernel) (by decide)) (by decide) rfl (Or.inr (by decide +kernel)) ki_X5_init kk_X5_init kp_X5_init (Nat.le_of_ble_eq_true rfl) rfl rfl (room_le hrm (by decide) (by decide)) ?_
  refine R_aastq (ci := 5) (n := 3) (fs := [.ref 125, .ref 129, .ref 133, .null, .null, .null, .null, .null]) (vs := [.ref 138, .ref 139, .ref 140, .int 0, .int 0, .int 0, .int 0, .int 0]) (h2 := hs_120) hO dX3_init_49 (Or.inl ⟨rfl, rfl, rfl⟩) (by decide +kernel) (by decide +kernel) (by decide) rfl rfl (by decide) (by decide) rfl ?_
  refine R_iinc (v := (4 : Int32)) (L2 := [(1, .int (4 : Int32)), (0, .ref 121)]) hO dX3_init_50 rfl (by decide) (Nat.le_of_ble_eq_true rfl) rfl ?_
  refine R_goto (tgt := 31) hO dX3_init_53 (by decide) ?_
  refine R_iload_n hO dX3_init_31 rfl ?_
  refine R_bipush (v := (7 : Int32)) hO dX3_init_32 (by decide) ?_
  refine R_icmp_gt (tgt := 56) hO dX3_init_34 (by decide) (fun c => absurd c (by decide)) (fun _ => ?_)
  refine R_aload_n hO dX3_init_37 rfl ?_
  refine R_getf (fs := [.ref 122, .ref 123, .ref 124, .int 0, .int 0]) hO dX3_init_38 fl_X3_11 (by decide +kernel) rfl ?_
  refine R_iload_n hO dX3_init_41 rfl ?_
  refine Q_new (ci := 5) (N := 8) (T := TX5) (ty := tyX5) (n := 141) (fs := [.null, .null, .null, .int 0, .int 0, .int 0, .int 0, .int 0]) (h2 := hs_121) (c2 := 20) (s2 := 158) hO dX3_init_42 ⟨(TSi 224 (by decide +kernel) (by decide +kernel)), (TSi 100 (by decide +kernel) (by decide +kernel)), (TSi 68 (by decide +kernel) (by decide +kernel))⟩ rfl (by decide) uin_5 tyX5_ok (by decide +kernel) (fun _ => rfl) (by decide +kernel) (by decide) rfl rfl rfl (room_le hrm (by decide) (by decide)) ?_
  refine R_dup hO dX3_init_45 rfl ?_
  refine Q_init (d2 := 2) (mc := 3) (ms := 24) (h2 := hs_122) (c2 := 23) (s2 := 182) hO dX3_init_46 (ci_X5 (h := hs_120) (n := 141) (by decide +kernel) (by decide)) (by decide) rfl (Or.inr (by decide +kernel)) ki_X5_init kk_X5_init kp_X5_init (Nat.le_of_ble_eq_true rfl) rfl rfl (room_le hrm (by decide) (by decide)) ?_
  refine R_aastq (ci := 5) (n := 4) (fs := [.ref 125, .ref 129, .ref 133, .ref 137, .null, .null, .null, .null]) (vs := [.ref 142, .ref 143, .ref 144, .int 0, .int 0, .int 0, .int 0, .int 0]) (h2 := hs_123) hO dX3_init_49 (Or.inl ⟨rfl, rfl, rfl⟩) (by decide +kernel) (by decide +kernel) (by decide) rfl rfl (by decide) (by decide) rfl ?_
  refine R_iinc (v := (5 : Int32)) (L2 := [(1, .int (5 : Int32)), (0, .ref 121)]) hO dX3_init_50 rfl (by decide) (Nat.le_of_ble_eq_true rfl) rfl ?_
  refine R_goto (tgt := 31) hO dX3_init_53 (by decide) ?_
  refine R_iload_n hO dX3_init_31 rfl ?_
  refine R_bipush (v := (7 : Int32)) hO dX3_init_32 (by decide) ?_
  refine R_icmp_gt (tgt := 56) hO dX3_init_34 (by decide) (fun c => absurd c (by decide)) (fun _ => ?_)
  refine R_aload_n hO dX3_init_37 rfl ?_
  refine R_getf (fs := [.ref 122, .ref 123, .ref 124, .int 0, .int 0]) hO dX3_init_38 fl_X3_11 (by decide +kernel) rfl ?_
  refine R_iload_n hO dX3_init_41 rfl ?_
  refine Q_new (ci := 5) (N := 8) (T := TX5) (ty := tyX5) (n := 145) (fs := [.null, .null, .null, .int 0, .int 0, .int 0, .int 0, .int 0]) (h2 := hs_124) (c2 := 24) (s2 := 190) hO dX3_init_42 ⟨(TSi 224 (by decide +kernel) (by decide +kernel)), (TSi 100 (by decide +kernel) (by decide +kernel)), (TSi 68 (by decide +kernel) (by decide +kernel))⟩ rfl (by decide) uin_5 tyX5_ok (by decide +kernel) (fun _ => rfl) (by decide +kernel) (by decide) rfl rfl rfl (room_le hrm (by decide) (by decide)) ?_
  refine R_dup hO dX3_init_45 rfl ?_
  refine Q_init (d2 := 2) (mc := 3) (ms := 24) (h2 := hs_125) (c2 := 27) (s2 := 214) hO dX3_init_46 (ci_X5 (h := hs_123) (n := 145) (by decide +kernel) (by decide)) (by decide) rfl (Or.inr (by decide +kernel)) ki_X5_init kk_X5_init kp_X5_init (Nat.le_of_ble_eq_true rfl) rfl rfl (room_le hrm (by decide) (by decide)) ?_
  refine R_aastq (ci := 5) (n := 5) (fs := [.ref 125, .ref 129, .ref 133, .ref 137, .ref 141, .null, .null, .null]) (vs := [.ref 146, .ref 147, .ref 148, .int 0, .int 0, .int 0, .int 0, .int 0]) (h2 := hs_126) hO dX3_init_49 (Or.inl ⟨rfl, rfl, rfl⟩) (by decide +kernel) (by decide +kernel) (by decide) rfl rfl (by decide) (by decide) rfl ?_
  refine R_iinc (v := (6 : Int32)) (L2 := [(1, .int (6 : Int32)), (0, .ref 121)]) hO dX3_init_50 rfl (by decide) (Nat.le_of_ble_eq_true rfl) rfl ?_
  refine R_goto (tgt := 31) hO dX3_init_53 (by decide) ?_
  refine R_iload_n hO dX3_init_31 rfl ?_
  refine R_bipush (v := (7 : Int32)) hO dX3_init_32 (by decide) ?_
  refine R_icmp_gt (tgt := 56) hO dX3_init_34 (by decide) (fun c => absurd c (by decide)) (fun _ => ?_)
  refine R_aload_n hO dX3_init_37 rfl ?_
  refine R_getf (fs := [.ref 122, .ref 123, .ref 124, .int 0, .int 0]) hO dX3_init_38 fl_X3_11 (by decide +kernel) rfl ?_
  refine R_iload_n hO dX3_init_41 rfl ?_
  refine Q_new (ci := 5) (N := 8) (T := TX5) (ty := tyX5) (n := 149) (fs := [.null, .null, .null, .int 0, .int 0, .int 0, .int 0, .int 0]) (h2 := hs_127) (c2 := 28) (s2 := 222) hO dX3_init_42 ⟨(TSi 224 (by decide +kernel) (by decide +kernel)), (TSi 100 (by decide +kernel) (by decide +kernel)), (TSi 68 (by decide +kernel) (by decide +kernel))⟩ rfl (by decide) uin_5 tyX5_ok (by decide +kernel) (fun _ => rfl) (by decide +kernel) (by decide) rfl rfl rfl (room_le hrm (by decide) (by decide)) ?_
  refine R_dup hO dX3_init_45 rfl ?_
  refine Q_init (d2 := 2) (mc := 3) (ms := 24) (h2 := hs_128) (c2 := 31) (s2 := 246) hO dX3_init_46 (ci_X5 (h := hs_126) (n := 149) (by decide +kernel) (by decide)) (by decide) rfl (Or.inr (by decide +kernel)) ki_X5_init kk_X5_init kp_X5_init (Nat.le_of_ble_eq_true rfl) rfl rfl (room_le hrm (by decide) (by decide)) ?_
  refine R_aastq (ci := 5) (n := 6) (fs := [.ref 125, .ref 129, .ref 133, .ref 137, .ref 141, .ref 145, .null, .null]) (vs := [.ref 150, .ref 151, .ref 152, .int 0, .int 0, .int 0, .int 0, .int 0]) (h2 := hs_129) hO dX3_init_49 (Or.inl ⟨rfl, rfl, rfl⟩) (by decide +kernel) (by decide +kernel) (by decide) rfl rfl (by decide) (by decide) rfl ?_
  refine R_iinc (v := (7 : Int32)) (L2 := [(1, .int (7 : Int32)), (0, .ref 121)]) hO dX3_init_50 rfl (by decide) (Nat.le_of_ble_eq_true rfl) rfl ?_
  refine R_goto (tgt := 31) hO dX3_init_53 (by decide) ?_
  refine R_iload_n hO dX3_init_31 rfl ?_
  refine R_bipush (v := (7 : Int32)) hO dX3_init_32 (by decide) ?_
  refine R_icmp_gt (tgt := 56) hO dX3_init_34 (by decide) (fun c => absurd c (by decide)) (fun _ => ?_)
  refine R_aload_n hO dX3_init_37 rfl ?_
  refine R_getf (fs := [.ref 122, .ref 123, .ref 124, .int 0, .int 0]) hO dX3_init_38 fl_X3_11 (by decide +kernel) rfl ?_
  refine R_iload_n hO dX3_init_41 rfl ?_
  refine Q_new (ci := 5) (N := 8) (T := TX5) (ty := tyX5) (n := 153) (fs := [.null, .null, .null, .int 0, .int 0, .int 0, .int 0, .int 0]) (h2 := hs_130) (c2 := 32) (s2 := 254) hO dX3_init_42 ⟨(TSi 224 (by decide +kernel) (by decide +kernel)), (TSi 100 (by decide +kernel) (by decide +kernel)), (TSi 68 (by decide +kernel) (by decide +kernel))⟩ rfl (by decide) uin_5 tyX5_ok (by decide +kernel) (fun _ => rfl) (by decide +kernel) (by decide) rfl rfl rfl (room_le hrm (by decide) (by decide)) ?_
  refine R_dup hO dX3_init_45 rfl ?_
  refine Q_init (d2 := 2) (mc := 3) (ms := 24) (h2 := hs_131) (c2 := 35) (s2 := 278) hO dX3_init_46 (ci_X5 (h := hs_129) (n := 153) (by decide +kernel) (by decide)) (by decide) rfl (Or.inr (by decide +kernel)) ki_X5_init kk_X5_init kp_X5_init (Nat.le_of_ble_eq_true rfl) rfl rfl (room_le hrm (by decide) (by decide)) ?_
  refine R_aastq (ci := 5) (n := 7) (fs := [.ref 125, .ref 129, .ref 133, .ref 137, .ref 141, .ref 145, .ref 149, .null]) (vs := [.ref 154, .ref 155, .ref 156, .int 0, .int 0, .int 0, .int 0, .int 0]) (h2 := hs_132) hO dX3_init_49 (Or.inl ⟨rfl, rfl, rfl⟩) (by decide +kernel) (by decide +kernel) (by decide) rfl rfl (by decide) (by decide) rfl ?_
  refine R_iinc (v := (8 : Int32)) (L2 := [(1, .int (8 : Int32)), (0, .ref 121)]) hO dX3_init_50 rfl (by decide) (Nat.le_of_ble_eq_true rfl) rfl ?_
  refine R_goto (tgt := 31) hO dX3_init_53 (by decide) ?_
  refine R_iload_n hO dX3_init_31 rfl ?_
  refine R_bipush (v := (7 : Int32)) hO dX3_init_32 (by decide) ?_
  refine R_icmp_gt (tgt := 56) hO dX3_init_34 (by decide) (fun _ => ?_) (fun c => absurd (by decide) c)
  exact R_vret hO hQ dX3_init_56 rfl ⟨rfl, rfl⟩
def hs_133 : AH := hs_132.set 0 (7, [.ref 1, .ref 2, .ref 8, .ref 12, .ref 13, .ref 111, .ref 121, .null, .int 0, .int 0])
def hs_134 : AH := hs_133 ++ [(1, [.null, .int 0, .int 0, .int 0, .int 0, .int 0])]
theorem kk_X1_init : Cond.initialized MX1_init.1.cls ∈ TS ∧ Cond.code MX1_init.1 MX1_init.2.1 MX1_init.2.2.1 MX1_init.2.2.2 ∈ TS ∧ (MX1_init.1.cls ≠ "java/lang/invoke/MethodHandle" ∧ MX1_init.1.cls ≠ "java/lang/invoke/VarHandle") ∧ MX1_init.2.2.1 ≤ 40 := ⟨(TSi 72 (by decide +kernel) (by decide +kernel)), (TSi 249 (by decide +kernel) (by decide +kernel)), ⟨by decide +kernel, by decide +kernel⟩, by decide⟩
theorem ki_X1_init : MX1_init.1.name = "<init>" ∧ Cond.instanceMethod MX1_init.1 ∈ TS := ⟨rfl, (TSi 248 (by decide +kernel) (by decide +kernel))⟩
theorem kp_X1_init : (parseMethodDescriptor MX1_init.1.desc).map (fun d => d.parameters.length) = some 0 := by decide +kernel
def hs_135 : AH := hs_134 ++ [(20, List.replicate 16 (.int 0))]
def hs_136 : AH := hs_135.set 157 (1, [.ref 158, .int 0, .int 0, .int 0, .int 0, .int 0])
set_option maxRecDepth 20000 in
set_option maxHeartbeats 4000000 in
theorem ci_X1_init : C true 2 MX1_init 1 16 [.ref 157] hs_134 (fun v h' => v = none ∧ h' = hs_136) := by
  refine C.of (by decide +kernel) (Nat.le_of_ble_eq_true rfl) (fun X hO hQ => ?_)
  have hrm := roomQ hQ
  show R X MX1_init 0 [(0, .ref 157)] [] hs_134 0 0
  refine R_aload_n hO dX1_init_0 rfl ?_
  refine R_objInit hO dX1_init_1 (by omega) (TSi 250 (by decide +kernel) (by decide +kernel)) (Nat.le_of_ble_eq_true rfl) ?_
  refine R_aload_n hO dX1_init_4 rfl ?_
  refine R_bipush (v := (16 : Int32)) hO dX1_init_5 (by decide) ?_
  refine Q_newi (N := 16) (n := 158) (h2 := hs_135) (c2 := 1) (s2 := 16) hO dX1_init_7 (by decide) (by decide) (by decide) (by decide +kernel) (by decide) rfl rfl rfl (room_le hrm (by decide) (by decide)) ?_
  refine R_putq (fs := [.null, .int 0, .int 0, .int 0, .int 0, .int 0]) (h2 := hs_136) hO dX1_init_9 fl_X1_11 (Or.inr ⟨rfl, rfl⟩) (by decide +kernel) (by decide) (fun _ => rfl) (fun _ => rfl) rfl ?_
  exact R_vret hO hQ dX1_init_12 rfl ⟨rfl, rfl⟩
def hs_137 : AH := hs_136.set 0 (7, [.ref 1, .ref 2, .ref 8, .ref 12, .ref 13, .ref 111, .ref 121, .ref 157, .int 0, .int 0])
def hs_138 : AH := hs_137 ++ [(4, [.null, .int 0, .int 0, .int 0])]
theorem kk_X4_init : Cond.initialized MX4_init.1.cls ∈ TS ∧ Cond.code MX4_init.1 MX4_init.2.1 MX4_init.2.2.1 MX4_init.2.2.2 ∈ TS ∧ (MX4_init.1.cls ≠ "java/lang/invoke/MethodHandle" ∧ MX4_init.1.cls ≠ "java/lang/invoke/VarHandle") ∧ MX4_init.2.2.1 ≤ 40 := ⟨(TSi 73 (by decide +kernel) (by decide +kernel)), (TSi 275 (by decide +kernel) (by decide +kernel)), ⟨by decide +kernel, by decide +kernel⟩, by decide⟩
theorem ki_X4_init : MX4_init.1.name = "<init>" ∧ Cond.instanceMethod MX4_init.1 ∈ TS := ⟨rfl, (TSi 274 (by decide +kernel) (by decide +kernel))⟩
theorem kp_X4_init : (parseMethodDescriptor MX4_init.1.desc).map (fun d => d.parameters.length) = some 0 := by decide +kernel
def hs_139 : AH := hs_137 ++ rwC 159
def hs_140 : AH := hs_139.set 1 (23, [.ref 159, .null, .null, .null, .null, .null, .null, .null])
def hs_141 : AH := hs_140 ++ [(4, [.null, .int 0, .int 0, .int 0])]
def hs_142 : AH := hs_140 ++ rwC 161
def hs_143 : AH := hs_142.set 1 (23, [.ref 159, .ref 161, .null, .null, .null, .null, .null, .null])
def hs_144 : AH := hs_143 ++ [(4, [.null, .int 0, .int 0, .int 0])]
def hs_145 : AH := hs_143 ++ rwC 163
def hs_146 : AH := hs_145.set 1 (23, [.ref 159, .ref 161, .ref 163, .null, .null, .null, .null, .null])
def hs_147 : AH := hs_146 ++ [(4, [.null, .int 0, .int 0, .int 0])]
def hs_148 : AH := hs_146 ++ rwC 165
def hs_149 : AH := hs_148.set 1 (23, [.ref 159, .ref 161, .ref 163, .ref 165, .null, .null, .null, .null])
def hs_150 : AH := hs_149 ++ [(4, [.null, .int 0, .int 0, .int 0])]
def hs_151 : AH := hs_149 ++ rwC 167
def hs_152 : AH := hs_151.set 1 (23, [.ref 159, .ref 161, .ref 163, .ref 165, .ref 167, .null, .null, .null])
def hs_153 : AH := hs_152 ++ [(4, [.null, .int 0, .int 0, .int 0])]
def hs_154 : AH := hs_152 ++ rwC 169
def hs_155 : AH := hs_154.set 1 (23, [.ref 159, .ref 161, .ref 163, .ref 165, .ref 167, .ref 169, .null, .null])
def hs_156 : AH := hs_155 ++ [(4, [.null, .int 0, .int 0, .int 0])]
def hs_157 : AH := hs_155 ++ rwC 171
def hs_158 : AH := hs_157.set 1 (23, [.ref 159, .ref 161, .ref 163, .ref 165, .ref 167, .ref 169, .ref 171, .null])
def hs_159 : AH := hs_158 ++ [(4, [.null, .int 0, .int 0, .int 0])]
def hs_160 : AH := hs_158 ++ rwC 173
def hs_161 : AH := hs_160.set 1 (23, [.ref 159, .ref 161, .ref 163, .ref 165, .ref 167, .ref 169, .ref 171, .ref 173])
def hs_162 : AH := hs_161 ++ [(5, [.null, .null, .null, .int 0, .int 0, .int 0, .int 0, .int 0])]
def hs_163 : AH := hs_161 ++ stC 175
def hs_164 : AH := hs_163.set 12 (22, [.ref 175, .null])
def hs_165 : AH := hs_164 ++ [(5, [.null, .null, .null, .int 0, .int 0, .int 0, .int 0, .int 0])]
def hs_166 : AH := hs_164 ++ stC 179
def hs_167 : AH := hs_166.set 12 (22, [.ref 175, .ref 179])
set_option maxRecDepth 20000 in
set_option maxHeartbeats 4000000 in
theorem ci_X7_init : C true 4 MX7_init 182 1775 [.ref 0] hs_1 (fun v h' => v = none ∧ h' = hs_167) := by
  refine C.of (by decide +kernel) (Nat.le_of_ble_eq_true rfl) (fun X hO hQ => ?_)
  have hrm := roomQ hQ
  show R X MX7_init 0 [(0, .ref 0)] [] hs_1 0 0
  refine R_aload_n hO dX7_init_0 rfl ?_
  refine R_objInit hO dX7_init_1 (by omega) (TSi 88 (by decide +kernel) (by decide +kernel)) (Nat.le_of_ble_eq_true rfl) ?_
  refine R_aload_n hO dX7_init_4 rfl ?_
  refine R_bipush (v := (8 : Int32)) hO dX7_init_5 (by decide) ?_
  refine Q_newq (N := 8) (n := 1) (h2 := hs_2) (c2 := 1) (s2 := 8) hO dX7_init_7 (Or.inr ⟨rfl, rfl, rfl⟩) (TSi 91 (by decide +kernel) (by decide +kernel)) (by decide) (by decide) (by decide) (by decide +kernel) (by decide) rfl rfl rfl (room_le hrm (by decide) (by decide)) ?_
  refine R_putq (fs := [.null, .null, .null, .null, .null, .null, .null, .null, .int 0, .int 0]) (h2 := hs_3) hO dX7_init_10 fl_X7_11 (Or.inr ⟨rfl, rfl⟩) (by decide +kernel) (by decide) (fun _ => rfl) (fun _ => rfl) rfl ?_
  refine R_aload_n hO dX7_init_13 rfl ?_
  refine Q_new (ci := 6) (N := 5) (T := TX6) (ty := tyX6) (n := 2) (fs := [.null, .int 0, .int 0, .int 0, .null]) (h2 := hs_4) (c2 := 2) (s2 := 13) hO dX7_init_14 ⟨(TSi 93 (by decide +kernel) (by decide +kernel)), (TSi 94 (by decide +kernel) (by decide +kernel)), (TSi 67 (by decide +kernel) (by decide +kernel))⟩ rfl (by decide) uin_6 tyX6_ok (by decide +kernel) (fun _ => rfl) (by decide +kernel) (by decide) rfl rfl rfl (room_le hrm (by decide) (by decide)) ?_
  refine R_dup hO dX7_init_17 rfl ?_
  refine Q_init (d2 := 3) (mc := 5) (ms := 132) (h2 := hs_9) (c2 := 7) (s2 := 145) hO dX7_init_18 ci_X6_init (by decide) rfl (Or.inr (by decide +kernel)) ki_X6_init kk_X6_init kp_X6_init (Nat.le_of_ble_eq_true rfl) rfl rfl (room_le hrm (by decide) (by decide)) ?_
  refine R_putq (fs := [.ref 1, .null, .null, .null, .null, .null, .null, .null, .int 0, .int 0]) (h2 := hs_10) hO dX7_init_21 fl_X7_18 (Or.inr ⟨rfl, rfl⟩) (by decide +kernel) (by decide) (fun _ => rfl) (fun _ => rfl) rfl ?_
  refine R_aload_n hO dX7_init_24 rfl ?_
  refine Q_new (ci := 5) (N := 8) (T := TX5) (ty := tyX5) (n := 8) (fs := [.null, .null, .null, .int 0, .int 0, .int 0, .int 0, .int 0]) (h2 := hs_11) (c2 := 8) (s2 := 153) hO dX7_init_25 ⟨(TSi 174 (by decide +kernel) (by decide +kernel)), (TSi 100 (by decide +kernel) (by decide +kernel)), (TSi 68 (by decide +kernel) (by decide +kernel))⟩ rfl (by decide) uin_5 tyX5_ok (by decide +kernel) (fun _ => rfl) (by decide +kernel) (by decide) rfl rfl rfl (room_le hrm (by decide) (by decide)) ?_
  refine R_dup hO dX7_init_28 rfl ?_
  refine Q_init (d2 := 2) (mc := 3) (ms := 24) (h2 := hs_12) (c2 := 11) (s2 := 177) hO dX7_init_29 (ci_X5 (h := hs_10) (n := 8) (by decide +kernel) (by decide)) (by decide) rfl (Or.inr (by decide +kernel)) ki_X5_init kk_X5_init kp_X5_init (Nat.le_of_ble_eq_true rfl) rfl rfl (room_le hrm (by decide) (by decide)) ?_
  refine R_putq (fs := [.ref 1, .ref 2, .null, .null, .null, .null, .null, .null, .int 0, .int 0]) (h2 := hs_13) hO dX7_init_32 fl_X7_25 (Or.inr ⟨rfl, rfl⟩) (by decide +kernel) (by decide) (fun _ => rfl) (fun _ => rfl) rfl ?_
  refine R_aload_n hO dX7_init_35 rfl ?_
  refine R_iconst (v := (2 : Int32)) hO dX7_init_36 (by decide) ?_
  refine Q_newq (N := 2) (n := 12) (h2 := hs_14) (c2 := 12) (s2 := 179) hO dX7_init_37 (Or.inl ⟨rfl, rfl, rfl⟩) (TSi 174 (by decide +kernel) (by decide +kernel)) (by decide) (by decide) (by decide) (by decide +kernel) (by decide) rfl rfl rfl (room_le hrm (by decide) (by decide)) ?_
  refine R_putq (fs := [.ref 1, .ref 2, .ref 8, .null, .null, .null, .null, .null, .int 0, .int 0]) (h2 := hs_15) hO dX7_init_40 fl_X7_29 (Or.inr ⟨rfl, rfl⟩) (by decide +kernel) (by decide) (fun _ => rfl) (fun _ => rfl) rfl ?_
  refine R_aload_n hO dX7_init_43 rfl ?_
  refine Q_new (ci := 0) (N := 3) (T := TX0) (ty := tyX0) (n := 13) (fs := [.null, .int 0, .int 0]) (h2 := hs_16) (c2 := 13) (s2 := 182) hO dX7_init_44 ⟨(TSi 177 (by decide +kernel) (by decide +kernel)), (TSi 178 (by decide +kernel) (by decide +kernel)), (TSi 69 (by decide +kernel) (by decide +kernel))⟩ rfl (by decide) uin_0 tyX0_ok (by decide +kernel) (fun _ => rfl) (by decide +kernel) (by decide) rfl rfl rfl (room_le hrm (by decide) (by decide)) ?_
  refine R_dup hO dX7_init_47 rfl ?_
  refine Q_init (d2 := 3) (mc := 97) (ms := 792) (h2 := hs_90) (c2 := 110) (s2 := 974) hO dX7_init_48 ci_X0_init (by decide) rfl (Or.inl (TSi 179 (by decide +kernel) (by decide +kernel))) ki_X0_init kk_X0_init kp_X0_init (Nat.le_of_ble_eq_true rfl) rfl rfl (room_le hrm (by decide) (by decide)) ?_
  refine R_putq (fs := [.ref 1, .ref 2, .ref 8, .ref 12, .null, .null, .null, .null, .int 0, .int 0]) (h2 := hs_91) hO dX7_init_51 fl_X7_36 (Or.inr ⟨rfl, rfl⟩) (by decide +kernel) (by decide) (fun _ => rfl) (fun _ => rfl) rfl ?_
  refine R_aload_n hO dX7_init_54 rfl ?_
  refine Q_new (ci := 2) (N := 4) (T := TX2) (ty := tyX2) (n := 111) (fs := [.null, .null, .null, .int 0]) (h2 := hs_92) (c2 := 111) (s2 := 978) hO dX7_init_55 ⟨(TSi 196 (by decide +kernel) (by decide +kernel)), (TSi 197 (by decide +kernel) (by decide +kernel)), (TSi 70 (by decide +kernel) (by decide +kernel))⟩ rfl (by decide) uin_2 tyX2_ok (by decide +kernel) (fun _ => rfl) (by decide +kernel) (by decide) rfl rfl rfl (room_le hrm (by decide) (by decide)) ?_
  refine R_dup hO dX7_init_58 rfl ?_
  refine Q_init (d2 := 3) (mc := 9) (ms := 76) (h2 := hs_100) (c2 := 120) (s2 := 1054) hO dX7_init_59 ci_X2_init (by decide) rfl (Or.inr (by decide +kernel)) ki_X2_init kk_X2_init kp_X2_init (Nat.le_of_ble_eq_true rfl) rfl rfl (room_le hrm (by decide) (by decide)) ?_
  refine R_putq (fs := [.ref 1, .ref 2, .ref 8, .ref 12, .ref 13, .null, .null, .null, .int 0, .int 0]) (h2 := hs_101) hO dX7_init_62 fl_X7_43 (Or.inr ⟨rfl, rfl⟩) (by decide +kernel) (by decide) (fun _ => rfl) (fun _ => rfl) rfl ?_
  refine R_aload_n hO dX7_init_65 rfl ?_
  refine Q_new (ci := 3) (N := 5) (T := TX3) (ty := tyX3) (n := 121) (fs := [.null, .null, .null, .int 0, .int 0]) (h2 := hs_102) (c2 := 121) (s2 := 1059) hO dX7_init_66 ⟨(TSi 218 (by decide +kernel) (by decide +kernel)), (TSi 219 (by decide +kernel) (by decide +kernel)), (TSi 71 (by decide +kernel) (by decide +kernel))⟩ rfl (by decide) uin_3 tyX3_ok (by decide +kernel) (fun _ => rfl) (by decide +kernel) (by decide) rfl rfl rfl (room_le hrm (by decide) (by decide)) ?_
  refine R_dup hO dX7_init_69 rfl ?_
  refine Q_init (d2 := 3) (mc := 35) (ms := 278) (h2 := hs_132) (c2 := 156) (s2 := 1337) hO dX7_init_70 ci_X3_init (by decide) rfl (Or.inl (TSi 220 (by decide +kernel) (by decide +kernel))) ki_X3_init kk_X3_init kp_X3_init (Nat.le_of_ble_eq_true rfl) rfl rfl (room_le hrm (by decide) (by decide)) ?_
  refine R_putq (fs := [.ref 1, .ref 2, .ref 8, .ref 12, .ref 13, .ref 111, .null, .null, .int 0, .int 0]) (h2 := hs_133) hO dX7_init_73 fl_X7_50 (Or.inr ⟨rfl, rfl⟩) (by decide +kernel) (by decide) (fun _ => rfl) (fun _ => rfl) rfl ?_
  refine R_aload_n hO dX7_init_76 rfl ?_
  refine Q_new (ci := 1) (N := 6) (T := TX1) (ty := tyX1) (n := 157) (fs := [.null, .int 0, .int 0, .int 0, .int 0, .int 0]) (h2 := hs_134) (c2 := 157) (s2 := 1343) hO dX7_init_77 ⟨(TSi 245 (by decide +kernel) (by decide +kernel)), (TSi 246 (by decide +kernel) (by decide +kernel)), (TSi 72 (by decide +kernel) (by decide +kernel))⟩ rfl (by decide) uin_1 tyX1_ok (by decide +kernel) (fun _ => rfl) (by decide +kernel) (by decide) rfl rfl rfl (room_le hrm (by decide) (by decide)) ?_
  refine R_dup hO dX7_init_80 rfl ?_
  refine Q_init (d2 := 2) (mc := 1) (ms := 16) (h2 := hs_136) (c2 := 158) (s2 := 1359) hO dX7_init_81 ci_X1_init (by decide) rfl (Or.inr (by decide +kernel)) ki_X1_init kk_X1_init kp_X1_init (Nat.le_of_ble_eq_true rfl) rfl rfl (room_le hrm (by decide) (by decide)) ?_
  refine R_putq (fs := [.ref 1, .ref 2, .ref 8, .ref 12, .ref 13, .ref 111, .ref 121, .null, .int 0, .int 0]) (h2 := hs_137) hO dX7_init_84 fl_X7_57 (Or.inr ⟨rfl, rfl⟩) (by decide +kernel) (by decide) (fun _ => rfl) (fun _ => rfl) rfl ?_
  refine R_iconst (v := (0 : Int32)) hO dX7_init_87 (by decide) ?_
  refine R_istore_n (L2 := [(1, .int (0 : Int32)), (0, .ref 0)]) hO dX7_init_88 (Nat.le_of_ble_eq_true rfl) rfl ?_
  refine R_iload_n hO dX7_init_89 rfl ?_
  refine R_bipush (v := (8 : Int32)) hO dX7_init_90 (by decide) ?_
  refine R_icmp_ge (tgt := 114) hO dX7_init_92 (by decide) (fun c => absurd c (by decide)) (fun _ => ?_)
  refine R_aload_n hO dX7_init_95 rfl ?_
  refine R_getf (fs := [.ref 1, .ref 2, .ref 8, .ref 12, .ref 13, .ref 111, .ref 121, .ref 157, .int 0, .int 0]) hO dX7_init_96 fl_X7_11 (by decide +kernel) rfl ?_
  refine R_iload_n hO dX7_init_99 rfl ?_
  refine Q_new (ci := 4) (N := 4) (T := TX4) (ty := tyX4) (n := 159) (fs := [.null, .int 0, .int 0, .int 0]) (h2 := hs_138) (c2 := 159) (s2 := 1363) hO dX7_init_100 ⟨(TSi 91 (by decide +kernel) (by decide +kernel)), (TSi 272 (by decide +kernel) (by decide +kernel)), (TSi 73 (by decide +kernel) (by decide +kernel))⟩ rfl (by decide) uin_4 tyX4_ok (by decide +kernel) (fun _ => rfl) (by decide +kernel) (by decide) rfl rfl rfl (room_le hrm (by decide) (by decide)) ?_
  refine R_dup hO dX7_init_103 rfl ?_
  refine Q_init (d2 := 2) (mc := 1) (ms := 40) (h2 := hs_139) (c2 := 160) (s2 := 1403) hO dX7_init_104 (ci_X4 (h := hs_137) (n := 159) (by decide +kernel) (by decide)) (by decide) rfl (Or.inr (by decide +kernel)) ki_X4_init kk_X4_init kp_X4_init (Nat.le_of_ble_eq_true rfl) rfl rfl (room_le hrm (by decide) (by decide)) ?_
  refine R_aastq (ci := 4) (n := 0) (fs := [.null, .null, .null, .null, .null, .null, .null, .null]) (vs := [.ref 160, .int 1, .int 0, .int 0]) (h2 := hs_140) hO dX7_init_107 (Or.inr ⟨rfl, rfl, rfl⟩) (by decide +kernel) (by decide +kernel) (by decide) rfl rfl (by decide) (by decide) rfl ?_
  refine R_iinc (v := (1 : Int32)) (L2 := [(1, .int (1 : Int32)), (0, .ref 0)]) hO dX7_init_108 rfl (by decide) (Nat.le_of_ble_eq_true rfl) rfl ?_
  refine R_goto (tgt := 89) hO dX7_init_111 (by decide) ?_
  refine R_iload_n hO dX7_init_89 rfl ?_
  refine R_bipush (v := (8 : Int32)) hO dX7_init_90 (by decide) ?_
  refine R_icmp_ge (tgt := 114) hO dX7_init_92 (by decide) (fun c => absurd c (by decide)) (fun _ => ?_)
  refine R_aload_n hO dX7_init_95 rfl ?_
  refine R_getf (fs := [.ref 1, .ref 2, .ref 8, .ref 12, .ref 13, .ref 111, .ref 121, .ref 157, .int 0, .int 0]) hO dX7_init_96 fl_X7_11 (by decide +kernel) rfl ?_
  refine R_iload_n hO dX7_init_99 rfl ?_
  refine Q_new (ci := 4) (N := 4) (T := TX4) (ty := tyX4) (n := 161) (fs := [.null, .int 0, .int 0, .int 0]) (h2 := hs_141) (c2 := 161) (s2 := 1407) hO dX7_init_100 ⟨(TSi 91 (by decide +kernel) (by decide +kernel)), (TSi 272 (by decide +kernel) (by decide +kernel)), (TSi 73 (by decide +kernel) (by decide +kernel))⟩ rfl (by decide) uin_4 tyX4_ok (by decide +kernel) (fun _ => rfl) (by decide +kernel) (by decide) rfl rfl rfl (room_le hrm (by decide) (by decide)) ?_
  refine R_dup hO dX7_init_103 rfl ?_
  refine Q_init (d2 := 2) (mc := 1) (ms := 40) (h2 := hs_142) (c2 := 162) (s2 := 1447) hO dX7_init_104 (ci_X4 (h := hs_140) (n := 161) (by decide +kernel) (by decide)) (by decide) rfl (Or.inr (by decide +kernel)) ki_X4_init kk_X4_init kp_X4_init (Nat.le_of_ble_eq_true rfl) rfl rfl (room_le hrm (by decide) (by decide)) ?_
  refine R_aastq (ci := 4) (n := 1) (fs := [.ref 159, .null, .null, .null, .null, .null, .null, .null]) (vs := [.ref 162, .int 1, .int 0, .int 0]) (h2 := hs_143) hO dX7_init_107 (Or.inr ⟨rfl, rfl, rfl⟩) (by decide +kernel) (by decide +kernel) (by decide) rfl rfl (by decide) (by decide) rfl ?_
  refine R_iinc (v := (2 : Int32)) (L2 := [(1, .int (2 : Int32)), (0, .ref 0)]) hO dX7_init_108 rfl (by decide) (Nat.le_of_ble_eq_true rfl) rfl ?_
  refine R_goto (tgt := 89) hO dX7_init_111 (by decide) ?_
  refine R_iload_n hO dX7_init_89 rfl ?_
  refine R_bipush (v := (8 : Int32)) hO dX7_init_90 (by decide) ?_
  refine R_icmp_ge (tgt := 114) hO dX7_init_92 (by decide) (fun c => absurd c (by decide)) (fun _ => ?_)
  refine R_aload_n hO dX7_init_95 rfl ?_
  refine R_getf (fs := [.ref 1, .ref 2, .ref 8, .ref 12, .ref 13, .ref 111, .ref 121, .ref 157, .int 0, .int 0]) hO dX7_init_96 fl_X7_11 (by decide +kernel) rfl ?_
  refine R_iload_n hO dX7_init_99 rfl ?_
  refine Q_new (ci := 4) (N := 4) (T := TX4) (ty := tyX4) (n := 163) (fs := [.null, .int 0, .int 0, .int 0]) (h2 := hs_144) (c2 := 163) (s2 := 1451) hO dX7_init_100 ⟨(TSi 91 (by decide +kernel) (by decide +kernel)), (TSi 272 (by decide +kernel) (by decide +kernel)), (TSi 73 (by decide +kernel) (by decide +kernel))⟩ rfl (by decide) uin_4 tyX4_ok (by decide +kernel) (fun _ => rfl) (by decide +kernel) (by decide) rfl rfl rfl (room_le hrm (by decide) (by decide)) ?_
  refine R_dup hO dX7_init_103 rfl ?_
  refine Q_init (d2 := 2) (mc := 1) (ms := 40) (h2 := hs_145) (c2 := 164) (s2 := 1491) hO dX7_init_104 (ci_X4 (h := hs_143) (n := 163) (by decide +kernel) (by decide)) (by decide) rfl (Or.inr (by decide +kernel)) ki_X4_init kk_X4_init kp_X4_init (Nat.le_of_ble_eq_true rfl) rfl rfl (room_le hrm (by decide) (by decide)) ?_
  refine R_aastq (ci := 4) (n := 2) (fs := [.ref 159, .ref 161, .null, .null, .null, .null, .null, .null]) (vs := [.ref 164, .int 1, .int 0, .int 0]) (h2 := hs_146) hO dX7_init_107 (Or.inr ⟨rfl, rfl, rfl⟩) (by decide +kernel) (by decide +kernel) (by decide) rfl rfl (by decide) (by decide) rfl ?_
  refine R_iinc (v := (3 : Int32)) (L2 := [(1, .int (3 : Int32)), (0, .ref 0)]) hO dX7_init_108 rfl (by decide) (Nat.le_of_ble_eq_true rfl) rfl ?_
  refine R_goto (tgt := 89) hO dX7_init_111 (by decide) ?_
  refine R_iload_n hO dX7_init_89 rfl ?_
  refine R_bipush (v := (8 : Int32)) hO dX7_init_90 (by decide) ?_
  refine R_icmp_ge (tgt := 114) hO dX7_init_92 (by decide) (fun c => absurd c (by decide)) (fun _ => ?_)
  refine R_aload_n hO dX7_init_95 rfl ?_
  refine R_getf (fs := [.ref 1, .ref 2, .ref 8, .ref 12, .ref 13, .ref 111, .ref 121, .ref 157, .int 0, .int 0]) hO dX7_init_96 fl_X7_11 (by decide +kernel) rfl ?_
  refine R_iload_n hO dX7_init_99 rfl ?_
  refine Q_new (ci := 4) (N := 4) (T := TX4) (ty := tyX4) (n := 165) (fs := [.null, .int 0, .int 0, .int 0]) (h2 := hs_147) (c2 := 165) (s2 := 1495) hO dX7_init_100 ⟨(TSi 91 (by decide +kernel) (by decide +kernel)), (TSi 272 (by decide +kernel) (by decide +kernel)), (TSi 73 (by decide +kernel) (by decide +kernel))⟩ rfl (by decide) uin_4 tyX4_ok (by decide +kernel) (fun _ => rfl) (by decide +kernel) (by decide) rfl rfl rfl (room_le hrm (by decide) (by decide)) ?_
  refine R_dup hO dX7_init_103 rfl ?_
  refine Q_init (d2 := 2) (mc := 1) (ms := 40) (h2 := hs_148) (c2 := 166) (s2 := 1535) hO dX7_init_104 (ci_X4 (h := hs_146) (n := 165) (by decide +kernel) (by decide)) (by decide) rfl (Or.inr (by decide +kernel)) ki_X4_init kk_X4_init kp_X4_init (Nat.le_of_ble_eq_true rfl) rfl rfl (room_le hrm (by decide) (by decide)) ?_
  refine R_aastq (ci := 4) (n := 3) (fs := [.ref 159, .ref 161, .ref 163, .null, .null, .null, .null, .null]) (vs := [.ref 166, .int 1, .int 0, .int 0]) (h2 := hs_149) hO dX7_init_107 (Or.inr ⟨rfl, rfl, rfl⟩) (by decide +kernel) (by decide +kernel) (by decide) rfl rfl (by decide) (by decide) rfl ?_
  refine R_iinc (v := (4 : Int32)) (L2 := [(1, .int (4 : Int32)), (0, .ref 0)]) hO dX7_init_108 rfl (by decide) (Nat.le_of_ble_eq_true rfl) rfl ?_
  refine R_goto (tgt := 89) hO dX7_init_111 (by decide) ?_
  refine R_iload_n hO dX7_init_89 rfl ?_
  refine R_bipush (v := (8 : Int32)) hO dX7_init_90 (by decide) ?_
  refine R_icmp_ge (tgt := 114) hO dX7_init_92 (by decide) (fun c => absurd c (by decide)) (fun _ => ?_)
  refine R_aload_n hO dX7_init_95 rfl ?_
  refine R_getf (fs := [.ref 1, .ref 2, .ref 8, .ref 12, .ref 13, .ref 111, .ref 121, .ref 157, .int 0, .int 0]) hO dX7_init_96 fl_X7_11 (by decide +kernel) rfl ?_
  refine R_iload_n hO dX7_init_99 rfl ?_
  refine Q_new (ci := 4) (N := 4) (T := TX4) (ty := tyX4) (n := 167) (fs := [.null, .int 0, .int 0, .int 0]) (h2 := hs_150) (c2 := 167) (s2 := 1539) hO dX7_init_100 ⟨(TSi 91 (by decide +kernel) (by decide +kernel)), (TSi 272 (by decide +kernel) (by decide +kernel)), (TSi 73 (by decide +kernel) (by decide +kernel))⟩ rfl (by decide) uin_4 tyX4_ok (by decide +kernel) (fun _ => rfl) (by decide +kernel) (by decide) rfl rfl rfl (room_le hrm (by decide) (by decide)) ?_
  refine R_dup hO dX7_init_103 rfl ?_
  refine Q_init (d2 := 2) (mc := 1) (ms := 40) (h2 := hs_151) (c2 := 168) (s2 := 1579) hO dX7_init_104 (ci_X4 (h := hs_149) (n := 167) (by decide +kernel) (by decide)) (by decide) rfl (Or.inr (by decide +kernel)) ki_X4_init kk_X4_init kp_X4_init (Nat.le_of_ble_eq_true rfl) rfl rfl (room_le hrm (by decide) (by decide)) ?_
  refine R_aastq (ci := 4) (n := 4) (fs := [.ref 159, .ref 161, .ref 163, .ref 165, .null, .null, .null, .null]) (vs := [.ref 168, .int 1, .int 0, .int 0]) (h2 := hs_152) hO dX7_init_107 (Or.inr ⟨rfl, rfl, rfl⟩) (by decide +kernel) (by decide +kernel) (by decide) rfl rfl (by decide) (by decide) rfl ?_
  refine R_iinc (v := (5 : Int32)) (L2 := [(1, .int (5 : Int32)), (0, .ref 0)]) hO dX7_init_108 rfl (by decide) (Nat.le_of_ble_eq_true rfl) rfl ?_
  refine R_goto (tgt := 89) hO dX7_init_111 (by decide) ?_
  refine R_iload_n hO dX7_init_89 rfl ?_
  refine R_bipush (v := (8 : Int32)) hO dX7_init_90 (by decide) ?_
  refine R_icmp_ge (tgt := 114) hO dX7_init_92 (by decide) (fun c => absurd c (by decide)) (fun _ => ?_)
  refine R_aload_n hO dX7_init_95 rfl ?_
  refine R_getf (fs := [.ref 1, .ref 2, .ref 8, .ref 12, .ref 13, .ref 111, .ref 121, .ref 157, .int 0, .int 0]) hO dX7_init_96 fl_X7_11 (by decide +kernel) rfl ?_
  refine R_iload_n hO dX7_init_99 rfl ?_
  refine Q_new (ci := 4) (N := 4) (T := TX4) (ty := tyX4) (n := 169) (fs := [.null, .int 0, .int 0, .int 0]) (h2 := hs_153) (c2 := 169) (s2 := 1583) hO dX7_init_100 ⟨(TSi 91 (by decide +kernel) (by decide +kernel)), (TSi 272 (by decide +kernel) (by decide +kernel)), (TSi 73 (by decide +kernel) (by decide +kernel))⟩ rfl (by decide) uin_4 tyX4_ok (by decide +kernel) (fun _ => rfl) (by decide +kernel) (by decide) rfl rfl rfl (room_le hrm (by decide) (by decide)) ?_
  refine R_dup hO dX7_init_103 rfl ?_
  refine Q_init (d2 := 2) (mc := 1) (ms := 40) (h2 := hs_154) (c2 := 170) (s2 := 1623) hO dX7_init_104 (ci_X4 (h := hs_152) (n := 169) (by decide +kernel) (by decide)) (by decide) rfl (Or.inr (by decide +kernel)) ki_X4_init kk_X4_init kp_X4_init (Nat.le_of_ble_eq_true rfl) rfl rfl (room_le hrm (by decide) (by decide)) ?_
  refine R_aastq (ci := 4) (n := 5) (fs := [.ref 159, .ref 161, .ref 163, .ref 165, .ref 167, .null, .null, .null]) (vs := [.ref 170, .int 1, .int 0, .int 0]) (h2 := hs_155) hO dX7_init_107 (Or.inr ⟨rfl, rfl, rfl⟩) (by decide +kernel) (by decide +kernel) (by decide) rfl rfl (by decide) (by decide) rfl ?_
  refine R_iinc (v := (6 : Int32)) (L2 := [(1, .int (6 : Int32)), (0, .ref 0)]) hO dX7_init_108 rfl (by decide) (Nat.le_of_ble_eq_true rfl) rfl ?_
  refine R_goto (tgt := 89) hO dX7_init_111 (by decide) ?_
  refine R_iload_n hO dX7_init_89 rfl ?_
  refine R_bipush (v := (8 : Int32)) hO dX7_init_90 (by decide) ?_
  refine R_icmp_ge (tgt := 114) hO dX7_init_92 (by decide) (fun c => absurd c (by decide)) (fun _ => ?_)
  refine R_aload_n hO dX7_init_95 rfl ?_
  refine R_getf (fs := [.ref 1, .ref 2, .ref 8, .ref 12, .ref 13, .ref 111, .ref 121, .ref 157, .int 0, .int 0]) hO dX7_init_96 fl_X7_11 (by decide +kernel) rfl ?_
  refine R_iload_n hO dX7_init_99 rfl ?_
  refine Q_new (ci := 4) (N := 4) (T := TX4) (ty := tyX4) (n := 171) (fs := [.null, .int 0, .int 0, .int 0]) (h2 := hs_156) (c2 := 171) (s2 := 1627) hO dX7_init_100 ⟨(TSi 91 (by decide +kernel) (by decide +kernel)), (TSi 272 (by decide +kernel) (by decide +kernel)), (TSi 73 (by decide +kernel) (by decide +kernel))⟩ rfl (by decide) uin_4 tyX4_ok (by decide +kernel) (fun _ => rfl) (by decide +kernel) (by decide) rfl rfl rfl (room_le hrm (by decide) (by decide)) ?_
  refine R_dup hO dX7_init_103 rfl ?_
  refine Q_init (d2 := 2) (mc := 1) (ms := 40) (h2 := hs_157) (c2 := 172) (s2 := 1667) hO dX7_init_104 (ci_X4 (h := hs_155) (n := 171) (by decide +kernel) (by decide)) (by decide) rfl (Or.inr (by decide +kernel)) ki_X4_init kk_X4_init kp_X4_init (Nat.le_of_ble_eq_true rfl) rfl rfl (room_le hrm (by decide) (by decide)) ?_
  refine R_aastq (ci := 4) (n := 6) (fs := [.ref 159, .ref 161, .ref 163, .ref 165, .ref 167, .ref 169, .null, .null]) (vs := [.ref 172, .int 1, .int 0, .int 0]) (h2 := hs_158) hO dX7_init_107 (Or.inr ⟨rfl, rfl, rfl⟩) (by decide +kernel) (by decide +kernel) (by decide) rfl rfl (by decide) (by decide) rfl ?_
  refine R_iinc (v := (7 : Int32)) (L2 := [(1, .int (7 : Int32)), (0, .ref 0)]) hO dX7_init_108 rfl (by decide) (Nat.le_of_ble_eq_true rfl) rfl ?_
  refine R_goto (tgt := 89) hO dX7_init_111 (by decide) ?_
  refine R_iload_n hO dX7_init_89 rfl ?_
  refine R_bipush (v := (8 : Int32)) hO dX7_init_90 (by decide) ?_
  refine R_icmp_ge (tgt := 114) hO dX7_init_92 (by decide) (fun c => absurd c (by decide)) (fun _ => ?_)
  refine R_aload_n hO dX7_init_95 rfl ?_
  refine R_getf (fs := [.ref 1, .ref 2, .ref 8, .ref 12, .ref 13, .ref 111, .ref 121, .ref 157, .int 0, .int 0]) hO dX7_init_96 fl_X7_11 (by decide +kernel) rfl ?_
  refine R_iload_n hO dX7_init_99 rfl ?_
  refine Q_new (ci := 4) (N := 4) (T := TX4) (ty := tyX4) (n := 173) (fs := [.null, .int 0, .int 0, .int 0]) (h2 := hs_159) (c2 := 173) (s2 := 1671) hO dX7_init_100 ⟨(TSi 91 (by decide +kernel) (by decide +kernel)), (TSi 272 (by decide +kernel) (by decide +kernel)), (TSi 73 (by decide +kernel) (by decide +kernel))⟩ rfl (by decide) uin_4 tyX4_ok (by decide +kernel) (fun _ => rfl) (by decide +kernel) (by decide) rfl rfl rfl (room_le hrm (by decide) (by decide)) ?_
  refine R_dup hO dX7_init_103 rfl ?_
  refine Q_init (d2 := 2) (mc := 1) (ms := 40) (h2 := hs_160) (c2 := 174) (s2 := 1711) hO dX7_init_104 (ci_X4 (h := hs_158) (n := 173) (by decide +kernel) (by decide)) (by decide) rfl (Or.inr (by decide +kernel)) ki_X4_init kk_X4_init kp_X4_init (Nat.le_of_ble_eq_true rfl) rfl rfl (room_le hrm (by decide) (by decide)) ?_
  refine R_aastq (ci := 4) (n := 7) (fs := [.ref 159, .ref 161, .ref 163, .ref 165, .ref 167, .ref 169, .ref 171, .null]) (vs := [.ref 174, .int 1, .int 0, .int 0]) (h2 := hs_161) hO dX7_init_107 (Or.inr ⟨rfl, rfl, rfl⟩) (by decide +kernel) (by decide +kernel) (by decide) rfl rfl (by decide) (by decide) rfl ?_
  refine R_iinc (v := (8 : Int32)) (L2 := [(1, .int (8 : Int32)), (0, .ref 0)]) hO dX7_init_108 rfl (by decide) (Nat.le_of_ble_eq_true rfl) rfl ?_
  refine R_goto (tgt := 89) hO dX7_init_111 (by decide) ?_
  refine R_iload_n hO dX7_init_89 rfl ?_
  refine R_bipush (v := (8 : Int32)) hO dX7_init_90 (by decide) ?_
  refine R_icmp_ge (tgt := 114) hO dX7_init_92 (by decide) (fun _ => ?_) (fun c => absurd (by decide) c)
  refine R_iconst (v := (0 : Int32)) hO dX7_init_114 (by decide) ?_
  refine R_istore_n (L2 := [(1, .int (0 : Int32)), (0, .ref 0)]) hO dX7_init_115 (Nat.le_of_ble_eq_true rfl) rfl ?_
  refine R_iload_n hO dX7_init_116 rfl ?_
  refine R_iconst (v := (2 : Int32)) hO dX7_init_117 (by decide) ?_
  refine R_icmp_ge (tgt := 140) hO dX7_init_118 (by decide) (fun c => absurd c (by decide)) (fun _ => ?_)
  refine R_aload_n hO dX7_init_121 rfl ?_
  refine R_getf (fs := [.ref 1, .ref 2, .ref 8, .ref 12, .ref 13, .ref 111, .ref 121, .ref 157, .int 0, .int 0]) hO dX7_init_122 fl_X7_29 (by decide +kernel) rfl ?_
  refine R_iload_n hO dX7_init_125 rfl ?_
  refine Q_new (ci := 5) (N := 8) (T := TX5) (ty := tyX5) (n := 175) (fs := [.null, .null, .null, .int 0, .int 0, .int 0, .int 0, .int 0]) (h2 := hs_162) (c2 := 175) (s2 := 1719) hO dX7_init_126 ⟨(TSi 174 (by decide +kernel) (by decide +kernel)), (TSi 100 (by decide +kernel) (by decide +kernel)), (TSi 68 (by decide +kernel) (by decide +kernel))⟩ rfl (by decide) uin_5 tyX5_ok (by decide +kernel) (fun _ => rfl) (by decide +kernel) (by decide) rfl rfl rfl (room_le hrm (by decide) (by decide)) ?_
  refine R_dup hO dX7_init_129 rfl ?_
  refine Q_init (d2 := 2) (mc := 3) (ms := 24) (h2 := hs_163) (c2 := 178) (s2 := 1743) hO dX7_init_130 (ci_X5 (h := hs_161) (n := 175) (by decide +kernel) (by decide)) (by decide) rfl (Or.inr (by decide +kernel)) ki_X5_init kk_X5_init kp_X5_init (Nat.le_of_ble_eq_true rfl) rfl rfl (room_le hrm (by decide) (by decide)) ?_
  refine R_aastq (ci := 5) (n := 0) (fs := [.null, .null]) (vs := [.ref 176, .ref 177, .ref 178, .int 0, .int 0, .int 0, .int 0, .int 0]) (h2 := hs_164) hO dX7_init_133 (Or.inl ⟨rfl, rfl, rfl⟩) (by decide +kernel) (by decide +kernel) (by decide) rfl rfl (by decide) (by decide) rfl ?_
  refine R_iinc (v := (1 : Int32)) (L2 := [(1, .int (1 : Int32)), (0, .ref 0)]) hO dX7_init_134 rfl (by decide) (Nat.le_of_ble_eq_true rfl) rfl ?_
  refine R_goto (tgt := 116) hO dX7_init_137 (by decide) ?_
  refine R_iload_n hO dX7_init_116 rfl ?_
  refine R_iconst (v := (2 : Int32)) hO dX7_init_117 (by decide) ?_
  refine R_icmp_ge (tgt := 140) hO dX7_init_118 (by decide) (fun c => absurd c (by decide)) (fun _ => ?_)
  refine R_aload_n hO dX7_init_121 rfl ?_
  refine R_getf (fs := [.ref 1, .ref 2, .ref 8, .ref 12, .ref 13, .ref 111, .ref 121, .ref 157, .int 0, .int 0]) hO dX7_init_122 fl_X7_29 (by decide +kernel) rfl ?_
  refine R_iload_n hO dX7_init_125 rfl ?_
  refine Q_new (ci := 5) (N := 8) (T := TX5) (ty := tyX5) (n := 179) (fs := [.null, .null, .null, .int 0, .int 0, .int 0, .int 0, .int 0]) (h2 := hs_165) (c2 := 179) (s2 := 1751) hO dX7_init_126 ⟨(TSi 174 (by decide +kernel) (by decide +kernel)), (TSi 100 (by decide +kernel) (by decide +kernel)), (TSi 68 (by decide +kernel) (by decide +kernel))⟩ rfl (by decide) uin_5 tyX5_ok (by decide +kernel) (fun _ => rfl) (by decide +kernel) (by decide) rfl rfl rfl (room_le hrm (by decide) (by decide)) ?_
  refine R_dup hO dX7_init_129 rfl ?_
  refine Q_init (d2 := 2) (mc := 3) (ms := 24) (h2 := hs_166) (c2 := 182) (s2 := 1775) hO dX7_init_130 (ci_X5 (h := hs_164) (n := 179) (by decide +kernel) (by decide)) (by decide) rfl (Or.inr (by decide +kernel)) ki_X5_init kk_X5_init kp_X5_init (Nat.le_of_ble_eq_true rfl) rfl rfl (room_le hrm (by decide) (by decide)) ?_
  refine R_aastq (ci := 5) (n := 1) (fs := [.ref 175, .null]) (vs := [.ref 180, .ref 181, .ref 182, .int 0, .int 0, .int 0, .int 0, .int 0]) (h2 := hs_167) hO dX7_init_133 (Or.inl ⟨rfl, rfl, rfl⟩) (by decide +kernel) (by decide +kernel) (by decide) rfl rfl (by decide) (by decide) rfl ?_
  refine R_iinc (v := (2 : Int32)) (L2 := [(1, .int (2 : Int32)), (0, .ref 0)]) hO dX7_init_134 rfl (by decide) (Nat.le_of_ble_eq_true rfl) rfl ?_
  refine R_goto (tgt := 116) hO dX7_init_137 (by decide) ?_
  refine R_iload_n hO dX7_init_116 rfl ?_
  refine R_iconst (v := (2 : Int32)) hO dX7_init_117 (by decide) ?_
  refine R_icmp_ge (tgt := 140) hO dX7_init_118 (by decide) (fun _ => ?_) (fun c => absurd (by decide) c)
  exact R_vret hO hQ dX7_init_140 rfl ⟨rfl, rfl⟩
def hs_168 : AH := hs_167 ++ [(8, [.null, .null, .null, .int 0, .int 0, .null, .null, .null, .int 0, .int 0, .int 0, .int 0, .int 0, .int 0, .int 0, .null, .null, .int 0, .null, .null, .null, .null, .null, .int 0])]
def hs_169 : AH := hs_168 ++ [(20, List.replicate 8 (.int 0))]
def hs_170 : AH := hs_169.set 183 (8, [.ref 184, .null, .null, .int 0, .int 0, .null, .null, .null, .int 0, .int 0, .int 0, .int 0, .int 0, .int 0, .int 0, .null, .null, .int 0, .null, .null, .null, .null, .null, .int 0])
def hs_171 : AH := hs_170 ++ [(20, List.replicate 8 (.int 0))]
def hs_172 : AH := hs_171.set 183 (8, [.ref 184, .ref 185, .null, .int 0, .int 0, .null, .null, .null, .int 0, .int 0, .int 0, .int 0, .int 0, .int 0, .int 0, .null, .null, .int 0, .null, .null, .null, .null, .null, .int 0])
def hs_173 : AH := hs_172 ++ [(20, List.replicate 320 (.int 0))]
def hs_174 : AH := hs_173.set 183 (8, [.ref 184, .ref 185, .ref 186, .int 0, .int 0, .null, .null, .null, .int 0, .int 0, .int 0, .int 0, .int 0, .int 0, .int 0, .null, .null, .int 0, .null, .null, .null, .null, .null, .int 0])
def hs_175 : AH := hs_174 ++ [(20, List.replicate 29 (.int 0))]
def hs_176 : AH := hs_175.set 183 (8, [.ref 184, .ref 185, .ref 186, .int 0, .int 0, .ref 187, .null, .null, .int 0, .int 0, .int 0, .int 0, .int 0, .int 0, .int 0, .null, .null, .int 0, .null, .null, .null, .null, .null, .int 0])
def hs_177 : AH := hs_176 ++ [(20, List.replicate 40 (.int 0))]
def hs_178 : AH := hs_177.set 183 (8, [.ref 184, .ref 185, .ref 186, .int 0, .int 0, .ref 187, .ref 188, .null, .int 0, .int 0, .int 0, .int 0, .int 0, .int 0, .int 0, .null, .null, .int 0, .null, .null, .null, .null, .null, .int 0])
def hs_179 : AH := hs_178 ++ [(20, List.replicate 100 (.int 0))]
def hs_180 : AH := hs_179.set 183 (8, [.ref 184, .ref 185, .ref 186, .int 0, .int 0, .ref 187, .ref 188, .ref 189, .int 0, .int 0, .int 0, .int 0, .int 0, .int 0, .int 0, .null, .null, .int 0, .null, .null, .null, .null, .null, .int 0])
def hs_181 : AH := hs_180 ++ [(20, List.replicate 29 (.int 0))]
def hs_182 : AH := hs_181.set 183 (8, [.ref 184, .ref 185, .ref 186, .int 0, .int 0, .ref 187, .ref 188, .ref 189, .int 0, .int 0, .int 0, .int 0, .int 0, .int 0, .int 0, .ref 190, .null, .int 0, .null, .null, .null, .null, .null, .int 0])
def hs_183 : AH := hs_182 ++ [(20, List.replicate 696 (.int 0))]
def hs_184 : AH := hs_183.set 183 (8, [.ref 184, .ref 185, .ref 186, .int 0, .int 0, .ref 187, .ref 188, .ref 189, .int 0, .int 0, .int 0, .int 0, .int 0, .int 0, .int 0, .ref 190, .ref 191, .int 0, .null, .null, .null, .null, .null, .int 0])
def hs_185 : AH := hs_184 ++ [(20, List.replicate 29 (.int 0))]
def hs_186 : AH := hs_185.set 183 (8, [.ref 184, .ref 185, .ref 186, .int 0, .int 0, .ref 187, .ref 188, .ref 189, .int 0, .int 0, .int 0, .int 0, .int 0, .int 0, .int 0, .ref 190, .ref 191, .int 0, .ref 192, .null, .null, .null, .null, .int 0])
def hs_187 : AH := hs_186 ++ [(20, List.replicate 625 (.int 0))]
def hs_188 : AH := hs_187.set 183 (8, [.ref 184, .ref 185, .ref 186, .int 0, .int 0, .ref 187, .ref 188, .ref 189, .int 0, .int 0, .int 0, .int 0, .int 0, .int 0, .int 0, .ref 190, .ref 191, .int 0, .ref 192, .ref 193, .null, .null, .null, .int 0])
def hs_189 : AH := hs_188 ++ [(21, List.replicate 2 (.int 0))]
def hs_190 : AH := hs_189.set 183 (8, [.ref 184, .ref 185, .ref 186, .int 0, .int 0, .ref 187, .ref 188, .ref 189, .int 0, .int 0, .int 0, .int 0, .int 0, .int 0, .int 0, .ref 190, .ref 191, .int 0, .ref 192, .ref 193, .ref 194, .null, .null, .int 0])
def hs_191 : AH := hs_190 ++ [(20, List.replicate 58 (.int 0))]
def hs_192 : AH := hs_191.set 183 (8, [.ref 184, .ref 185, .ref 186, .int 0, .int 0, .ref 187, .ref 188, .ref 189, .int 0, .int 0, .int 0, .int 0, .int 0, .int 0, .int 0, .ref 190, .ref 191, .int 0, .ref 192, .ref 193, .ref 194, .ref 195, .null, .int 0])
def hs_193 : AH := hs_192 ++ [(20, List.replicate 16 (.int 0))]
def hs_194 : AH := hs_193.set 183 (8, [.ref 184, .ref 185, .ref 186, .int 0, .int 0, .ref 187, .ref 188, .ref 189, .int 0, .int 0, .int 0, .int 0, .int 0, .int 0, .int 0, .ref 190, .ref 191, .int 0, .ref 192, .ref 193, .ref 194, .ref 195, .ref 196, .int 0])
def hs_195 : AH := hs_194.set 185 (20, [.int (-1 : Int32), .int 0, .int 0, .int 0, .int 0, .int 0, .int 0, .int 0])
def hs_196 : AH := hs_195.set 185 (20, [.int (-1 : Int32), .int (-1 : Int32), .int 0, .int 0, .int 0, .int 0, .int 0, .int 0])
def hs_197 : AH := hs_196.set 185 (20, [.int (-1 : Int32), .int (-1 : Int32), .int (-1 : Int32), .int 0, .int 0, .int 0, .int 0, .int 0])
def hs_198 : AH := hs_197.set 185 (20, [.int (-1 : Int32), .int (-1 : Int32), .int (-1 : Int32), .int (-1 : Int32), .int 0, .int 0, .int 0, .int 0])
def hs_199 : AH := hs_198.set 185 (20, [.int (-1 : Int32), .int (-1 : Int32), .int (-1 : Int32), .int (-1 : Int32), .int (-1 : Int32), .int 0, .int 0, .int 0])
def hs_200 : AH := hs_199.set 185 (20, [.int (-1 : Int32), .int (-1 : Int32), .int (-1 : Int32), .int (-1 : Int32), .int (-1 : Int32), .int (-1 : Int32), .int 0, .int 0])
def hs_201 : AH := hs_200.set 185 (20, [.int (-1 : Int32), .int (-1 : Int32), .int (-1 : Int32), .int (-1 : Int32), .int (-1 : Int32), .int (-1 : Int32), .int (-1 : Int32), .int 0])
def hs_202 : AH := hs_201.set 185 (20, [.int (-1 : Int32), .int (-1 : Int32), .int (-1 : Int32), .int (-1 : Int32), .int (-1 : Int32), .int (-1 : Int32), .int (-1 : Int32), .int (-1 : Int32)])
set_option maxRecDepth 20000 in
set_option maxHeartbeats 4000000 in
theorem ci_X8_init : C true 2 MX8_init 13 1960 [.ref 183] hs_168 (fun v h' => v = none ∧ h' = hs_202) := by
  refine C.of (by decide +kernel) (Nat.le_of_ble_eq_true rfl) (fun X hO hQ => ?_)
  have hrm := roomQ hQ
  show R X MX8_init 0 [(0, .ref 183)] [] hs_168 0 0
  refine R_aload_n hO dX8_init_0 rfl ?_
  refine R_objInit hO dX8_init_1 (by omega) (TSi 889 (by decide +kernel) (by decide +kernel)) (Nat.le_of_ble_eq_true rfl) ?_
  refine R_aload_n hO dX8_init_4 rfl ?_
  refine R_bipush (v := (8 : Int32)) hO dX8_init_5 (by decide) ?_
  refine Q_newi (N := 8) (n := 184) (h2 := hs_169) (c2 := 1) (s2 := 8) hO dX8_init_7 (by decide) (by decide) (by decide) (by decide +kernel) (by decide) rfl rfl rfl (room_le hrm (by decide) (by decide)) ?_
  refine R_putq (fs := [.null, .null, .null, .int 0, .int 0, .null, .null, .null, .int 0, .int 0, .int 0, .int 0, .int 0, .int 0, .int 0, .null, .null, .int 0, .null, .null, .null, .null, .null, .int 0]) (h2 := hs_170) hO dX8_init_9 fl_X8_7 (Or.inr ⟨rfl, rfl⟩) (by decide +kernel) (by decide) (fun _ => rfl) (fun _ => rfl) rfl ?_
  refine R_aload_n hO dX8_init_12 rfl ?_
  refine R_bipush (v := (8 : Int32)) hO dX8_init_13 (by decide) ?_
  refine Q_newi (N := 8) (n := 185) (h2 := hs_171) (c2 := 2) (s2 := 16) hO dX8_init_15 (by decide) (by decide) (by decide) (by decide +kernel) (by decide) rfl rfl rfl (room_le hrm (by decide) (by decide)) ?_
  refine R_putq (fs := [.ref 184, .null, .null, .int 0, .int 0, .null, .null, .null, .int 0, .int 0, .int 0, .int 0, .int 0, .int 0, .int 0, .null, .null, .int 0, .null, .null, .null, .null, .null, .int 0]) (h2 := hs_172) hO dX8_init_17 fl_X8_13 (Or.inr ⟨rfl, rfl⟩) (by decide +kernel) (by decide) (fun _ => rfl) (fun _ => rfl) rfl ?_
  refine R_aload_n hO dX8_init_20 rfl ?_
  refine R_sipush (v := (320 : Int32)) hO dX8_init_21 (by decide) ?_
  refine Q_newi (N := 320) (n := 186) (h2 := hs_173) (c2 := 3) (s2 := 336) hO dX8_init_24 (by decide) (by decide) (by decide) (by decide +kernel) (by decide) rfl rfl rfl (room_le hrm (by decide) (by decide)) ?_
  refine R_putq (fs := [.ref 184, .ref 185, .null, .int 0, .int 0, .null, .null, .null, .int 0, .int 0, .int 0, .int 0, .int 0, .int 0, .int 0, .null, .null, .int 0, .null, .null, .null, .null, .null, .int 0]) (h2 := hs_174) hO dX8_init_26 fl_X8_16 (Or.inr ⟨rfl, rfl⟩) (by decide +kernel) (by decide) (fun _ => rfl) (fun _ => rfl) rfl ?_
  refine R_aload_n hO dX8_init_29 rfl ?_
  refine R_bipush (v := (29 : Int32)) hO dX8_init_30 (by decide) ?_
  refine Q_newi (N := 29) (n := 187) (h2 := hs_175) (c2 := 4) (s2 := 365) hO dX8_init_32 (by decide) (by decide) (by decide) (by decide +kernel) (by decide) rfl rfl rfl (room_le hrm (by decide) (by decide)) ?_
  refine R_putq (fs := [.ref 184, .ref 185, .ref 186, .int 0, .int 0, .null, .null, .null, .int 0, .int 0, .int 0, .int 0, .int 0, .int 0, .int 0, .null, .null, .int 0, .null, .null, .null, .null, .null, .int 0]) (h2 := hs_176) hO dX8_init_34 fl_X8_19 (Or.inr ⟨rfl, rfl⟩) (by decide +kernel) (by decide) (fun _ => rfl) (fun _ => rfl) rfl ?_
  refine R_aload_n hO dX8_init_37 rfl ?_
  refine R_bipush (v := (40 : Int32)) hO dX8_init_38 (by decide) ?_
  refine Q_newi (N := 40) (n := 188) (h2 := hs_177) (c2 := 5) (s2 := 405) hO dX8_init_40 (by decide) (by decide) (by decide) (by decide +kernel) (by decide) rfl rfl rfl (room_le hrm (by decide) (by decide)) ?_
  refine R_putq (fs := [.ref 184, .ref 185, .ref 186, .int 0, .int 0, .ref 187, .null, .null, .int 0, .int 0, .int 0, .int 0, .int 0, .int 0, .int 0, .null, .null, .int 0, .null, .null, .null, .null, .null, .int 0]) (h2 := hs_178) hO dX8_init_42 fl_X8_22 (Or.inr ⟨rfl, rfl⟩) (by decide +kernel) (by decide) (fun _ => rfl) (fun _ => rfl) rfl ?_
  refine R_aload_n hO dX8_init_45 rfl ?_
  refine R_bipush (v := (100 : Int32)) hO dX8_init_46 (by decide) ?_
  refine Q_newi (N := 100) (n := 189) (h2 := hs_179) (c2 := 6) (s2 := 505) hO dX8_init_48 (by decide) (by decide) (by decide) (by decide +kernel) (by decide) rfl rfl rfl (room_le hrm (by decide) (by decide)) ?_
  refine R_putq (fs := [.ref 184, .ref 185, .ref 186, .int 0, .int 0, .ref 187, .ref 188, .null, .int 0, .int 0, .int 0, .int 0, .int 0, .int 0, .int 0, .null, .null, .int 0, .null, .null, .null, .null, .null, .int 0]) (h2 := hs_180) hO dX8_init_50 fl_X8_25 (Or.inr ⟨rfl, rfl⟩) (by decide +kernel) (by decide) (fun _ => rfl) (fun _ => rfl) rfl ?_
  refine R_aload_n hO dX8_init_53 rfl ?_
  refine R_bipush (v := (29 : Int32)) hO dX8_init_54 (by decide) ?_
  refine Q_newi (N := 29) (n := 190) (h2 := hs_181) (c2 := 7) (s2 := 534) hO dX8_init_56 (by decide) (by decide) (by decide) (by decide +kernel) (by decide) rfl rfl rfl (room_le hrm (by decide) (by decide)) ?_
  refine R_putq (fs := [.ref 184, .ref 185, .ref 186, .int 0, .int 0, .ref 187, .ref 188, .ref 189, .int 0, .int 0, .int 0, .int 0, .int 0, .int 0, .int 0, .null, .null, .int 0, .null, .null, .null, .null, .null, .int 0]) (h2 := hs_182) hO dX8_init_58 fl_X8_28 (Or.inr ⟨rfl, rfl⟩) (by decide +kernel) (by decide) (fun _ => rfl) (fun _ => rfl) rfl ?_
  refine R_aload_n hO dX8_init_61 rfl ?_
  refine R_sipush (v := (696 : Int32)) hO dX8_init_62 (by decide) ?_
  refine Q_newi (N := 696) (n := 191) (h2 := hs_183) (c2 := 8) (s2 := 1230) hO dX8_init_65 (by decide) (by decide) (by decide) (by decide +kernel) (by decide) rfl rfl rfl (room_le hrm (by decide) (by decide)) ?_
  refine R_putq (fs := [.ref 184, .ref 185, .ref 186, .int 0, .int 0, .ref 187, .ref 188, .ref 189, .int 0, .int 0, .int 0, .int 0, .int 0, .int 0, .int 0, .ref 190, .null, .int 0, .null, .null, .null, .null, .null, .int 0]) (h2 := hs_184) hO dX8_init_67 fl_X8_31 (Or.inr ⟨rfl, rfl⟩) (by decide +kernel) (by decide) (fun _ => rfl) (fun _ => rfl) rfl ?_
  refine R_aload_n hO dX8_init_70 rfl ?_
  refine R_bipush (v := (29 : Int32)) hO dX8_init_71 (by decide) ?_
  refine Q_newi (N := 29) (n := 192) (h2 := hs_185) (c2 := 9) (s2 := 1259) hO dX8_init_73 (by decide) (by decide) (by decide) (by decide +kernel) (by decide) rfl rfl rfl (room_le hrm (by decide) (by decide)) ?_
  refine R_putq (fs := [.ref 184, .ref 185, .ref 186, .int 0, .int 0, .ref 187, .ref 188, .ref 189, .int 0, .int 0, .int 0, .int 0, .int 0, .int 0, .int 0, .ref 190, .ref 191, .int 0, .null, .null, .null, .null, .null, .int 0]) (h2 := hs_186) hO dX8_init_75 fl_X8_34 (Or.inr ⟨rfl, rfl⟩) (by decide +kernel) (by decide) (fun _ => rfl) (fun _ => rfl) rfl ?_
  refine R_aload_n hO dX8_init_78 rfl ?_
  refine R_sipush (v := (625 : Int32)) hO dX8_init_79 (by decide) ?_
  refine Q_newi (N := 625) (n := 193) (h2 := hs_187) (c2 := 10) (s2 := 1884) hO dX8_init_82 (by decide) (by decide) (by decide) (by decide +kernel) (by decide) rfl rfl rfl (room_le hrm (by decide) (by decide)) ?_
  refine R_putq (fs := [.ref 184, .ref 185, .ref 186, .int 0, .int 0, .ref 187, .ref 188, .ref 189, .int 0, .int 0, .int 0, .int 0, .int 0, .int 0, .int 0, .ref 190, .ref 191, .int 0, .ref 192, .null, .null, .null, .null, .int 0]) (h2 := hs_188) hO dX8_init_84 fl_X8_37 (Or.inr ⟨rfl, rfl⟩) (by decide +kernel) (by decide) (fun _ => rfl) (fun _ => rfl) rfl ?_
  refine R_aload_n hO dX8_init_87 rfl ?_
  refine R_iconst (v := (2 : Int32)) hO dX8_init_88 (by decide) ?_
  refine Q_newz (N := 2) (n := 194) (h2 := hs_189) (c2 := 11) (s2 := 1886) hO dX8_init_89 (by decide) (by decide) (by decide) (by decide +kernel) (by decide) rfl rfl rfl (room_le hrm (by decide) (by decide)) ?_
  refine R_putq (fs := [.ref 184, .ref 185, .ref 186, .int 0, .int 0, .ref 187, .ref 188, .ref 189, .int 0, .int 0, .int 0, .int 0, .int 0, .int 0, .int 0, .ref 190, .ref 191, .int 0, .ref 192, .ref 193, .null, .null, .null, .int 0]) (h2 := hs_190) hO dX8_init_91 fl_X8_40 (Or.inr ⟨rfl, rfl⟩) (by decide +kernel) (by decide) (fun _ => rfl) (fun _ => rfl) rfl ?_
  refine R_aload_n hO dX8_init_94 rfl ?_
  refine R_bipush (v := (58 : Int32)) hO dX8_init_95 (by decide) ?_
  refine Q_newi (N := 58) (n := 195) (h2 := hs_191) (c2 := 12) (s2 := 1944) hO dX8_init_97 (by decide) (by decide) (by decide) (by decide +kernel) (by decide) rfl rfl rfl (room_le hrm (by decide) (by decide)) ?_
  refine R_putq (fs := [.ref 184, .ref 185, .ref 186, .int 0, .int 0, .ref 187, .ref 188, .ref 189, .int 0, .int 0, .int 0, .int 0, .int 0, .int 0, .int 0, .ref 190, .ref 191, .int 0, .ref 192, .ref 193, .ref 194, .null, .null, .int 0]) (h2 := hs_192) hO dX8_init_99 fl_X8_44 (Or.inr ⟨rfl, rfl⟩) (by decide +kernel) (by decide) (fun _ => rfl) (fun _ => rfl) rfl ?_
  refine R_aload_n hO dX8_init_102 rfl ?_
  refine R_bipush (v := (16 : Int32)) hO dX8_init_103 (by decide) ?_
  refine Q_newi (N := 16) (n := 196) (h2 := hs_193) (c2 := 13) (s2 := 1960) hO dX8_init_105 (by decide) (by decide) (by decide) (by decide +kernel) (by decide) rfl rfl rfl (room_le hrm (by decide) (by decide)) ?_
  refine R_putq (fs := [.ref 184, .ref 185, .ref 186, .int 0, .int 0, .ref 187, .ref 188, .ref 189, .int 0, .int 0, .int 0, .int 0, .int 0, .int 0, .int 0, .ref 190, .ref 191, .int 0, .ref 192, .ref 193, .ref 194, .ref 195, .null, .int 0]) (h2 := hs_194) hO dX8_init_107 fl_X8_47 (Or.inr ⟨rfl, rfl⟩) (by decide +kernel) (by decide) (fun _ => rfl) (fun _ => rfl) rfl ?_
  refine R_iconst (v := (0 : Int32)) hO dX8_init_110 (by decide) ?_
  refine R_istore_n (L2 := [(1, .int (0 : Int32)), (0, .ref 183)]) hO dX8_init_111 (Nat.le_of_ble_eq_true rfl) rfl ?_
  refine R_iload_n hO dX8_init_112 rfl ?_
  refine R_bipush (v := (8 : Int32)) hO dX8_init_113 (by decide) ?_
  refine R_icmp_ge (tgt := 131) hO dX8_init_115 (by decide) (fun c => absurd c (by decide)) (fun _ => ?_)
  refine R_aload_n hO dX8_init_118 rfl ?_
  refine R_getf (fs := [.ref 184, .ref 185, .ref 186, .int 0, .int 0, .ref 187, .ref 188, .ref 189, .int 0, .int 0, .int 0, .int 0, .int 0, .int 0, .int 0, .ref 190, .ref 191, .int 0, .ref 192, .ref 193, .ref 194, .ref 195, .ref 196, .int 0]) hO dX8_init_119 fl_X8_13 (by decide +kernel) rfl ?_
  refine R_iload_n hO dX8_init_122 rfl ?_
  refine R_iconst (v := (-1 : Int32)) hO dX8_init_123 (by decide) ?_
  refine R_iastq (n := 0) (fs := [.int 0, .int 0, .int 0, .int 0, .int 0, .int 0, .int 0, .int 0]) (h2 := hs_195) hO dX8_init_124 (by decide +kernel) (by decide) (by decide) rfl ?_
  refine R_iinc (v := (1 : Int32)) (L2 := [(1, .int (1 : Int32)), (0, .ref 183)]) hO dX8_init_125 rfl (by decide) (Nat.le_of_ble_eq_true rfl) rfl ?_
  refine R_goto (tgt := 112) hO dX8_init_128 (by decide) ?_
  refine R_iload_n hO dX8_init_112 rfl ?_
  refine R_bipush (v := (8 : Int32)) hO dX8_init_113 (by decide) ?_
  refine R_icmp_ge (tgt := 131) hO dX8_init_115 (by decide) (fun c => absurd c (by decide)) (fun _ => ?_)
  refine R_aload_n hO dX8_init_118 rfl ?_
  refine R_getf (fs := [.ref 184, .ref 185, .ref 186, .int 0, .int 0, .ref 187, .ref 188, .ref 189, .int 0, .int 0, .int 0, .int 0, .int 0, .int 0, .int 0, .ref 190, .ref 191, .int 0, .ref 192, .ref 193, .ref 194, .ref 195, .ref 196, .int 0]) hO dX8_init_119 fl_X8_13 (by decide +kernel) rfl ?_
  refine R_iload_n hO dX8_init_122 rfl ?_
  refine R_iconst (v := (-1 : Int32)) hO dX8_init_123 (by decide) ?_
  refine R_iastq (n := 1) (fs := [.int (-1 : Int32), .int 0, .int 0, .int 0, .int 0, .int 0, .int 0, .int 0]) (h2 := hs_196) hO dX8_init_124 (by decide +kernel) (by decide) (by decide) rfl ?_
  refine R_iinc (v := (2 : Int32)) (L2 := [(1, .int (2 : Int32)), (0, .ref 183)]) hO dX8_init_125 rfl (by decide) (Nat.le_of_ble_eq_true rfl) rfl ?_
  refine R_goto (tgt := 112) hO dX8_init_128 (by decide) ?_
  refine R_iload_n hO dX8_init_112 rfl ?_
  refine R_bipush (v := (8 : Int32)) hO dX8_init_113 (by decide) ?_
  refine R_icmp_ge (tgt := 131) hO dX8_init_115 (by decide) (fun c => absurd c (by decide)) (fun _ => ?_)
  refine R_aload_n hO dX8_init_118 rfl ?_
  refine R_getf (fs := [.ref 184, .ref 185, .ref 186, .int 0, .int 0, .ref 187, .ref 188, .ref 189, .int 0, .int 0, .int 0, .int 0, .int 0, .int 0, .int 0, .ref 190, .ref 191, .int 0, .ref 192, .ref 193, .ref 194, .ref 195, .ref 196, .int 0]) hO dX8_init_119 fl_X8_13 (by decide +kernel) rfl ?_
  refine R_iload_n hO dX8_init_122 rfl ?_
  refine R_iconst (v := (-1 : Int32)) hO dX8_init_123 (by decide) ?_
  refine R_iastq (n := 2) (fs := [.int (-1 : Int32), .int (-1 : Int32), .int 0, .int 0, .int 0, .int 0, .int 0, .int 0]) (h2 := hs_197) hO dX8_init_124 (by decide +kernel) (by decide) (by decide) rfl ?_
  refine R_iinc (v := (3 : Int32)) (L2 := [(1, .int (3 : Int32)), (0, .ref 183)]) hO dX8_init_125 rfl (by decide) (Nat.le_of_ble_eq_true rfl) rfl ?_
  refine R_goto (tgt := 112) hO dX8_init_128 (by decide) ?_
  refine R_iload_n hO dX8_init_112 rfl ?_
  refine R_bipush (v := (8 : Int32)) hO dX8_init_113 (by decide) ?_
  refine R_icmp_ge (tgt := 131) hO dX8_init_115 (by decide) (fun c => absurd c (by decide)) (fun _ => ?_)
  refine R_aload_n hO dX8_init_118 rfl ?_
  refine R_getf (fs := [.ref 184, .ref 185, .ref 186, .int 0, .int 0, .ref 187, .ref 188, .ref 189, .int 0, .int 0, .int 0, .int 0, .int 0, .int 0, .int 0, .ref 190, .ref 191, .int 0, .ref 192, .ref 193, .ref 194, .ref 195, .ref 196, .int 0]) hO dX8_init_119 fl_X8_13 (by decide +kernel) rfl ?_
  refine R_iload_n hO dX8_init_122 rfl ?_
  refine R_iconst (v := (-1 : Int32)) hO dX8_init_123 (by decide) ?_
  refine R_iastq (n := 3) (fs := [.int (-1 : Int32), .int (-1 : Int32), .int (-1 : Int32), .int 0, .int 0, .int 0, .int 0, .int 0]) (h2 := hs_198) hO dX8_init_124 (by decide +kernel) (by decide) (by decide) rfl ?_
  refine R_iinc (v := (4 : Int32)) (L2 := [(1, .int (4 : Int32)), (0, .ref 183)]) hO dX8_init_125 rfl (by decide) (Nat.le_of_ble_eq_true rfl) rfl ?_
  refine R_goto (tgt := 112) hO dX8_init_128 (by decide) ?_
  refine R_iload_n hO dX8_init_112 rfl ?_
  refine R_bipush (v := (8 : Int32)) hO dX8_init_113 (by decide) ?_
  refine R_icmp_ge (tgt := 131) hO dX8_init_115 (by decide) (fun c => absurd c (by decide)) (fun _ => ?_)
  refine R_aload_n hO dX8_init_118 rfl ?_
  refine R_getf (fs := [.ref 184, .ref 185, .ref 186, .int 0, .int 0, .ref 187, .ref 188, .ref 189, .int 0, .int 0, .int 0, .int 0, .int 0, .int 0, .int 0, .ref 190, .ref 191, .int 0, .ref 192, .ref 193, .ref 194, .ref 195, .ref 196, .int 0]) hO dX8_init_119 fl_X8_13 (by decide +kernel) rfl ?_
  refine R_iload_n hO dX8_init_122 rfl ?_
  refine R_iconst (v := (-1 : Int32)) hO dX8_init_123 (by decide) ?_
  refine R_iastq (n := 4) (fs := [.int (-1 : Int32), .int (-1 : Int32), .int (-1 : Int32), .int (-1 : Int32), .int 0, .int 0, .int 0, .int 0]) (h2 := hs_199) hO dX8_init_124 (by decide +kernel) (by decide) (by decide) rfl ?_
  refine R_iinc (v := (5 : Int32)) (L2 := [(1, .int (5 : Int32)), (0, .ref 183)]) hO dX8_init_125 rfl (by decide) (Nat.le_of_ble_eq_true rfl) rfl ?_
  refine R_goto (tgt := 112) hO dX8_init_128 (by decide) ?_
  refine R_iload_n hO dX8_init_112 rfl ?_
  refine R_bipush (v := (8 : Int32)) hO dX8_init_113 (by decide) ?_
  refine R_icmp_ge (tgt := 131) hO dX8_init_115 (by decide) (fun c => absurd c (by decide)) (fun _ => ?_)
  refine R_aload_n hO dX8_init_118 rfl ?_
  refine R_getf (fs := [.ref 184, .ref 185, .ref 186, .int 0, .int 0, .ref 187, .ref 188, .ref 189, .int 0, .int 0, .int 0, .int 0, .int 0, .int 0, .int 0, .ref 190, .ref 191, .int 0, .ref 192, .ref 193, .ref 194, .ref 195, .ref 196, .int 0]) hO dX8_init_119 fl_X8_13 (by decide +kernel) rfl ?_
  refine R_iload_n hO dX8_init_122 rfl ?_
  refine R_iconst (v := (-1 : Int32)) hO dX8_init_123 (by decide) ?_
  refine R_iastq (n := 5) (fs := [.int (-1 : Int32), .int (-1 : Int32), .int (-1 : Int32), .int (-1 : Int32), .int (-1 : Int32), .int 0, .int 0, .int 0]) (h2 := hs_200) hO dX8_init_124 (by decide +kernel) (by decide) (by decide) rfl ?_
  refine R_iinc (v := (6 : Int32)) (L2 := [(1, .int (6 : Int32)), (0, .ref 183)]) hO dX8_init_125 rfl (by decide) (Nat.le_of_ble_eq_true rfl) rfl ?_
  refine R_goto (tgt := 112) hO dX8_init_128 (by decide) ?_
  refine R_iload_n hO dX8_init_112 rfl ?_
  refine R_bipush (v := (8 : Int32)) hO dX8_init_113 (by decide) ?_
  refine R_icmp_ge (tgt := 131) hO dX8_init_115 (by decide) (fun c => absurd c (by decide)) (fun _ => ?_)
  refine R_aload_n hO dX8_init_118 rfl ?_
  refine R_getf (fs := [.ref 184, .ref 185, .ref 186, .int 0, .int 0, .ref 187, .ref 188, .ref 189, .int 0, .int 0, .int 0, .int 0, .int 0, .int 0, .int 0, .ref 190, .ref 191, .int 0, .ref 192, .ref 193, .ref 194, .ref 195, .ref 196, .int 0]) hO dX8_init_119 fl_X8_13 (by decide +kernel) rfl ?_
  refine R_iload_n hO dX8_init_122 rfl ?_
  refine R_iconst (v := (-1 : Int32)) hO dX8_init_123 (by decide) ?_
  refine R_iastq (n := 6) (fs := [.int (-1 : Int32), .int (-1 : Int32), .int (-1 : Int32), .int (-1 : Int32), .int (-1 : Int32), .int (-1 : Int32), .int 0, .int 0]) (h2 := hs_201) hO dX8_init_124 (by decide +kernel) (by decide) (by decide) rfl ?_
  refine R_iinc (v := (7 : Int32)) (L2 := [(1, .int (7 : Int32)), (0, .ref 183)]) hO dX8_init_125 rfl (by decide) (Nat.le_of_ble_eq_true rfl) rfl ?_
  refine R_goto (tgt := 112) hO dX8_init_128 (by decide) ?_
  refine R_iload_n hO dX8_init_112 rfl ?_
  refine R_bipush (v := (8 : Int32)) hO dX8_init_113 (by decide) ?_
  refine R_icmp_ge (tgt := 131) hO dX8_init_115 (by decide) (fun c => absurd c (by decide)) (fun _ => ?_)
  refine R_aload_n hO dX8_init_118 rfl ?_
  refine R_getf (fs := [.ref 184, .ref 185, .ref 186, .int 0, .int 0, .ref 187, .ref 188, .ref 189, .int 0, .int 0, .int 0, .int 0, .int 0, .int 0, .int 0, .ref 190, .ref 191, .int 0, .ref 192, .ref 193, .ref 194, .ref 195, .ref 196, .int 0]) hO dX8_init_119 fl_X8_13 (by decide +kernel) rfl ?_
  refine R_iload_n hO dX8_init_122 rfl ?_
  refine R_iconst (v := (-1 : Int32)) hO dX8_init_123 (by decide) ?_
  refine R_iastq (n := 7) (fs := [.int (-1 : Int32), .int (-1 : Int32), .int (-1 : Int32), .int (-1 : Int32), .int (-1 : Int32), .int (-1 : Int32), .int (-1 : Int32), .int 0]) (h2 := hs_202) hO dX8_init_124 (by decide +kernel) (by decide) (by decide) rfl ?_
  refine R_iinc (v := (8 : Int32)) (L2 := [(1, .int (8 : Int32)), (0, .ref 183)]) hO dX8_init_125 rfl (by decide) (Nat.le_of_ble_eq_true rfl) rfl ?_
  refine R_goto (tgt := 112) hO dX8_init_128 (by decide) ?_
  refine R_iload_n hO dX8_init_112 rfl ?_
  refine R_bipush (v := (8 : Int32)) hO dX8_init_113 (by decide) ?_
  refine R_icmp_ge (tgt := 131) hO dX8_init_115 (by decide) (fun _ => ?_) (fun c => absurd (by decide) c)
  exact R_vret hO hQ dX8_init_131 rfl ⟨rfl, rfl⟩
/-- the numbers at the start -/
def M0 : Mem := fun p i => if p = 185 ∧ i < 8 then (-1) else if 159 ≤ p ∧ p < 175 ∧ p % 2 = 1 ∧ i = 1 then 1 else 0
set_option maxRecDepth 20000 in
theorem made_all : hs_202 = view M0 := by decide +kernel
abbrev hsT0 : AH := hs_1
abbrev hsT1 : AH := hs_167
abbrev hsM0 : AH := hs_168
abbrev hsM1 : AH := hs_202
