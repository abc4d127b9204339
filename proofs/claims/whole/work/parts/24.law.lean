/-! THE LAW, in step with a function of the script -/
abbrev ML_law : MD := (yL_law, cL_law, 4, some .boolean)
def OKL (X : CX) (sb Ln : Nat) (xs : Nat → Int32) : Prop := match X with
  | (_, _, _, _, s, _, _, _, _, _, _, E) => va_X sb Ln xs s s.heap ∧ sb < s.heap.size ∧ ¬ mine E sb
def LRET (X : CX) (Z : Option Value × Mem → Prop) : Prop := (∀ q, Z q → q.1 = some (.int 1)) ∧ match X with
  | (p, l, e, Rm, s, m, args, below, meth, c, Q, E) => ∀ (H : Heap) (locs : List Loc) (ls : Array Slot) (pc : Nat), decode cL_law pc = .ok (.ireturn, 1) → va_S (mine E) s.heap H locs → W p l e Rm s m args below meth c H locs (cX X) (sX X) Q (F0 m pc ls [.int 1])
section LAWR
variable {X : CX} {d : Nat} {M : MD} {Z : Option Value × Mem → Prop} {pc : Nat} {L : AL} {st : List Value} {h : AH} {σ : Mem} {sb Ln cs sl : Nat} {xs : Nat → Int32}
theorem pa_scr {E : EE} {b : Nat} : pa E (1002 + b) = b := by
  unfold pa
  rw [if_neg (by omega), if_neg (by omega), if_neg (by omega)]
  omega
theorem R_slen (hO : OKX X false d M) (hL : OKL X sb Ln xs) (dc : decode M.2.1 pc = .ok (.arraylength, 1)) (k : R X M (pc + 1) L (.int (Int32.ofNat Ln) :: st) h cs sl) : R X M pc L (.ref (1002 + sb) :: st) h cs sl := by
  obtain ⟨p, l, e, Rm, s, m, args, below, meth, c, Q, E⟩ := X
  obtain ⟨hx, hb, hml, hown, hts, hK, hrt, hlk, hE, hnm, hrm, hz⟩ := hO
  intro H locs ls hl hP hS
  show W _ _ _ _ _ _ _ _ _ _ _ _ _ _ _ (F0 m pc ls (.ref (pa E (1002 + sb)) :: st.map (tr E)))
  rw [pa_scr]
  exact va_slen hx hb hL.1 hL.2.1 hL.2.2 hS dc (k H locs ls hl hP hS)
theorem S_sld {i : Int32} {F : Option (Int32 × Mem)} {w : Int32 × Mem → Option Value × Mem} (hO : OKX X false d M) (hL : OKL X sb Ln xs) (dc : decode M.2.1 pc = .ok (.iaload, 1)) (k : SIM X M w Z (pc + 1) L (.int (xs i.toNatClampNeg) :: st) σ F) : SIM X M w Z pc L (.int i :: .ref (1002 + sb) :: st) σ (ing i Ln F) := by
  intro r h hz
  have hin := (ing_in h).1
  have kk := k r (ing_in h).2 hz
  obtain ⟨p, l, e, Rm, s, m, args, below, meth, c, Q, E⟩ := X
  obtain ⟨hx, hb, hml, hown, hts, hK, hrt, hlk, hE, hnm, hrm, hz⟩ := hO
  intro H locs ls hl hP hS
  show W _ _ _ _ _ _ _ _ _ _ _ _ _ _ _ (F0 m pc ls (.int i :: .ref (pa E (1002 + sb)) :: st.map (tr E)))
  rw [pa_scr]
  exact va_sld hx hb hL.1 hL.2.1 hL.2.2 hS hin dc (kk H locs ls hl hP hS)
theorem S_lawret {x : Int32} {w' : Int32 × Mem → Option Value × Mem} (hw : w' = wI) (hO : OKX X false d ML_law) (hQ : LRET X Z) (dc : decode cL_law pc = .ok (.ireturn, 1)) : SIM X ML_law w' Z pc L [.int x] σ (some (x, σ)) := by
  intro r h hz
  cases h
  subst hw
  obtain ⟨hq, hr⟩ := hQ
  have e : some (Value.int x) = some (.int 1) := hq _ hz
  cases e
  obtain ⟨p, l, e, Rm, s, m, args, below, meth, c, Q, E⟩ := X
  intro H locs ls hl hP hS
  exact hr H locs ls pc dc hS
end LAWR
theorem kk_X7_row : Cond.initialized MX7_row.1.cls ∈ TS ∧ Cond.code MX7_row.1 MX7_row.2.1 MX7_row.2.2.1 MX7_row.2.2.2 ∈ TS ∧ (MX7_row.1.cls ≠ "java/lang/invoke/MethodHandle" ∧ MX7_row.1.cls ≠ "java/lang/invoke/VarHandle") ∧ MX7_row.2.2.1 ≤ 40 := ⟨(TSi 66 (by decide +kernel) (by decide +kernel)), (TSi 328 (by decide +kernel) (by decide +kernel)), ⟨by decide +kernel, by decide +kernel⟩, by decide⟩
theorem np_X7_row : np MX7_row 3 := by unfold np; decide +kernel
theorem lk_L_13 : LKV RL 13 MX7_row := ⟨(TSi 325 (by decide +kernel) (by decide +kernel)), (TSi 326 (by decide +kernel) (by decide +kernel)), (TSi 327 (by decide +kernel) (by decide +kernel)), kk_X7_row⟩
theorem kk_X8_row : Cond.initialized MX8_row.1.cls ∈ TS ∧ Cond.code MX8_row.1 MX8_row.2.1 MX8_row.2.2.1 MX8_row.2.2.2 ∈ TS ∧ (MX8_row.1.cls ≠ "java/lang/invoke/MethodHandle" ∧ MX8_row.1.cls ≠ "java/lang/invoke/VarHandle") ∧ MX8_row.2.2.1 ≤ 40 := ⟨(TSi 74 (by decide +kernel) (by decide +kernel)), (TSi 967 (by decide +kernel) (by decide +kernel)), ⟨by decide +kernel, by decide +kernel⟩, by decide⟩
theorem np_X8_row : np MX8_row 3 := by unfold np; decide +kernel
theorem lk_L_17 : LKV RL 17 MX8_row := ⟨(TSi 964 (by decide +kernel) (by decide +kernel)), (TSi 965 (by decide +kernel) (by decide +kernel)), (TSi 966 (by decide +kernel) (by decide +kernel)), kk_X8_row⟩
theorem kk_X7_set : Cond.initialized MX7_set.1.cls ∈ TS ∧ Cond.code MX7_set.1 MX7_set.2.1 MX7_set.2.2.1 MX7_set.2.2.2 ∈ TS ∧ (MX7_set.1.cls ≠ "java/lang/invoke/MethodHandle" ∧ MX7_set.1.cls ≠ "java/lang/invoke/VarHandle") ∧ MX7_set.2.2.1 ≤ 40 := ⟨(TSi 66 (by decide +kernel) (by decide +kernel)), (TSi 352 (by decide +kernel) (by decide +kernel)), ⟨by decide +kernel, by decide +kernel⟩, by decide⟩
theorem np_X7_set : np MX7_set 3 := by unfold np; decide +kernel
theorem lk_L_18 : LKV RL 18 MX7_set := ⟨(TSi 349 (by decide +kernel) (by decide +kernel)), (TSi 350 (by decide +kernel) (by decide +kernel)), (TSi 351 (by decide +kernel) (by decide +kernel)), kk_X7_set⟩
theorem kk_X8_set : Cond.initialized MX8_set.1.cls ∈ TS ∧ Cond.code MX8_set.1 MX8_set.2.1 MX8_set.2.2.1 MX8_set.2.2.2 ∈ TS ∧ (MX8_set.1.cls ≠ "java/lang/invoke/MethodHandle" ∧ MX8_set.1.cls ≠ "java/lang/invoke/VarHandle") ∧ MX8_set.2.2.1 ≤ 40 := ⟨(TSi 74 (by decide +kernel) (by decide +kernel)), (TSi 989 (by decide +kernel) (by decide +kernel)), ⟨by decide +kernel, by decide +kernel⟩, by decide⟩
theorem np_X8_set : np MX8_set 3 := by unfold np; decide +kernel
theorem lk_L_21 : LKV RL 21 MX8_set := ⟨(TSi 986 (by decide +kernel) (by decide +kernel)), (TSi 987 (by decide +kernel) (by decide +kernel)), (TSi 988 (by decide +kernel) (by decide +kernel)), kk_X8_set⟩
theorem kk_X7_copy : Cond.initialized MX7_copy.1.cls ∈ TS ∧ Cond.code MX7_copy.1 MX7_copy.2.1 MX7_copy.2.2.1 MX7_copy.2.2.2 ∈ TS ∧ (MX7_copy.1.cls ≠ "java/lang/invoke/MethodHandle" ∧ MX7_copy.1.cls ≠ "java/lang/invoke/VarHandle") ∧ MX7_copy.2.2.1 ≤ 40 := ⟨(TSi 66 (by decide +kernel) (by decide +kernel)), (TSi 364 (by decide +kernel) (by decide +kernel)), ⟨by decide +kernel, by decide +kernel⟩, by decide⟩
theorem np_X7_copy : np MX7_copy 5 := by unfold np; decide +kernel
theorem lk_L_22 : LKV RL 22 MX7_copy := ⟨(TSi 361 (by decide +kernel) (by decide +kernel)), (TSi 362 (by decide +kernel) (by decide +kernel)), (TSi 363 (by decide +kernel) (by decide +kernel)), kk_X7_copy⟩
theorem kk_X8_copy : Cond.initialized MX8_copy.1.cls ∈ TS ∧ Cond.code MX8_copy.1 MX8_copy.2.1 MX8_copy.2.2.1 MX8_copy.2.2.2 ∈ TS ∧ (MX8_copy.1.cls ≠ "java/lang/invoke/MethodHandle" ∧ MX8_copy.1.cls ≠ "java/lang/invoke/VarHandle") ∧ MX8_copy.2.2.1 ≤ 40 := ⟨(TSi 74 (by decide +kernel) (by decide +kernel)), (TSi 996 (by decide +kernel) (by decide +kernel)), ⟨by decide +kernel, by decide +kernel⟩, by decide⟩
theorem np_X8_copy : np MX8_copy 5 := by unfold np; decide +kernel
theorem lk_L_26 : LKV RL 26 MX8_copy := ⟨(TSi 993 (by decide +kernel) (by decide +kernel)), (TSi 994 (by decide +kernel) (by decide +kernel)), (TSi 995 (by decide +kernel) (by decide +kernel)), kk_X8_copy⟩
theorem kk_X7_drop : Cond.initialized MX7_drop.1.cls ∈ TS ∧ Cond.code MX7_drop.1 MX7_drop.2.1 MX7_drop.2.2.1 MX7_drop.2.2.2 ∈ TS ∧ (MX7_drop.1.cls ≠ "java/lang/invoke/MethodHandle" ∧ MX7_drop.1.cls ≠ "java/lang/invoke/VarHandle") ∧ MX7_drop.2.2.1 ≤ 40 := ⟨(TSi 66 (by decide +kernel) (by decide +kernel)), (TSi 374 (by decide +kernel) (by decide +kernel)), ⟨by decide +kernel, by decide +kernel⟩, by decide⟩
theorem np_X7_drop : np MX7_drop 1 := by unfold np; decide +kernel
theorem lk_L_27 : LKV RL 27 MX7_drop := ⟨(TSi 371 (by decide +kernel) (by decide +kernel)), (TSi 372 (by decide +kernel) (by decide +kernel)), (TSi 373 (by decide +kernel) (by decide +kernel)), kk_X7_drop⟩
theorem kk_X8_drop : Cond.initialized MX8_drop.1.cls ∈ TS ∧ Cond.code MX8_drop.1 MX8_drop.2.1 MX8_drop.2.2.1 MX8_drop.2.2.2 ∈ TS ∧ (MX8_drop.1.cls ≠ "java/lang/invoke/MethodHandle" ∧ MX8_drop.1.cls ≠ "java/lang/invoke/VarHandle") ∧ MX8_drop.2.2.1 ≤ 40 := ⟨(TSi 74 (by decide +kernel) (by decide +kernel)), (TSi 1000 (by decide +kernel) (by decide +kernel)), ⟨by decide +kernel, by decide +kernel⟩, by decide⟩
theorem np_X8_drop : np MX8_drop 1 := by unfold np; decide +kernel
theorem lk_L_31 : LKV RL 31 MX8_drop := ⟨(TSi 997 (by decide +kernel) (by decide +kernel)), (TSi 998 (by decide +kernel) (by decide +kernel)), (TSi 999 (by decide +kernel) (by decide +kernel)), kk_X8_drop⟩
theorem kk_X7_feed : Cond.initialized MX7_feed.1.cls ∈ TS ∧ Cond.code MX7_feed.1 MX7_feed.2.1 MX7_feed.2.2.1 MX7_feed.2.2.2 ∈ TS ∧ (MX7_feed.1.cls ≠ "java/lang/invoke/MethodHandle" ∧ MX7_feed.1.cls ≠ "java/lang/invoke/VarHandle") ∧ MX7_feed.2.2.1 ≤ 40 := ⟨(TSi 66 (by decide +kernel) (by decide +kernel)), (TSi 378 (by decide +kernel) (by decide +kernel)), ⟨by decide +kernel, by decide +kernel⟩, by decide⟩
theorem np_X7_feed : np MX7_feed 1 := by unfold np; decide +kernel
theorem lk_L_32 : LKV RL 32 MX7_feed := ⟨(TSi 375 (by decide +kernel) (by decide +kernel)), (TSi 376 (by decide +kernel) (by decide +kernel)), (TSi 377 (by decide +kernel) (by decide +kernel)), kk_X7_feed⟩
theorem kk_X8_feed : Cond.initialized MX8_feed.1.cls ∈ TS ∧ Cond.code MX8_feed.1 MX8_feed.2.1 MX8_feed.2.2.1 MX8_feed.2.2.2 ∈ TS ∧ (MX8_feed.1.cls ≠ "java/lang/invoke/MethodHandle" ∧ MX8_feed.1.cls ≠ "java/lang/invoke/VarHandle") ∧ MX8_feed.2.2.1 ≤ 40 := ⟨(TSi 74 (by decide +kernel) (by decide +kernel)), (TSi 1004 (by decide +kernel) (by decide +kernel)), ⟨by decide +kernel, by decide +kernel⟩, by decide⟩
theorem np_X8_feed : np MX8_feed 1 := by unfold np; decide +kernel
theorem lk_L_35 : LKV RL 35 MX8_feed := ⟨(TSi 1001 (by decide +kernel) (by decide +kernel)), (TSi 1002 (by decide +kernel) (by decide +kernel)), (TSi 1003 (by decide +kernel) (by decide +kernel)), kk_X8_feed⟩
theorem kk_X7_street : Cond.initialized MX7_street.1.cls ∈ TS ∧ Cond.code MX7_street.1 MX7_street.2.1 MX7_street.2.2.1 MX7_street.2.2.2 ∈ TS ∧ (MX7_street.1.cls ≠ "java/lang/invoke/MethodHandle" ∧ MX7_street.1.cls ≠ "java/lang/invoke/VarHandle") ∧ MX7_street.2.2.1 ≤ 40 := ⟨(TSi 66 (by decide +kernel) (by decide +kernel)), (TSi 387 (by decide +kernel) (by decide +kernel)), ⟨by decide +kernel, by decide +kernel⟩, by decide⟩
theorem np_X7_street : np MX7_street 0 := by unfold np; decide +kernel
theorem lk_L_36 : LKV RL 36 MX7_street := ⟨(TSi 384 (by decide +kernel) (by decide +kernel)), (TSi 385 (by decide +kernel) (by decide +kernel)), (TSi 386 (by decide +kernel) (by decide +kernel)), kk_X7_street⟩
theorem kk_X8_street : Cond.initialized MX8_street.1.cls ∈ TS ∧ Cond.code MX8_street.1 MX8_street.2.1 MX8_street.2.2.1 MX8_street.2.2.2 ∈ TS ∧ (MX8_street.1.cls ≠ "java/lang/invoke/MethodHandle" ∧ MX8_street.1.cls ≠ "java/lang/invoke/VarHandle") ∧ MX8_street.2.2.1 ≤ 40 := ⟨(TSi 74 (by decide +kernel) (by decide +kernel)), (TSi 1010 (by decide +kernel) (by decide +kernel)), ⟨by decide +kernel, by decide +kernel⟩, by decide⟩
theorem np_X8_street : np MX8_street 0 := by unfold np; decide +kernel
theorem lk_L_40 : LKV RL 40 MX8_street := ⟨(TSi 1007 (by decide +kernel) (by decide +kernel)), (TSi 1008 (by decide +kernel) (by decide +kernel)), (TSi 1009 (by decide +kernel) (by decide +kernel)), kk_X8_street⟩
theorem kk_X7_fault : Cond.initialized MX7_fault.1.cls ∈ TS ∧ Cond.code MX7_fault.1 MX7_fault.2.1 MX7_fault.2.2.1 MX7_fault.2.2.2 ∈ TS ∧ (MX7_fault.1.cls ≠ "java/lang/invoke/MethodHandle" ∧ MX7_fault.1.cls ≠ "java/lang/invoke/VarHandle") ∧ MX7_fault.2.2.1 ≤ 40 := ⟨(TSi 66 (by decide +kernel) (by decide +kernel)), (TSi 518 (by decide +kernel) (by decide +kernel)), ⟨by decide +kernel, by decide +kernel⟩, by decide⟩
theorem np_X7_fault : np MX7_fault 0 := by unfold np; decide +kernel
theorem lk_L_41 : LKV RL 41 MX7_fault := ⟨(TSi 515 (by decide +kernel) (by decide +kernel)), (TSi 516 (by decide +kernel) (by decide +kernel)), (TSi 517 (by decide +kernel) (by decide +kernel)), kk_X7_fault⟩
theorem kk_X8_fault : Cond.initialized MX8_fault.1.cls ∈ TS ∧ Cond.code MX8_fault.1 MX8_fault.2.1 MX8_fault.2.2.1 MX8_fault.2.2.2 ∈ TS ∧ (MX8_fault.1.cls ≠ "java/lang/invoke/MethodHandle" ∧ MX8_fault.1.cls ≠ "java/lang/invoke/VarHandle") ∧ MX8_fault.2.2.1 ≤ 40 := ⟨(TSi 74 (by decide +kernel) (by decide +kernel)), (TSi 1046 (by decide +kernel) (by decide +kernel)), ⟨by decide +kernel, by decide +kernel⟩, by decide⟩
theorem np_X8_fault : np MX8_fault 0 := by unfold np; decide +kernel
theorem lk_L_44 : LKV RL 44 MX8_fault := ⟨(TSi 1043 (by decide +kernel) (by decide +kernel)), (TSi 1044 (by decide +kernel) (by decide +kernel)), (TSi 1045 (by decide +kernel) (by decide +kernel)), kk_X8_fault⟩
theorem kk_X7_undo : Cond.initialized MX7_undo.1.cls ∈ TS ∧ Cond.code MX7_undo.1 MX7_undo.2.1 MX7_undo.2.2.1 MX7_undo.2.2.2 ∈ TS ∧ (MX7_undo.1.cls ≠ "java/lang/invoke/MethodHandle" ∧ MX7_undo.1.cls ≠ "java/lang/invoke/VarHandle") ∧ MX7_undo.2.2.1 ≤ 40 := ⟨(TSi 66 (by decide +kernel) (by decide +kernel)), (TSi 522 (by decide +kernel) (by decide +kernel)), ⟨by decide +kernel, by decide +kernel⟩, by decide⟩
theorem np_X7_undo : np MX7_undo 0 := by unfold np; decide +kernel
theorem lk_L_45 : LKV RL 45 MX7_undo := ⟨(TSi 519 (by decide +kernel) (by decide +kernel)), (TSi 520 (by decide +kernel) (by decide +kernel)), (TSi 521 (by decide +kernel) (by decide +kernel)), kk_X7_undo⟩
theorem kk_X8_undo : Cond.initialized MX8_undo.1.cls ∈ TS ∧ Cond.code MX8_undo.1 MX8_undo.2.1 MX8_undo.2.2.1 MX8_undo.2.2.2 ∈ TS ∧ (MX8_undo.1.cls ≠ "java/lang/invoke/MethodHandle" ∧ MX8_undo.1.cls ≠ "java/lang/invoke/VarHandle") ∧ MX8_undo.2.2.1 ≤ 40 := ⟨(TSi 74 (by decide +kernel) (by decide +kernel)), (TSi 1050 (by decide +kernel) (by decide +kernel)), ⟨by decide +kernel, by decide +kernel⟩, by decide⟩
theorem np_X8_undo : np MX8_undo 0 := by unfold np; decide +kernel
theorem lk_L_48 : LKV RL 48 MX8_undo := ⟨(TSi 1047 (by decide +kernel) (by decide +kernel)), (TSi 1048 (by decide +kernel) (by decide +kernel)), (TSi 1049 (by decide +kernel) (by decide +kernel)), kk_X8_undo⟩
theorem kk_X7_hours : Cond.initialized MX7_hours.1.cls ∈ TS ∧ Cond.code MX7_hours.1 MX7_hours.2.1 MX7_hours.2.2.1 MX7_hours.2.2.2 ∈ TS ∧ (MX7_hours.1.cls ≠ "java/lang/invoke/MethodHandle" ∧ MX7_hours.1.cls ≠ "java/lang/invoke/VarHandle") ∧ MX7_hours.2.2.1 ≤ 40 := ⟨(TSi 66 (by decide +kernel) (by decide +kernel)), (TSi 532 (by decide +kernel) (by decide +kernel)), ⟨by decide +kernel, by decide +kernel⟩, by decide⟩
theorem np_X7_hours : np MX7_hours 1 := by unfold np; decide +kernel
theorem lk_L_49 : LKV RL 49 MX7_hours := ⟨(TSi 529 (by decide +kernel) (by decide +kernel)), (TSi 530 (by decide +kernel) (by decide +kernel)), (TSi 531 (by decide +kernel) (by decide +kernel)), kk_X7_hours⟩
theorem kk_X8_hours : Cond.initialized MX8_hours.1.cls ∈ TS ∧ Cond.code MX8_hours.1 MX8_hours.2.1 MX8_hours.2.2.1 MX8_hours.2.2.2 ∈ TS ∧ (MX8_hours.1.cls ≠ "java/lang/invoke/MethodHandle" ∧ MX8_hours.1.cls ≠ "java/lang/invoke/VarHandle") ∧ MX8_hours.2.2.1 ≤ 40 := ⟨(TSi 74 (by decide +kernel) (by decide +kernel)), (TSi 1055 (by decide +kernel) (by decide +kernel)), ⟨by decide +kernel, by decide +kernel⟩, by decide⟩
theorem np_X8_hours : np MX8_hours 1 := by unfold np; decide +kernel
theorem lk_L_52 : LKV RL 52 MX8_hours := ⟨(TSi 1052 (by decide +kernel) (by decide +kernel)), (TSi 1053 (by decide +kernel) (by decide +kernel)), (TSi 1054 (by decide +kernel) (by decide +kernel)), kk_X8_hours⟩
theorem kk_X7_lash : Cond.initialized MX7_lash.1.cls ∈ TS ∧ Cond.code MX7_lash.1 MX7_lash.2.1 MX7_lash.2.2.1 MX7_lash.2.2.2 ∈ TS ∧ (MX7_lash.1.cls ≠ "java/lang/invoke/MethodHandle" ∧ MX7_lash.1.cls ≠ "java/lang/invoke/VarHandle") ∧ MX7_lash.2.2.1 ≤ 40 := ⟨(TSi 66 (by decide +kernel) (by decide +kernel)), (TSi 566 (by decide +kernel) (by decide +kernel)), ⟨by decide +kernel, by decide +kernel⟩, by decide⟩
theorem np_X7_lash : np MX7_lash 1 := by unfold np; decide +kernel
theorem lk_L_53 : LKV RL 53 MX7_lash := ⟨(TSi 563 (by decide +kernel) (by decide +kernel)), (TSi 564 (by decide +kernel) (by decide +kernel)), (TSi 565 (by decide +kernel) (by decide +kernel)), kk_X7_lash⟩
theorem kk_X8_lash : Cond.initialized MX8_lash.1.cls ∈ TS ∧ Cond.code MX8_lash.1 MX8_lash.2.1 MX8_lash.2.2.1 MX8_lash.2.2.2 ∈ TS ∧ (MX8_lash.1.cls ≠ "java/lang/invoke/MethodHandle" ∧ MX8_lash.1.cls ≠ "java/lang/invoke/VarHandle") ∧ MX8_lash.2.2.1 ≤ 40 := ⟨(TSi 74 (by decide +kernel) (by decide +kernel)), (TSi 1095 (by decide +kernel) (by decide +kernel)), ⟨by decide +kernel, by decide +kernel⟩, by decide⟩
theorem np_X8_lash : np MX8_lash 1 := by unfold np; decide +kernel
theorem lk_L_56 : LKV RL 56 MX8_lash := ⟨(TSi 1092 (by decide +kernel) (by decide +kernel)), (TSi 1093 (by decide +kernel) (by decide +kernel)), (TSi 1094 (by decide +kernel) (by decide +kernel)), kk_X8_lash⟩
theorem kk_X7_touch : Cond.initialized MX7_touch.1.cls ∈ TS ∧ Cond.code MX7_touch.1 MX7_touch.2.1 MX7_touch.2.2.1 MX7_touch.2.2.2 ∈ TS ∧ (MX7_touch.1.cls ≠ "java/lang/invoke/MethodHandle" ∧ MX7_touch.1.cls ≠ "java/lang/invoke/VarHandle") ∧ MX7_touch.2.2.1 ≤ 40 := ⟨(TSi 66 (by decide +kernel) (by decide +kernel)), (TSi 579 (by decide +kernel) (by decide +kernel)), ⟨by decide +kernel, by decide +kernel⟩, by decide⟩
theorem np_X7_touch : np MX7_touch 2 := by unfold np; decide +kernel
theorem lk_L_57 : LKV RL 57 MX7_touch := ⟨(TSi 576 (by decide +kernel) (by decide +kernel)), (TSi 577 (by decide +kernel) (by decide +kernel)), (TSi 578 (by decide +kernel) (by decide +kernel)), kk_X7_touch⟩
theorem kk_X8_touch : Cond.initialized MX8_touch.1.cls ∈ TS ∧ Cond.code MX8_touch.1 MX8_touch.2.1 MX8_touch.2.2.1 MX8_touch.2.2.2 ∈ TS ∧ (MX8_touch.1.cls ≠ "java/lang/invoke/MethodHandle" ∧ MX8_touch.1.cls ≠ "java/lang/invoke/VarHandle") ∧ MX8_touch.2.2.1 ≤ 40 := ⟨(TSi 74 (by decide +kernel) (by decide +kernel)), (TSi 1107 (by decide +kernel) (by decide +kernel)), ⟨by decide +kernel, by decide +kernel⟩, by decide⟩
theorem np_X8_touch : np MX8_touch 2 := by unfold np; decide +kernel
theorem lk_L_61 : LKV RL 61 MX8_touch := ⟨(TSi 1104 (by decide +kernel) (by decide +kernel)), (TSi 1105 (by decide +kernel) (by decide +kernel)), (TSi 1106 (by decide +kernel) (by decide +kernel)), kk_X8_touch⟩
theorem kk_X7_putUp : Cond.initialized MX7_putUp.1.cls ∈ TS ∧ Cond.code MX7_putUp.1 MX7_putUp.2.1 MX7_putUp.2.2.1 MX7_putUp.2.2.2 ∈ TS ∧ (MX7_putUp.1.cls ≠ "java/lang/invoke/MethodHandle" ∧ MX7_putUp.1.cls ≠ "java/lang/invoke/VarHandle") ∧ MX7_putUp.2.2.1 ≤ 40 := ⟨(TSi 66 (by decide +kernel) (by decide +kernel)), (TSi 583 (by decide +kernel) (by decide +kernel)), ⟨by decide +kernel, by decide +kernel⟩, by decide⟩
theorem np_X7_putUp : np MX7_putUp 1 := by unfold np; decide +kernel
theorem lk_L_62 : LKV RL 62 MX7_putUp := ⟨(TSi 580 (by decide +kernel) (by decide +kernel)), (TSi 581 (by decide +kernel) (by decide +kernel)), (TSi 582 (by decide +kernel) (by decide +kernel)), kk_X7_putUp⟩
theorem kk_X8_putUp : Cond.initialized MX8_putUp.1.cls ∈ TS ∧ Cond.code MX8_putUp.1 MX8_putUp.2.1 MX8_putUp.2.2.1 MX8_putUp.2.2.2 ∈ TS ∧ (MX8_putUp.1.cls ≠ "java/lang/invoke/MethodHandle" ∧ MX8_putUp.1.cls ≠ "java/lang/invoke/VarHandle") ∧ MX8_putUp.2.2.1 ≤ 40 := ⟨(TSi 74 (by decide +kernel) (by decide +kernel)), (TSi 1111 (by decide +kernel) (by decide +kernel)), ⟨by decide +kernel, by decide +kernel⟩, by decide⟩
theorem np_X8_putUp : np MX8_putUp 1 := by unfold np; decide +kernel
theorem lk_L_65 : LKV RL 65 MX8_putUp := ⟨(TSi 1108 (by decide +kernel) (by decide +kernel)), (TSi 1109 (by decide +kernel) (by decide +kernel)), (TSi 1110 (by decide +kernel) (by decide +kernel)), kk_X8_putUp⟩
theorem kk_X7_house : Cond.initialized MX7_house.1.cls ∈ TS ∧ Cond.code MX7_house.1 MX7_house.2.1 MX7_house.2.2.1 MX7_house.2.2.2 ∈ TS ∧ (MX7_house.1.cls ≠ "java/lang/invoke/MethodHandle" ∧ MX7_house.1.cls ≠ "java/lang/invoke/VarHandle") ∧ MX7_house.2.2.1 ≤ 40 := ⟨(TSi 66 (by decide +kernel) (by decide +kernel)), (TSi 587 (by decide +kernel) (by decide +kernel)), ⟨by decide +kernel, by decide +kernel⟩, by decide⟩
theorem np_X7_house : np MX7_house 2 := by unfold np; decide +kernel
theorem lk_L_66 : LKV RL 66 MX7_house := ⟨(TSi 584 (by decide +kernel) (by decide +kernel)), (TSi 585 (by decide +kernel) (by decide +kernel)), (TSi 586 (by decide +kernel) (by decide +kernel)), kk_X7_house⟩
theorem kk_X8_house : Cond.initialized MX8_house.1.cls ∈ TS ∧ Cond.code MX8_house.1 MX8_house.2.1 MX8_house.2.2.1 MX8_house.2.2.2 ∈ TS ∧ (MX8_house.1.cls ≠ "java/lang/invoke/MethodHandle" ∧ MX8_house.1.cls ≠ "java/lang/invoke/VarHandle") ∧ MX8_house.2.2.1 ≤ 40 := ⟨(TSi 74 (by decide +kernel) (by decide +kernel)), (TSi 1115 (by decide +kernel) (by decide +kernel)), ⟨by decide +kernel, by decide +kernel⟩, by decide⟩
theorem np_X8_house : np MX8_house 2 := by unfold np; decide +kernel
theorem lk_L_69 : LKV RL 69 MX8_house := ⟨(TSi 1112 (by decide +kernel) (by decide +kernel)), (TSi 1113 (by decide +kernel) (by decide +kernel)), (TSi 1114 (by decide +kernel) (by decide +kernel)), kk_X8_house⟩
theorem kk_X7_stand : Cond.initialized MX7_stand.1.cls ∈ TS ∧ Cond.code MX7_stand.1 MX7_stand.2.1 MX7_stand.2.2.1 MX7_stand.2.2.2 ∈ TS ∧ (MX7_stand.1.cls ≠ "java/lang/invoke/MethodHandle" ∧ MX7_stand.1.cls ≠ "java/lang/invoke/VarHandle") ∧ MX7_stand.2.2.1 ≤ 40 := ⟨(TSi 66 (by decide +kernel) (by decide +kernel)), (TSi 594 (by decide +kernel) (by decide +kernel)), ⟨by decide +kernel, by decide +kernel⟩, by decide⟩
theorem np_X7_stand : np MX7_stand 1 := by unfold np; decide +kernel
theorem lk_L_70 : LKV RL 70 MX7_stand := ⟨(TSi 591 (by decide +kernel) (by decide +kernel)), (TSi 592 (by decide +kernel) (by decide +kernel)), (TSi 593 (by decide +kernel) (by decide +kernel)), kk_X7_stand⟩
theorem kk_X8_stand : Cond.initialized MX8_stand.1.cls ∈ TS ∧ Cond.code MX8_stand.1 MX8_stand.2.1 MX8_stand.2.2.1 MX8_stand.2.2.2 ∈ TS ∧ (MX8_stand.1.cls ≠ "java/lang/invoke/MethodHandle" ∧ MX8_stand.1.cls ≠ "java/lang/invoke/VarHandle") ∧ MX8_stand.2.2.1 ≤ 40 := ⟨(TSi 74 (by decide +kernel) (by decide +kernel)), (TSi 1119 (by decide +kernel) (by decide +kernel)), ⟨by decide +kernel, by decide +kernel⟩, by decide⟩
theorem np_X8_stand : np MX8_stand 1 := by unfold np; decide +kernel
theorem lk_L_73 : LKV RL 73 MX8_stand := ⟨(TSi 1116 (by decide +kernel) (by decide +kernel)), (TSi 1117 (by decide +kernel) (by decide +kernel)), (TSi 1118 (by decide +kernel) (by decide +kernel)), kk_X8_stand⟩
theorem kk_X7_ahead : Cond.initialized MX7_ahead.1.cls ∈ TS ∧ Cond.code MX7_ahead.1 MX7_ahead.2.1 MX7_ahead.2.2.1 MX7_ahead.2.2.2 ∈ TS ∧ (MX7_ahead.1.cls ≠ "java/lang/invoke/MethodHandle" ∧ MX7_ahead.1.cls ≠ "java/lang/invoke/VarHandle") ∧ MX7_ahead.2.2.1 ≤ 40 := ⟨(TSi 66 (by decide +kernel) (by decide +kernel)), (TSi 606 (by decide +kernel) (by decide +kernel)), ⟨by decide +kernel, by decide +kernel⟩, by decide⟩
theorem np_X7_ahead : np MX7_ahead 2 := by unfold np; decide +kernel
theorem lk_L_74 : LKV RL 74 MX7_ahead := ⟨(TSi 603 (by decide +kernel) (by decide +kernel)), (TSi 604 (by decide +kernel) (by decide +kernel)), (TSi 605 (by decide +kernel) (by decide +kernel)), kk_X7_ahead⟩
theorem kk_X8_ahead : Cond.initialized MX8_ahead.1.cls ∈ TS ∧ Cond.code MX8_ahead.1 MX8_ahead.2.1 MX8_ahead.2.2.1 MX8_ahead.2.2.2 ∈ TS ∧ (MX8_ahead.1.cls ≠ "java/lang/invoke/MethodHandle" ∧ MX8_ahead.1.cls ≠ "java/lang/invoke/VarHandle") ∧ MX8_ahead.2.2.1 ≤ 40 := ⟨(TSi 74 (by decide +kernel) (by decide +kernel)), (TSi 1131 (by decide +kernel) (by decide +kernel)), ⟨by decide +kernel, by decide +kernel⟩, by decide⟩
theorem np_X8_ahead : np MX8_ahead 2 := by unfold np; decide +kernel
theorem lk_L_77 : LKV RL 77 MX8_ahead := ⟨(TSi 1128 (by decide +kernel) (by decide +kernel)), (TSi 1129 (by decide +kernel) (by decide +kernel)), (TSi 1130 (by decide +kernel) (by decide +kernel)), kk_X8_ahead⟩
theorem kk_X7_when : Cond.initialized MX7_when.1.cls ∈ TS ∧ Cond.code MX7_when.1 MX7_when.2.1 MX7_when.2.2.1 MX7_when.2.2.2 ∈ TS ∧ (MX7_when.1.cls ≠ "java/lang/invoke/MethodHandle" ∧ MX7_when.1.cls ≠ "java/lang/invoke/VarHandle") ∧ MX7_when.2.2.1 ≤ 40 := ⟨(TSi 66 (by decide +kernel) (by decide +kernel)), (TSi 620 (by decide +kernel) (by decide +kernel)), ⟨by decide +kernel, by decide +kernel⟩, by decide⟩
theorem np_X7_when : np MX7_when 2 := by unfold np; decide +kernel
theorem lk_L_78 : LKV RL 78 MX7_when := ⟨(TSi 617 (by decide +kernel) (by decide +kernel)), (TSi 618 (by decide +kernel) (by decide +kernel)), (TSi 619 (by decide +kernel) (by decide +kernel)), kk_X7_when⟩
theorem kk_X8_when : Cond.initialized MX8_when.1.cls ∈ TS ∧ Cond.code MX8_when.1 MX8_when.2.1 MX8_when.2.2.1 MX8_when.2.2.2 ∈ TS ∧ (MX8_when.1.cls ≠ "java/lang/invoke/MethodHandle" ∧ MX8_when.1.cls ≠ "java/lang/invoke/VarHandle") ∧ MX8_when.2.2.1 ≤ 40 := ⟨(TSi 74 (by decide +kernel) (by decide +kernel)), (TSi 1148 (by decide +kernel) (by decide +kernel)), ⟨by decide +kernel, by decide +kernel⟩, by decide⟩
theorem np_X8_when : np MX8_when 2 := by unfold np; decide +kernel
theorem lk_L_81 : LKV RL 81 MX8_when := ⟨(TSi 1145 (by decide +kernel) (by decide +kernel)), (TSi 1146 (by decide +kernel) (by decide +kernel)), (TSi 1147 (by decide +kernel) (by decide +kernel)), kk_X8_when⟩
theorem kk_X7_first : Cond.initialized MX7_first.1.cls ∈ TS ∧ Cond.code MX7_first.1 MX7_first.2.1 MX7_first.2.2.1 MX7_first.2.2.2 ∈ TS ∧ (MX7_first.1.cls ≠ "java/lang/invoke/MethodHandle" ∧ MX7_first.1.cls ≠ "java/lang/invoke/VarHandle") ∧ MX7_first.2.2.1 ≤ 40 := ⟨(TSi 66 (by decide +kernel) (by decide +kernel)), (TSi 631 (by decide +kernel) (by decide +kernel)), ⟨by decide +kernel, by decide +kernel⟩, by decide⟩
theorem np_X7_first : np MX7_first 1 := by unfold np; decide +kernel
theorem lk_L_82 : LKV RL 82 MX7_first := ⟨(TSi 628 (by decide +kernel) (by decide +kernel)), (TSi 629 (by decide +kernel) (by decide +kernel)), (TSi 630 (by decide +kernel) (by decide +kernel)), kk_X7_first⟩
theorem kk_X8_first : Cond.initialized MX8_first.1.cls ∈ TS ∧ Cond.code MX8_first.1 MX8_first.2.1 MX8_first.2.2.1 MX8_first.2.2.2 ∈ TS ∧ (MX8_first.1.cls ≠ "java/lang/invoke/MethodHandle" ∧ MX8_first.1.cls ≠ "java/lang/invoke/VarHandle") ∧ MX8_first.2.2.1 ≤ 40 := ⟨(TSi 74 (by decide +kernel) (by decide +kernel)), (TSi 1157 (by decide +kernel) (by decide +kernel)), ⟨by decide +kernel, by decide +kernel⟩, by decide⟩
theorem np_X8_first : np MX8_first 1 := by unfold np; decide +kernel
theorem lk_L_85 : LKV RL 85 MX8_first := ⟨(TSi 1154 (by decide +kernel) (by decide +kernel)), (TSi 1155 (by decide +kernel) (by decide +kernel)), (TSi 1156 (by decide +kernel) (by decide +kernel)), kk_X8_first⟩
theorem kk_X7_left : Cond.initialized MX7_left.1.cls ∈ TS ∧ Cond.code MX7_left.1 MX7_left.2.1 MX7_left.2.2.1 MX7_left.2.2.2 ∈ TS ∧ (MX7_left.1.cls ≠ "java/lang/invoke/MethodHandle" ∧ MX7_left.1.cls ≠ "java/lang/invoke/VarHandle") ∧ MX7_left.2.2.1 ≤ 40 := ⟨(TSi 66 (by decide +kernel) (by decide +kernel)), (TSi 639 (by decide +kernel) (by decide +kernel)), ⟨by decide +kernel, by decide +kernel⟩, by decide⟩
theorem np_X7_left : np MX7_left 1 := by unfold np; decide +kernel
theorem lk_L_86 : LKV RL 86 MX7_left := ⟨(TSi 636 (by decide +kernel) (by decide +kernel)), (TSi 637 (by decide +kernel) (by decide +kernel)), (TSi 638 (by decide +kernel) (by decide +kernel)), kk_X7_left⟩
theorem kk_X8_left : Cond.initialized MX8_left.1.cls ∈ TS ∧ Cond.code MX8_left.1 MX8_left.2.1 MX8_left.2.2.1 MX8_left.2.2.2 ∈ TS ∧ (MX8_left.1.cls ≠ "java/lang/invoke/MethodHandle" ∧ MX8_left.1.cls ≠ "java/lang/invoke/VarHandle") ∧ MX8_left.2.2.1 ≤ 40 := ⟨(TSi 74 (by decide +kernel) (by decide +kernel)), (TSi 1167 (by decide +kernel) (by decide +kernel)), ⟨by decide +kernel, by decide +kernel⟩, by decide⟩
theorem np_X8_left : np MX8_left 1 := by unfold np; decide +kernel
theorem lk_L_89 : LKV RL 89 MX8_left := ⟨(TSi 1164 (by decide +kernel) (by decide +kernel)), (TSi 1165 (by decide +kernel) (by decide +kernel)), (TSi 1166 (by decide +kernel) (by decide +kernel)), kk_X8_left⟩
theorem kk_X7_round : Cond.initialized MX7_round.1.cls ∈ TS ∧ Cond.code MX7_round.1 MX7_round.2.1 MX7_round.2.2.1 MX7_round.2.2.2 ∈ TS ∧ (MX7_round.1.cls ≠ "java/lang/invoke/MethodHandle" ∧ MX7_round.1.cls ≠ "java/lang/invoke/VarHandle") ∧ MX7_round.2.2.1 ≤ 40 := ⟨(TSi 66 (by decide +kernel) (by decide +kernel)), (TSi 643 (by decide +kernel) (by decide +kernel)), ⟨by decide +kernel, by decide +kernel⟩, by decide⟩
theorem np_X7_round : np MX7_round 3 := by unfold np; decide +kernel
theorem lk_L_90 : LKV RL 90 MX7_round := ⟨(TSi 640 (by decide +kernel) (by decide +kernel)), (TSi 641 (by decide +kernel) (by decide +kernel)), (TSi 642 (by decide +kernel) (by decide +kernel)), kk_X7_round⟩
theorem kk_X8_round : Cond.initialized MX8_round.1.cls ∈ TS ∧ Cond.code MX8_round.1 MX8_round.2.1 MX8_round.2.2.1 MX8_round.2.2.2 ∈ TS ∧ (MX8_round.1.cls ≠ "java/lang/invoke/MethodHandle" ∧ MX8_round.1.cls ≠ "java/lang/invoke/VarHandle") ∧ MX8_round.2.2.1 ≤ 40 := ⟨(TSi 74 (by decide +kernel) (by decide +kernel)), (TSi 1175 (by decide +kernel) (by decide +kernel)), ⟨by decide +kernel, by decide +kernel⟩, by decide⟩
theorem np_X8_round : np MX8_round 3 := by unfold np; decide +kernel
theorem lk_L_93 : LKV RL 93 MX8_round := ⟨(TSi 1172 (by decide +kernel) (by decide +kernel)), (TSi 1173 (by decide +kernel) (by decide +kernel)), (TSi 1174 (by decide +kernel) (by decide +kernel)), kk_X8_round⟩
theorem kk_X7_walls : Cond.initialized MX7_walls.1.cls ∈ TS ∧ Cond.code MX7_walls.1 MX7_walls.2.1 MX7_walls.2.2.1 MX7_walls.2.2.2 ∈ TS ∧ (MX7_walls.1.cls ≠ "java/lang/invoke/MethodHandle" ∧ MX7_walls.1.cls ≠ "java/lang/invoke/VarHandle") ∧ MX7_walls.2.2.1 ≤ 40 := ⟨(TSi 66 (by decide +kernel) (by decide +kernel)), (TSi 674 (by decide +kernel) (by decide +kernel)), ⟨by decide +kernel, by decide +kernel⟩, by decide⟩
theorem np_X7_walls : np MX7_walls 2 := by unfold np; decide +kernel
theorem lk_L_94 : LKV RL 94 MX7_walls := ⟨(TSi 671 (by decide +kernel) (by decide +kernel)), (TSi 672 (by decide +kernel) (by decide +kernel)), (TSi 673 (by decide +kernel) (by decide +kernel)), kk_X7_walls⟩
theorem kk_X8_walls : Cond.initialized MX8_walls.1.cls ∈ TS ∧ Cond.code MX8_walls.1 MX8_walls.2.1 MX8_walls.2.2.1 MX8_walls.2.2.2 ∈ TS ∧ (MX8_walls.1.cls ≠ "java/lang/invoke/MethodHandle" ∧ MX8_walls.1.cls ≠ "java/lang/invoke/VarHandle") ∧ MX8_walls.2.2.1 ≤ 40 := ⟨(TSi 74 (by decide +kernel) (by decide +kernel)), (TSi 1190 (by decide +kernel) (by decide +kernel)), ⟨by decide +kernel, by decide +kernel⟩, by decide⟩
theorem np_X8_walls : np MX8_walls 2 := by unfold np; decide +kernel
theorem lk_L_97 : LKV RL 97 MX8_walls := ⟨(TSi 1187 (by decide +kernel) (by decide +kernel)), (TSi 1188 (by decide +kernel) (by decide +kernel)), (TSi 1189 (by decide +kernel) (by decide +kernel)), kk_X8_walls⟩
theorem kk_X7_steady : Cond.initialized MX7_steady.1.cls ∈ TS ∧ Cond.code MX7_steady.1 MX7_steady.2.1 MX7_steady.2.2.1 MX7_steady.2.2.2 ∈ TS ∧ (MX7_steady.1.cls ≠ "java/lang/invoke/MethodHandle" ∧ MX7_steady.1.cls ≠ "java/lang/invoke/VarHandle") ∧ MX7_steady.2.2.1 ≤ 40 := ⟨(TSi 66 (by decide +kernel) (by decide +kernel)), (TSi 688 (by decide +kernel) (by decide +kernel)), ⟨by decide +kernel, by decide +kernel⟩, by decide⟩
theorem np_X7_steady : np MX7_steady 2 := by unfold np; decide +kernel
theorem lk_L_98 : LKV RL 98 MX7_steady := ⟨(TSi 685 (by decide +kernel) (by decide +kernel)), (TSi 686 (by decide +kernel) (by decide +kernel)), (TSi 687 (by decide +kernel) (by decide +kernel)), kk_X7_steady⟩
theorem kk_X8_steady : Cond.initialized MX8_steady.1.cls ∈ TS ∧ Cond.code MX8_steady.1 MX8_steady.2.1 MX8_steady.2.2.1 MX8_steady.2.2.2 ∈ TS ∧ (MX8_steady.1.cls ≠ "java/lang/invoke/MethodHandle" ∧ MX8_steady.1.cls ≠ "java/lang/invoke/VarHandle") ∧ MX8_steady.2.2.1 ≤ 40 := ⟨(TSi 74 (by decide +kernel) (by decide +kernel)), (TSi 1194 (by decide +kernel) (by decide +kernel)), ⟨by decide +kernel, by decide +kernel⟩, by decide⟩
theorem np_X8_steady : np MX8_steady 2 := by unfold np; decide +kernel
theorem lk_L_101 : LKV RL 101 MX8_steady := ⟨(TSi 1191 (by decide +kernel) (by decide +kernel)), (TSi 1192 (by decide +kernel) (by decide +kernel)), (TSi 1193 (by decide +kernel) (by decide +kernel)), kk_X8_steady⟩
theorem kk_X7_boys : Cond.initialized MX7_boys.1.cls ∈ TS ∧ Cond.code MX7_boys.1 MX7_boys.2.1 MX7_boys.2.2.1 MX7_boys.2.2.2 ∈ TS ∧ (MX7_boys.1.cls ≠ "java/lang/invoke/MethodHandle" ∧ MX7_boys.1.cls ≠ "java/lang/invoke/VarHandle") ∧ MX7_boys.2.2.1 ≤ 40 := ⟨(TSi 66 (by decide +kernel) (by decide +kernel)), (TSi 696 (by decide +kernel) (by decide +kernel)), ⟨by decide +kernel, by decide +kernel⟩, by decide⟩
theorem np_X7_boys : np MX7_boys 2 := by unfold np; decide +kernel
theorem lk_L_102 : LKV RL 102 MX7_boys := ⟨(TSi 693 (by decide +kernel) (by decide +kernel)), (TSi 694 (by decide +kernel) (by decide +kernel)), (TSi 695 (by decide +kernel) (by decide +kernel)), kk_X7_boys⟩
theorem kk_X8_boys : Cond.initialized MX8_boys.1.cls ∈ TS ∧ Cond.code MX8_boys.1 MX8_boys.2.1 MX8_boys.2.2.1 MX8_boys.2.2.2 ∈ TS ∧ (MX8_boys.1.cls ≠ "java/lang/invoke/MethodHandle" ∧ MX8_boys.1.cls ≠ "java/lang/invoke/VarHandle") ∧ MX8_boys.2.2.1 ≤ 40 := ⟨(TSi 74 (by decide +kernel) (by decide +kernel)), (TSi 1198 (by decide +kernel) (by decide +kernel)), ⟨by decide +kernel, by decide +kernel⟩, by decide⟩
theorem np_X8_boys : np MX8_boys 2 := by unfold np; decide +kernel
theorem lk_L_105 : LKV RL 105 MX8_boys := ⟨(TSi 1195 (by decide +kernel) (by decide +kernel)), (TSi 1196 (by decide +kernel) (by decide +kernel)), (TSi 1197 (by decide +kernel) (by decide +kernel)), kk_X8_boys⟩
theorem kk_X7_string : Cond.initialized MX7_string.1.cls ∈ TS ∧ Cond.code MX7_string.1 MX7_string.2.1 MX7_string.2.2.1 MX7_string.2.2.2 ∈ TS ∧ (MX7_string.1.cls ≠ "java/lang/invoke/MethodHandle" ∧ MX7_string.1.cls ≠ "java/lang/invoke/VarHandle") ∧ MX7_string.2.2.1 ≤ 40 := ⟨(TSi 66 (by decide +kernel) (by decide +kernel)), (TSi 711 (by decide +kernel) (by decide +kernel)), ⟨by decide +kernel, by decide +kernel⟩, by decide⟩
theorem np_X7_string : np MX7_string 2 := by unfold np; decide +kernel
theorem lk_L_106 : LKV RL 106 MX7_string := ⟨(TSi 708 (by decide +kernel) (by decide +kernel)), (TSi 709 (by decide +kernel) (by decide +kernel)), (TSi 710 (by decide +kernel) (by decide +kernel)), kk_X7_string⟩
theorem kk_X8_string : Cond.initialized MX8_string.1.cls ∈ TS ∧ Cond.code MX8_string.1 MX8_string.2.1 MX8_string.2.2.1 MX8_string.2.2.2 ∈ TS ∧ (MX8_string.1.cls ≠ "java/lang/invoke/MethodHandle" ∧ MX8_string.1.cls ≠ "java/lang/invoke/VarHandle") ∧ MX8_string.2.2.1 ≤ 40 := ⟨(TSi 74 (by decide +kernel) (by decide +kernel)), (TSi 1208 (by decide +kernel) (by decide +kernel)), ⟨by decide +kernel, by decide +kernel⟩, by decide⟩
theorem np_X8_string : np MX8_string 2 := by unfold np; decide +kernel
theorem lk_L_109 : LKV RL 109 MX8_string := ⟨(TSi 1205 (by decide +kernel) (by decide +kernel)), (TSi 1206 (by decide +kernel) (by decide +kernel)), (TSi 1207 (by decide +kernel) (by decide +kernel)), kk_X8_string⟩
theorem kk_X7_who : Cond.initialized MX7_who.1.cls ∈ TS ∧ Cond.code MX7_who.1 MX7_who.2.1 MX7_who.2.2.1 MX7_who.2.2.2 ∈ TS ∧ (MX7_who.1.cls ≠ "java/lang/invoke/MethodHandle" ∧ MX7_who.1.cls ≠ "java/lang/invoke/VarHandle") ∧ MX7_who.2.2.1 ≤ 40 := ⟨(TSi 66 (by decide +kernel) (by decide +kernel)), (TSi 723 (by decide +kernel) (by decide +kernel)), ⟨by decide +kernel, by decide +kernel⟩, by decide⟩
theorem np_X7_who : np MX7_who 5 := by unfold np; decide +kernel
theorem lk_L_110 : LKV RL 110 MX7_who := ⟨(TSi 720 (by decide +kernel) (by decide +kernel)), (TSi 721 (by decide +kernel) (by decide +kernel)), (TSi 722 (by decide +kernel) (by decide +kernel)), kk_X7_who⟩
theorem kk_X8_who : Cond.initialized MX8_who.1.cls ∈ TS ∧ Cond.code MX8_who.1 MX8_who.2.1 MX8_who.2.2.1 MX8_who.2.2.2 ∈ TS ∧ (MX8_who.1.cls ≠ "java/lang/invoke/MethodHandle" ∧ MX8_who.1.cls ≠ "java/lang/invoke/VarHandle") ∧ MX8_who.2.2.1 ≤ 40 := ⟨(TSi 74 (by decide +kernel) (by decide +kernel)), (TSi 1217 (by decide +kernel) (by decide +kernel)), ⟨by decide +kernel, by decide +kernel⟩, by decide⟩
theorem np_X8_who : np MX8_who 5 := by unfold np; decide +kernel
theorem lk_L_113 : LKV RL 113 MX8_who := ⟨(TSi 1214 (by decide +kernel) (by decide +kernel)), (TSi 1215 (by decide +kernel) (by decide +kernel)), (TSi 1216 (by decide +kernel) (by decide +kernel)), kk_X8_who⟩
theorem kk_X7_finger : Cond.initialized MX7_finger.1.cls ∈ TS ∧ Cond.code MX7_finger.1 MX7_finger.2.1 MX7_finger.2.2.1 MX7_finger.2.2.2 ∈ TS ∧ (MX7_finger.1.cls ≠ "java/lang/invoke/MethodHandle" ∧ MX7_finger.1.cls ≠ "java/lang/invoke/VarHandle") ∧ MX7_finger.2.2.1 ≤ 40 := ⟨(TSi 66 (by decide +kernel) (by decide +kernel)), (TSi 748 (by decide +kernel) (by decide +kernel)), ⟨by decide +kernel, by decide +kernel⟩, by decide⟩
theorem np_X7_finger : np MX7_finger 4 := by unfold np; decide +kernel
theorem lk_L_114 : LKV RL 114 MX7_finger := ⟨(TSi 745 (by decide +kernel) (by decide +kernel)), (TSi 746 (by decide +kernel) (by decide +kernel)), (TSi 747 (by decide +kernel) (by decide +kernel)), kk_X7_finger⟩
theorem kk_X8_finger : Cond.initialized MX8_finger.1.cls ∈ TS ∧ Cond.code MX8_finger.1 MX8_finger.2.1 MX8_finger.2.2.1 MX8_finger.2.2.2 ∈ TS ∧ (MX8_finger.1.cls ≠ "java/lang/invoke/MethodHandle" ∧ MX8_finger.1.cls ≠ "java/lang/invoke/VarHandle") ∧ MX8_finger.2.2.1 ≤ 40 := ⟨(TSi 74 (by decide +kernel) (by decide +kernel)), (TSi 1234 (by decide +kernel) (by decide +kernel)), ⟨by decide +kernel, by decide +kernel⟩, by decide⟩
theorem np_X8_finger : np MX8_finger 4 := by unfold np; decide +kernel
theorem lk_L_118 : LKV RL 118 MX8_finger := ⟨(TSi 1231 (by decide +kernel) (by decide +kernel)), (TSi 1232 (by decide +kernel) (by decide +kernel)), (TSi 1233 (by decide +kernel) (by decide +kernel)), kk_X8_finger⟩
theorem kk_X7_lashes : Cond.initialized MX7_lashes.1.cls ∈ TS ∧ Cond.code MX7_lashes.1 MX7_lashes.2.1 MX7_lashes.2.2.1 MX7_lashes.2.2.2 ∈ TS ∧ (MX7_lashes.1.cls ≠ "java/lang/invoke/MethodHandle" ∧ MX7_lashes.1.cls ≠ "java/lang/invoke/VarHandle") ∧ MX7_lashes.2.2.1 ≤ 40 := ⟨(TSi 66 (by decide +kernel) (by decide +kernel)), (TSi 756 (by decide +kernel) (by decide +kernel)), ⟨by decide +kernel, by decide +kernel⟩, by decide⟩
theorem np_X7_lashes : np MX7_lashes 5 := by unfold np; decide +kernel
theorem lk_L_119 : LKV RL 119 MX7_lashes := ⟨(TSi 753 (by decide +kernel) (by decide +kernel)), (TSi 754 (by decide +kernel) (by decide +kernel)), (TSi 755 (by decide +kernel) (by decide +kernel)), kk_X7_lashes⟩
theorem kk_X8_lashes : Cond.initialized MX8_lashes.1.cls ∈ TS ∧ Cond.code MX8_lashes.1 MX8_lashes.2.1 MX8_lashes.2.2.1 MX8_lashes.2.2.2 ∈ TS ∧ (MX8_lashes.1.cls ≠ "java/lang/invoke/MethodHandle" ∧ MX8_lashes.1.cls ≠ "java/lang/invoke/VarHandle") ∧ MX8_lashes.2.2.1 ≤ 40 := ⟨(TSi 74 (by decide +kernel) (by decide +kernel)), (TSi 1238 (by decide +kernel) (by decide +kernel)), ⟨by decide +kernel, by decide +kernel⟩, by decide⟩
theorem np_X8_lashes : np MX8_lashes 5 := by unfold np; decide +kernel
theorem lk_L_122 : LKV RL 122 MX8_lashes := ⟨(TSi 1235 (by decide +kernel) (by decide +kernel)), (TSi 1236 (by decide +kernel) (by decide +kernel)), (TSi 1237 (by decide +kernel) (by decide +kernel)), kk_X8_lashes⟩
theorem kk_X7_crack : Cond.initialized MX7_crack.1.cls ∈ TS ∧ Cond.code MX7_crack.1 MX7_crack.2.1 MX7_crack.2.2.1 MX7_crack.2.2.2 ∈ TS ∧ (MX7_crack.1.cls ≠ "java/lang/invoke/MethodHandle" ∧ MX7_crack.1.cls ≠ "java/lang/invoke/VarHandle") ∧ MX7_crack.2.2.1 ≤ 40 := ⟨(TSi 66 (by decide +kernel) (by decide +kernel)), (TSi 764 (by decide +kernel) (by decide +kernel)), ⟨by decide +kernel, by decide +kernel⟩, by decide⟩
theorem np_X7_crack : np MX7_crack 4 := by unfold np; decide +kernel
theorem lk_L_123 : LKV RL 123 MX7_crack := ⟨(TSi 761 (by decide +kernel) (by decide +kernel)), (TSi 762 (by decide +kernel) (by decide +kernel)), (TSi 763 (by decide +kernel) (by decide +kernel)), kk_X7_crack⟩
theorem kk_X8_crack : Cond.initialized MX8_crack.1.cls ∈ TS ∧ Cond.code MX8_crack.1 MX8_crack.2.1 MX8_crack.2.2.1 MX8_crack.2.2.2 ∈ TS ∧ (MX8_crack.1.cls ≠ "java/lang/invoke/MethodHandle" ∧ MX8_crack.1.cls ≠ "java/lang/invoke/VarHandle") ∧ MX8_crack.2.2.1 ≤ 40 := ⟨(TSi 74 (by decide +kernel) (by decide +kernel)), (TSi 1242 (by decide +kernel) (by decide +kernel)), ⟨by decide +kernel, by decide +kernel⟩, by decide⟩
theorem np_X8_crack : np MX8_crack 4 := by unfold np; decide +kernel
theorem lk_L_127 : LKV RL 127 MX8_crack := ⟨(TSi 1239 (by decide +kernel) (by decide +kernel)), (TSi 1240 (by decide +kernel) (by decide +kernel)), (TSi 1241 (by decide +kernel) (by decide +kernel)), kk_X8_crack⟩
theorem kk_X7_drawn : Cond.initialized MX7_drawn.1.cls ∈ TS ∧ Cond.code MX7_drawn.1 MX7_drawn.2.1 MX7_drawn.2.2.1 MX7_drawn.2.2.2 ∈ TS ∧ (MX7_drawn.1.cls ≠ "java/lang/invoke/MethodHandle" ∧ MX7_drawn.1.cls ≠ "java/lang/invoke/VarHandle") ∧ MX7_drawn.2.2.1 ≤ 40 := ⟨(TSi 66 (by decide +kernel) (by decide +kernel)), (TSi 786 (by decide +kernel) (by decide +kernel)), ⟨by decide +kernel, by decide +kernel⟩, by decide⟩
theorem np_X7_drawn : np MX7_drawn 3 := by unfold np; decide +kernel
theorem lk_L_128 : LKV RL 128 MX7_drawn := ⟨(TSi 783 (by decide +kernel) (by decide +kernel)), (TSi 784 (by decide +kernel) (by decide +kernel)), (TSi 785 (by decide +kernel) (by decide +kernel)), kk_X7_drawn⟩
theorem kk_X8_drawn : Cond.initialized MX8_drawn.1.cls ∈ TS ∧ Cond.code MX8_drawn.1 MX8_drawn.2.1 MX8_drawn.2.2.1 MX8_drawn.2.2.2 ∈ TS ∧ (MX8_drawn.1.cls ≠ "java/lang/invoke/MethodHandle" ∧ MX8_drawn.1.cls ≠ "java/lang/invoke/VarHandle") ∧ MX8_drawn.2.2.1 ≤ 40 := ⟨(TSi 74 (by decide +kernel) (by decide +kernel)), (TSi 1249 (by decide +kernel) (by decide +kernel)), ⟨by decide +kernel, by decide +kernel⟩, by decide⟩
theorem np_X8_drawn : np MX8_drawn 3 := by unfold np; decide +kernel
theorem lk_L_131 : LKV RL 131 MX8_drawn := ⟨(TSi 1246 (by decide +kernel) (by decide +kernel)), (TSi 1247 (by decide +kernel) (by decide +kernel)), (TSi 1248 (by decide +kernel) (by decide +kernel)), kk_X8_drawn⟩
theorem kk_X7_image : Cond.initialized MX7_image.1.cls ∈ TS ∧ Cond.code MX7_image.1 MX7_image.2.1 MX7_image.2.2.1 MX7_image.2.2.2 ∈ TS ∧ (MX7_image.1.cls ≠ "java/lang/invoke/MethodHandle" ∧ MX7_image.1.cls ≠ "java/lang/invoke/VarHandle") ∧ MX7_image.2.2.1 ≤ 40 := ⟨(TSi 66 (by decide +kernel) (by decide +kernel)), (TSi 799 (by decide +kernel) (by decide +kernel)), ⟨by decide +kernel, by decide +kernel⟩, by decide⟩
theorem np_X7_image : np MX7_image 1 := by unfold np; decide +kernel
theorem lk_L_132 : LKV RL 132 MX7_image := ⟨(TSi 796 (by decide +kernel) (by decide +kernel)), (TSi 797 (by decide +kernel) (by decide +kernel)), (TSi 798 (by decide +kernel) (by decide +kernel)), kk_X7_image⟩
theorem kk_X8_image : Cond.initialized MX8_image.1.cls ∈ TS ∧ Cond.code MX8_image.1 MX8_image.2.1 MX8_image.2.2.1 MX8_image.2.2.2 ∈ TS ∧ (MX8_image.1.cls ≠ "java/lang/invoke/MethodHandle" ∧ MX8_image.1.cls ≠ "java/lang/invoke/VarHandle") ∧ MX8_image.2.2.1 ≤ 40 := ⟨(TSi 74 (by decide +kernel) (by decide +kernel)), (TSi 1257 (by decide +kernel) (by decide +kernel)), ⟨by decide +kernel, by decide +kernel⟩, by decide⟩
theorem np_X8_image : np MX8_image 1 := by unfold np; decide +kernel
theorem lk_L_135 : LKV RL 135 MX8_image := ⟨(TSi 1254 (by decide +kernel) (by decide +kernel)), (TSi 1255 (by decide +kernel) (by decide +kernel)), (TSi 1256 (by decide +kernel) (by decide +kernel)), kk_X8_image⟩
theorem kk_X7_restore : Cond.initialized MX7_restore.1.cls ∈ TS ∧ Cond.code MX7_restore.1 MX7_restore.2.1 MX7_restore.2.2.1 MX7_restore.2.2.2 ∈ TS ∧ (MX7_restore.1.cls ≠ "java/lang/invoke/MethodHandle" ∧ MX7_restore.1.cls ≠ "java/lang/invoke/VarHandle") ∧ MX7_restore.2.2.1 ≤ 40 := ⟨(TSi 66 (by decide +kernel) (by decide +kernel)), (TSi 803 (by decide +kernel) (by decide +kernel)), ⟨by decide +kernel, by decide +kernel⟩, by decide⟩
theorem np_X7_restore : np MX7_restore 1 := by unfold np; decide +kernel
theorem lk_L_136 : LKV RL 136 MX7_restore := ⟨(TSi 800 (by decide +kernel) (by decide +kernel)), (TSi 801 (by decide +kernel) (by decide +kernel)), (TSi 802 (by decide +kernel) (by decide +kernel)), kk_X7_restore⟩
theorem kk_X8_restore : Cond.initialized MX8_restore.1.cls ∈ TS ∧ Cond.code MX8_restore.1 MX8_restore.2.1 MX8_restore.2.2.1 MX8_restore.2.2.2 ∈ TS ∧ (MX8_restore.1.cls ≠ "java/lang/invoke/MethodHandle" ∧ MX8_restore.1.cls ≠ "java/lang/invoke/VarHandle") ∧ MX8_restore.2.2.1 ≤ 40 := ⟨(TSi 74 (by decide +kernel) (by decide +kernel)), (TSi 1261 (by decide +kernel) (by decide +kernel)), ⟨by decide +kernel, by decide +kernel⟩, by decide⟩
theorem np_X8_restore : np MX8_restore 1 := by unfold np; decide +kernel
theorem lk_L_139 : LKV RL 139 MX8_restore := ⟨(TSi 1258 (by decide +kernel) (by decide +kernel)), (TSi 1259 (by decide +kernel) (by decide +kernel)), (TSi 1260 (by decide +kernel) (by decide +kernel)), kk_X8_restore⟩
theorem kk_X7_kind : Cond.initialized MX7_kind.1.cls ∈ TS ∧ Cond.code MX7_kind.1 MX7_kind.2.1 MX7_kind.2.2.1 MX7_kind.2.2.2 ∈ TS ∧ (MX7_kind.1.cls ≠ "java/lang/invoke/MethodHandle" ∧ MX7_kind.1.cls ≠ "java/lang/invoke/VarHandle") ∧ MX7_kind.2.2.1 ≤ 40 := ⟨(TSi 66 (by decide +kernel) (by decide +kernel)), (TSi 807 (by decide +kernel) (by decide +kernel)), ⟨by decide +kernel, by decide +kernel⟩, by decide⟩
theorem np_X7_kind : np MX7_kind 1 := by unfold np; decide +kernel
theorem lk_L_140 : LKV RL 140 MX7_kind := ⟨(TSi 804 (by decide +kernel) (by decide +kernel)), (TSi 805 (by decide +kernel) (by decide +kernel)), (TSi 806 (by decide +kernel) (by decide +kernel)), kk_X7_kind⟩
theorem kk_X8_kind : Cond.initialized MX8_kind.1.cls ∈ TS ∧ Cond.code MX8_kind.1 MX8_kind.2.1 MX8_kind.2.2.1 MX8_kind.2.2.2 ∈ TS ∧ (MX8_kind.1.cls ≠ "java/lang/invoke/MethodHandle" ∧ MX8_kind.1.cls ≠ "java/lang/invoke/VarHandle") ∧ MX8_kind.2.2.1 ≤ 40 := ⟨(TSi 74 (by decide +kernel) (by decide +kernel)), (TSi 1265 (by decide +kernel) (by decide +kernel)), ⟨by decide +kernel, by decide +kernel⟩, by decide⟩
theorem np_X8_kind : np MX8_kind 1 := by unfold np; decide +kernel
theorem lk_L_143 : LKV RL 143 MX8_kind := ⟨(TSi 1262 (by decide +kernel) (by decide +kernel)), (TSi 1263 (by decide +kernel) (by decide +kernel)), (TSi 1264 (by decide +kernel) (by decide +kernel)), kk_X8_kind⟩
theorem kk_X7_as : Cond.initialized MX7_as.1.cls ∈ TS ∧ Cond.code MX7_as.1 MX7_as.2.1 MX7_as.2.2.1 MX7_as.2.2.2 ∈ TS ∧ (MX7_as.1.cls ≠ "java/lang/invoke/MethodHandle" ∧ MX7_as.1.cls ≠ "java/lang/invoke/VarHandle") ∧ MX7_as.2.2.1 ≤ 40 := ⟨(TSi 66 (by decide +kernel) (by decide +kernel)), (TSi 811 (by decide +kernel) (by decide +kernel)), ⟨by decide +kernel, by decide +kernel⟩, by decide⟩
theorem np_X7_as : np MX7_as 2 := by unfold np; decide +kernel
theorem lk_L_144 : LKV RL 144 MX7_as := ⟨(TSi 808 (by decide +kernel) (by decide +kernel)), (TSi 809 (by decide +kernel) (by decide +kernel)), (TSi 810 (by decide +kernel) (by decide +kernel)), kk_X7_as⟩
theorem kk_X8_as : Cond.initialized MX8_as.1.cls ∈ TS ∧ Cond.code MX8_as.1 MX8_as.2.1 MX8_as.2.2.1 MX8_as.2.2.2 ∈ TS ∧ (MX8_as.1.cls ≠ "java/lang/invoke/MethodHandle" ∧ MX8_as.1.cls ≠ "java/lang/invoke/VarHandle") ∧ MX8_as.2.2.1 ≤ 40 := ⟨(TSi 74 (by decide +kernel) (by decide +kernel)), (TSi 1269 (by decide +kernel) (by decide +kernel)), ⟨by decide +kernel, by decide +kernel⟩, by decide⟩
theorem np_X8_as : np MX8_as 2 := by unfold np; decide +kernel
theorem lk_L_147 : LKV RL 147 MX8_as := ⟨(TSi 1266 (by decide +kernel) (by decide +kernel)), (TSi 1267 (by decide +kernel) (by decide +kernel)), (TSi 1268 (by decide +kernel) (by decide +kernel)), kk_X8_as⟩
theorem kk_X7_ask : Cond.initialized MX7_ask.1.cls ∈ TS ∧ Cond.code MX7_ask.1 MX7_ask.2.1 MX7_ask.2.2.1 MX7_ask.2.2.2 ∈ TS ∧ (MX7_ask.1.cls ≠ "java/lang/invoke/MethodHandle" ∧ MX7_ask.1.cls ≠ "java/lang/invoke/VarHandle") ∧ MX7_ask.2.2.1 ≤ 40 := ⟨(TSi 66 (by decide +kernel) (by decide +kernel)), (TSi 818 (by decide +kernel) (by decide +kernel)), ⟨by decide +kernel, by decide +kernel⟩, by decide⟩
theorem np_X7_ask : np MX7_ask 2 := by unfold np; decide +kernel
theorem lk_L_148 : LKV RL 148 MX7_ask := ⟨(TSi 815 (by decide +kernel) (by decide +kernel)), (TSi 816 (by decide +kernel) (by decide +kernel)), (TSi 817 (by decide +kernel) (by decide +kernel)), kk_X7_ask⟩
theorem kk_X8_ask : Cond.initialized MX8_ask.1.cls ∈ TS ∧ Cond.code MX8_ask.1 MX8_ask.2.1 MX8_ask.2.2.1 MX8_ask.2.2.2 ∈ TS ∧ (MX8_ask.1.cls ≠ "java/lang/invoke/MethodHandle" ∧ MX8_ask.1.cls ≠ "java/lang/invoke/VarHandle") ∧ MX8_ask.2.2.1 ≤ 40 := ⟨(TSi 74 (by decide +kernel) (by decide +kernel)), (TSi 1276 (by decide +kernel) (by decide +kernel)), ⟨by decide +kernel, by decide +kernel⟩, by decide⟩
theorem np_X8_ask : np MX8_ask 2 := by unfold np; decide +kernel
theorem lk_L_151 : LKV RL 151 MX8_ask := ⟨(TSi 1273 (by decide +kernel) (by decide +kernel)), (TSi 1274 (by decide +kernel) (by decide +kernel)), (TSi 1275 (by decide +kernel) (by decide +kernel)), kk_X8_ask⟩
theorem kk_X7_trace : Cond.initialized MX7_trace.1.cls ∈ TS ∧ Cond.code MX7_trace.1 MX7_trace.2.1 MX7_trace.2.2.1 MX7_trace.2.2.2 ∈ TS ∧ (MX7_trace.1.cls ≠ "java/lang/invoke/MethodHandle" ∧ MX7_trace.1.cls ≠ "java/lang/invoke/VarHandle") ∧ MX7_trace.2.2.1 ≤ 40 := ⟨(TSi 66 (by decide +kernel) (by decide +kernel)), (TSi 870 (by decide +kernel) (by decide +kernel)), ⟨by decide +kernel, by decide +kernel⟩, by decide⟩
theorem np_X7_trace : np MX7_trace 1 := by unfold np; decide +kernel
theorem lk_L_152 : LKV RL 152 MX7_trace := ⟨(TSi 867 (by decide +kernel) (by decide +kernel)), (TSi 868 (by decide +kernel) (by decide +kernel)), (TSi 869 (by decide +kernel) (by decide +kernel)), kk_X7_trace⟩
theorem kk_X8_trace : Cond.initialized MX8_trace.1.cls ∈ TS ∧ Cond.code MX8_trace.1 MX8_trace.2.1 MX8_trace.2.2.1 MX8_trace.2.2.2 ∈ TS ∧ (MX8_trace.1.cls ≠ "java/lang/invoke/MethodHandle" ∧ MX8_trace.1.cls ≠ "java/lang/invoke/VarHandle") ∧ MX8_trace.2.2.1 ≤ 40 := ⟨(TSi 74 (by decide +kernel) (by decide +kernel)), (TSi 1312 (by decide +kernel) (by decide +kernel)), ⟨by decide +kernel, by decide +kernel⟩, by decide⟩
theorem np_X8_trace : np MX8_trace 1 := by unfold np; decide +kernel
theorem lk_L_155 : LKV RL 155 MX8_trace := ⟨(TSi 1309 (by decide +kernel) (by decide +kernel)), (TSi 1310 (by decide +kernel) (by decide +kernel)), (TSi 1311 (by decide +kernel) (by decide +kernel)), kk_X8_trace⟩
theorem kk_X7_count : Cond.initialized MX7_count.1.cls ∈ TS ∧ Cond.code MX7_count.1 MX7_count.2.1 MX7_count.2.2.1 MX7_count.2.2.2 ∈ TS ∧ (MX7_count.1.cls ≠ "java/lang/invoke/MethodHandle" ∧ MX7_count.1.cls ≠ "java/lang/invoke/VarHandle") ∧ MX7_count.2.2.1 ≤ 40 := ⟨(TSi 66 (by decide +kernel) (by decide +kernel)), (TSi 874 (by decide +kernel) (by decide +kernel)), ⟨by decide +kernel, by decide +kernel⟩, by decide⟩
theorem np_X7_count : np MX7_count 1 := by unfold np; decide +kernel
theorem lk_L_156 : LKV RL 156 MX7_count := ⟨(TSi 871 (by decide +kernel) (by decide +kernel)), (TSi 872 (by decide +kernel) (by decide +kernel)), (TSi 873 (by decide +kernel) (by decide +kernel)), kk_X7_count⟩
theorem kk_X8_count : Cond.initialized MX8_count.1.cls ∈ TS ∧ Cond.code MX8_count.1 MX8_count.2.1 MX8_count.2.2.1 MX8_count.2.2.2 ∈ TS ∧ (MX8_count.1.cls ≠ "java/lang/invoke/MethodHandle" ∧ MX8_count.1.cls ≠ "java/lang/invoke/VarHandle") ∧ MX8_count.2.2.1 ≤ 40 := ⟨(TSi 74 (by decide +kernel) (by decide +kernel)), (TSi 1316 (by decide +kernel) (by decide +kernel)), ⟨by decide +kernel, by decide +kernel⟩, by decide⟩
theorem np_X8_count : np MX8_count 1 := by unfold np; decide +kernel
theorem lk_L_159 : LKV RL 159 MX8_count := ⟨(TSi 1313 (by decide +kernel) (by decide +kernel)), (TSi 1314 (by decide +kernel) (by decide +kernel)), (TSi 1315 (by decide +kernel) (by decide +kernel)), kk_X8_count⟩
theorem kk_X7_status : Cond.initialized MX7_status.1.cls ∈ TS ∧ Cond.code MX7_status.1 MX7_status.2.1 MX7_status.2.2.1 MX7_status.2.2.2 ∈ TS ∧ (MX7_status.1.cls ≠ "java/lang/invoke/MethodHandle" ∧ MX7_status.1.cls ≠ "java/lang/invoke/VarHandle") ∧ MX7_status.2.2.1 ≤ 40 := ⟨(TSi 66 (by decide +kernel) (by decide +kernel)), (TSi 883 (by decide +kernel) (by decide +kernel)), ⟨by decide +kernel, by decide +kernel⟩, by decide⟩
theorem np_X7_status : np MX7_status 0 := by unfold np; decide +kernel
theorem lk_L_160 : LKV RL 160 MX7_status := ⟨(TSi 880 (by decide +kernel) (by decide +kernel)), (TSi 881 (by decide +kernel) (by decide +kernel)), (TSi 882 (by decide +kernel) (by decide +kernel)), kk_X7_status⟩
theorem kk_X8_status : Cond.initialized MX8_status.1.cls ∈ TS ∧ Cond.code MX8_status.1 MX8_status.2.1 MX8_status.2.2.1 MX8_status.2.2.2 ∈ TS ∧ (MX8_status.1.cls ≠ "java/lang/invoke/MethodHandle" ∧ MX8_status.1.cls ≠ "java/lang/invoke/VarHandle") ∧ MX8_status.2.2.1 ≤ 40 := ⟨(TSi 74 (by decide +kernel) (by decide +kernel)), (TSi 1320 (by decide +kernel) (by decide +kernel)), ⟨by decide +kernel, by decide +kernel⟩, by decide⟩
theorem np_X8_status : np MX8_status 0 := by unfold np; decide +kernel
theorem lk_L_163 : LKV RL 163 MX8_status := ⟨(TSi 1317 (by decide +kernel) (by decide +kernel)), (TSi 1318 (by decide +kernel) (by decide +kernel)), (TSi 1319 (by decide +kernel) (by decide +kernel)), kk_X8_status⟩
def f_L_law_18 (Ln : Nat) (xs : Nat → Int32) : Nat → Int32 → Mem → Option (Int32 × Mem)
  | 0, _, _ => none
  | n + 1, m3, s0 => if ((Int32.ofNat Ln) - (6 : Int32)) < m3 then (some ((1 : Int32), s0)) else ing m3 Ln <| swi ((xs m3.toNatClampNeg) &&& (63 : Int32)) 0 36 (fun j => match j with | 0 => (ing (m3 + (1 : Int32)) Ln <| ing (m3 + (2 : Int32)) Ln <| ing (m3 + (3 : Int32)) Ln <| bd2 (f_X7_row (xs (m3 + (1 : Int32)).toNatClampNeg) (xs (m3 + (2 : Int32)).toNatClampNeg) (xs (m3 + (3 : Int32)).toNatClampNeg) s0) fun x2 s3 => ing (m3 + (1 : Int32)) Ln <| ing (m3 + (2 : Int32)) Ln <| ing (m3 + (3 : Int32)) Ln <| bd2 (f_X8_row (xs (m3 + (1 : Int32)).toNatClampNeg) (xs (m3 + (2 : Int32)).toNatClampNeg) (xs (m3 + (3 : Int32)).toNatClampNeg) s3) fun x4 s5 => if x2 = x4 then (lt (m3 + (6 : Int32)) fun x6 => f_L_law_18 Ln xs n x6 s5) else some ((0 : Int32), s5)) | 1 => (ing (m3 + (1 : Int32)) Ln <| ing (m3 + (2 : Int32)) Ln <| ing (m3 + (3 : Int32)) Ln <| bd2 (f_X7_set (xs (m3 + (1 : Int32)).toNatClampNeg) (xs (m3 + (2 : Int32)).toNatClampNeg) (xs (m3 + (3 : Int32)).toNatClampNeg) s0) fun x7 s8 => ing (m3 + (1 : Int32)) Ln <| ing (m3 + (2 : Int32)) Ln <| ing (m3 + (3 : Int32)) Ln <| bd2 (f_X8_set (xs (m3 + (1 : Int32)).toNatClampNeg) (xs (m3 + (2 : Int32)).toNatClampNeg) (xs (m3 + (3 : Int32)).toNatClampNeg) s8) fun x9 s10 => if x7 = x9 then (lt (m3 + (6 : Int32)) fun x11 => f_L_law_18 Ln xs n x11 s10) else some ((0 : Int32), s10)) | 2 => (ing (m3 + (1 : Int32)) Ln <| ing (m3 + (2 : Int32)) Ln <| ing (m3 + (3 : Int32)) Ln <| ing (m3 + (4 : Int32)) Ln <| ing (m3 + (5 : Int32)) Ln <| bd2 (f_X7_copy (xs (m3 + (1 : Int32)).toNatClampNeg) (xs (m3 + (2 : Int32)).toNatClampNeg) (xs (m3 + (3 : Int32)).toNatClampNeg) (xs (m3 + (4 : Int32)).toNatClampNeg) (xs (m3 + (5 : Int32)).toNatClampNeg) s0) fun x12 s13 => ing (m3 + (1 : Int32)) Ln <| ing (m3 + (2 : Int32)) Ln <| ing (m3 + (3 : Int32)) Ln <| ing (m3 + (4 : Int32)) Ln <| ing (m3 + (5 : Int32)) Ln <| bd2 (f_X8_copy (xs (m3 + (1 : Int32)).toNatClampNeg) (xs (m3 + (2 : Int32)).toNatClampNeg) (xs (m3 + (3 : Int32)).toNatClampNeg) (xs (m3 + (4 : Int32)).toNatClampNeg) (xs (m3 + (5 : Int32)).toNatClampNeg) s13) fun x14 s15 => if x12 = x14 then (lt (m3 + (6 : Int32)) fun x16 => f_L_law_18 Ln xs n x16 s15) else some ((0 : Int32), s15)) | 3 => (ing (m3 + (1 : Int32)) Ln <| bd2 (f_X7_drop (xs (m3 + (1 : Int32)).toNatClampNeg) s0) fun x17 s18 => ing (m3 + (1 : Int32)) Ln <| bd2 (f_X8_drop (xs (m3 + (1 : Int32)).toNatClampNeg) s18) fun x19 s20 => if x17 = x19 then (lt (m3 + (6 : Int32)) fun x21 => f_L_law_18 Ln xs n x21 s20) else some ((0 : Int32), s20)) | 4 => (ing (m3 + (1 : Int32)) Ln <| bd2 (f_X7_feed (xs (m3 + (1 : Int32)).toNatClampNeg) s0) fun x22 s23 => ing (m3 + (1 : Int32)) Ln <| bd2 (f_X8_feed (xs (m3 + (1 : Int32)).toNatClampNeg) s23) fun x24 s25 => if x22 = x24 then (lt (m3 + (6 : Int32)) fun x26 => f_L_law_18 Ln xs n x26 s25) else some ((0 : Int32), s25)) | 5 => (bd2 (f_X7_street s0) fun x27 s28 => bd2 (f_X8_street s28) fun x29 s30 => if x27 = x29 then (lt (m3 + (6 : Int32)) fun x31 => f_L_law_18 Ln xs n x31 s30) else some ((0 : Int32), s30)) | 6 => (bd2 (f_X7_fault s0) fun x32 s33 => bd2 (f_X8_fault s33) fun x34 s35 => if x32 = x34 then (lt (m3 + (6 : Int32)) fun x36 => f_L_law_18 Ln xs n x36 s35) else some ((0 : Int32), s35)) | 7 => (bd2 (f_X7_undo s0) fun x37 s38 => bd2 (f_X8_undo s38) fun x39 s40 => if x37 = x39 then (lt (m3 + (6 : Int32)) fun x41 => f_L_law_18 Ln xs n x41 s40) else some ((0 : Int32), s40)) | 8 => (ing (m3 + (1 : Int32)) Ln <| bd2 (f_X7_hours (xs (m3 + (1 : Int32)).toNatClampNeg) s0) fun x42 s43 => ing (m3 + (1 : Int32)) Ln <| bd2 (f_X8_hours (xs (m3 + (1 : Int32)).toNatClampNeg) s43) fun x44 s45 => if x42 = x44 then (lt (m3 + (6 : Int32)) fun x46 => f_L_law_18 Ln xs n x46 s45) else some ((0 : Int32), s45)) | 9 => (ing (m3 + (1 : Int32)) Ln <| bd2 (f_X7_lash (xs (m3 + (1 : Int32)).toNatClampNeg) s0) fun x47 s48 => ing (m3 + (1 : Int32)) Ln <| bd2 (f_X8_lash (xs (m3 + (1 : Int32)).toNatClampNeg) s48) fun x49 s50 => if x47 = x49 then (lt (m3 + (6 : Int32)) fun x51 => f_L_law_18 Ln xs n x51 s50) else some ((0 : Int32), s50)) | 10 => (ing (m3 + (1 : Int32)) Ln <| ing (m3 + (2 : Int32)) Ln <| bd2 (f_X7_touch (xs (m3 + (1 : Int32)).toNatClampNeg) (xs (m3 + (2 : Int32)).toNatClampNeg) s0) fun x52 s53 => ing (m3 + (1 : Int32)) Ln <| ing (m3 + (2 : Int32)) Ln <| bd2 (f_X8_touch (xs (m3 + (1 : Int32)).toNatClampNeg) (xs (m3 + (2 : Int32)).toNatClampNeg) s53) fun x54 s55 => if x52 = x54 then (lt (m3 + (6 : Int32)) fun x56 => f_L_law_18 Ln xs n x56 s55) else some ((0 : Int32), s55)) | 11 => (ing (m3 + (1 : Int32)) Ln <| bd2 (f_X7_putUp (xs (m3 + (1 : Int32)).toNatClampNeg) s0) fun x57 s58 => ing (m3 + (1 : Int32)) Ln <| bd2 (f_X8_putUp (xs (m3 + (1 : Int32)).toNatClampNeg) s58) fun x59 s60 => if x57 = x59 then (lt (m3 + (6 : Int32)) fun x61 => f_L_law_18 Ln xs n x61 s60) else some ((0 : Int32), s60)) | 12 => (ing (m3 + (1 : Int32)) Ln <| ing (m3 + (2 : Int32)) Ln <| bd2 (f_X7_house (xs (m3 + (1 : Int32)).toNatClampNeg) (xs (m3 + (2 : Int32)).toNatClampNeg) s0) fun x62 s63 => ing (m3 + (1 : Int32)) Ln <| ing (m3 + (2 : Int32)) Ln <| bd2 (f_X8_house (xs (m3 + (1 : Int32)).toNatClampNeg) (xs (m3 + (2 : Int32)).toNatClampNeg) s63) fun x64 s65 => if x62 = x64 then (lt (m3 + (6 : Int32)) fun x66 => f_L_law_18 Ln xs n x66 s65) else some ((0 : Int32), s65)) | 13 => (ing (m3 + (1 : Int32)) Ln <| bd2 (f_X7_stand (xs (m3 + (1 : Int32)).toNatClampNeg) s0) fun x67 s68 => ing (m3 + (1 : Int32)) Ln <| bd2 (f_X8_stand (xs (m3 + (1 : Int32)).toNatClampNeg) s68) fun x69 s70 => if x67 = x69 then (lt (m3 + (6 : Int32)) fun x71 => f_L_law_18 Ln xs n x71 s70) else some ((0 : Int32), s70)) | 14 => (ing (m3 + (1 : Int32)) Ln <| ing (m3 + (2 : Int32)) Ln <| bd2 (f_X7_ahead (xs (m3 + (1 : Int32)).toNatClampNeg) (xs (m3 + (2 : Int32)).toNatClampNeg) s0) fun x72 s73 => ing (m3 + (1 : Int32)) Ln <| ing (m3 + (2 : Int32)) Ln <| bd2 (f_X8_ahead (xs (m3 + (1 : Int32)).toNatClampNeg) (xs (m3 + (2 : Int32)).toNatClampNeg) s73) fun x74 s75 => if x72 = x74 then (lt (m3 + (6 : Int32)) fun x76 => f_L_law_18 Ln xs n x76 s75) else some ((0 : Int32), s75)) | 15 => (ing (m3 + (1 : Int32)) Ln <| ing (m3 + (2 : Int32)) Ln <| bd2 (f_X7_when (xs (m3 + (1 : Int32)).toNatClampNeg) (xs (m3 + (2 : Int32)).toNatClampNeg) s0) fun x77 s78 => ing (m3 + (1 : Int32)) Ln <| ing (m3 + (2 : Int32)) Ln <| bd2 (f_X8_when (xs (m3 + (1 : Int32)).toNatClampNeg) (xs (m3 + (2 : Int32)).toNatClampNeg) s78) fun x79 s80 => if x77 = x79 then (lt (m3 + (6 : Int32)) fun x81 => f_L_law_18 Ln xs n x81 s80) else some ((0 : Int32), s80)) | 16 => (ing (m3 + (1 : Int32)) Ln <| bd2 (f_X7_first (xs (m3 + (1 : Int32)).toNatClampNeg) s0) fun x82 s83 => ing (m3 + (1 : Int32)) Ln <| bd2 (f_X8_first (xs (m3 + (1 : Int32)).toNatClampNeg) s83) fun x84 s85 => if x82 = x84 then (lt (m3 + (6 : Int32)) fun x86 => f_L_law_18 Ln xs n x86 s85) else some ((0 : Int32), s85)) | 17 => (ing (m3 + (1 : Int32)) Ln <| bd2 (f_X7_left (xs (m3 + (1 : Int32)).toNatClampNeg) s0) fun x87 s88 => ing (m3 + (1 : Int32)) Ln <| bd2 (f_X8_left (xs (m3 + (1 : Int32)).toNatClampNeg) s88) fun x89 s90 => if x87 = x89 then (lt (m3 + (6 : Int32)) fun x91 => f_L_law_18 Ln xs n x91 s90) else some ((0 : Int32), s90)) | 18 => (ing (m3 + (1 : Int32)) Ln <| ing (m3 + (2 : Int32)) Ln <| ing (m3 + (3 : Int32)) Ln <| bd2 (f_X7_round (xs (m3 + (1 : Int32)).toNatClampNeg) (xs (m3 + (2 : Int32)).toNatClampNeg) (xs (m3 + (3 : Int32)).toNatClampNeg) s0) fun x92 s93 => ing (m3 + (1 : Int32)) Ln <| ing (m3 + (2 : Int32)) Ln <| ing (m3 + (3 : Int32)) Ln <| bd2 (f_X8_round (xs (m3 + (1 : Int32)).toNatClampNeg) (xs (m3 + (2 : Int32)).toNatClampNeg) (xs (m3 + (3 : Int32)).toNatClampNeg) s93) fun x94 s95 => if x92 = x94 then (lt (m3 + (6 : Int32)) fun x96 => f_L_law_18 Ln xs n x96 s95) else some ((0 : Int32), s95)) | 19 => (ing (m3 + (1 : Int32)) Ln <| ing (m3 + (2 : Int32)) Ln <| bd2 (f_X7_walls (xs (m3 + (1 : Int32)).toNatClampNeg) (xs (m3 + (2 : Int32)).toNatClampNeg) s0) fun x97 s98 => ing (m3 + (1 : Int32)) Ln <| ing (m3 + (2 : Int32)) Ln <| bd2 (f_X8_walls (xs (m3 + (1 : Int32)).toNatClampNeg) (xs (m3 + (2 : Int32)).toNatClampNeg) s98) fun x99 s100 => if x97 = x99 then (lt (m3 + (6 : Int32)) fun x101 => f_L_law_18 Ln xs n x101 s100) else some ((0 : Int32), s100)) | 20 => (ing (m3 + (1 : Int32)) Ln <| ing (m3 + (2 : Int32)) Ln <| bd2 (f_X7_steady (xs (m3 + (1 : Int32)).toNatClampNeg) (xs (m3 + (2 : Int32)).toNatClampNeg) s0) fun x102 s103 => ing (m3 + (1 : Int32)) Ln <| ing (m3 + (2 : Int32)) Ln <| bd2 (f_X8_steady (xs (m3 + (1 : Int32)).toNatClampNeg) (xs (m3 + (2 : Int32)).toNatClampNeg) s103) fun x104 s105 => if x102 = x104 then (lt (m3 + (6 : Int32)) fun x106 => f_L_law_18 Ln xs n x106 s105) else some ((0 : Int32), s105)) | 21 => (ing (m3 + (1 : Int32)) Ln <| ing (m3 + (2 : Int32)) Ln <| bd2 (f_X7_boys (xs (m3 + (1 : Int32)).toNatClampNeg) (xs (m3 + (2 : Int32)).toNatClampNeg) s0) fun x107 s108 => ing (m3 + (1 : Int32)) Ln <| ing (m3 + (2 : Int32)) Ln <| bd2 (f_X8_boys (xs (m3 + (1 : Int32)).toNatClampNeg) (xs (m3 + (2 : Int32)).toNatClampNeg) s108) fun x109 s110 => if x107 = x109 then (lt (m3 + (6 : Int32)) fun x111 => f_L_law_18 Ln xs n x111 s110) else some ((0 : Int32), s110)) | 22 => (ing (m3 + (1 : Int32)) Ln <| ing (m3 + (2 : Int32)) Ln <| bd2 (f_X7_string (xs (m3 + (1 : Int32)).toNatClampNeg) (xs (m3 + (2 : Int32)).toNatClampNeg) s0) fun x112 s113 => ing (m3 + (1 : Int32)) Ln <| ing (m3 + (2 : Int32)) Ln <| bd2 (f_X8_string (xs (m3 + (1 : Int32)).toNatClampNeg) (xs (m3 + (2 : Int32)).toNatClampNeg) s113) fun x114 s115 => if x112 = x114 then (lt (m3 + (6 : Int32)) fun x116 => f_L_law_18 Ln xs n x116 s115) else some ((0 : Int32), s115)) | 23 => (ing (m3 + (1 : Int32)) Ln <| ing (m3 + (2 : Int32)) Ln <| ing (m3 + (3 : Int32)) Ln <| ing (m3 + (4 : Int32)) Ln <| ing (m3 + (5 : Int32)) Ln <| bd2 (f_X7_who (xs (m3 + (1 : Int32)).toNatClampNeg) (xs (m3 + (2 : Int32)).toNatClampNeg) (xs (m3 + (3 : Int32)).toNatClampNeg) (xs (m3 + (4 : Int32)).toNatClampNeg) (xs (m3 + (5 : Int32)).toNatClampNeg) s0) fun x117 s118 => ing (m3 + (1 : Int32)) Ln <| ing (m3 + (2 : Int32)) Ln <| ing (m3 + (3 : Int32)) Ln <| ing (m3 + (4 : Int32)) Ln <| ing (m3 + (5 : Int32)) Ln <| bd2 (f_X8_who (xs (m3 + (1 : Int32)).toNatClampNeg) (xs (m3 + (2 : Int32)).toNatClampNeg) (xs (m3 + (3 : Int32)).toNatClampNeg) (xs (m3 + (4 : Int32)).toNatClampNeg) (xs (m3 + (5 : Int32)).toNatClampNeg) s118) fun x119 s120 => if x117 = x119 then (lt (m3 + (6 : Int32)) fun x121 => f_L_law_18 Ln xs n x121 s120) else some ((0 : Int32), s120)) | 24 => (ing (m3 + (1 : Int32)) Ln <| ing (m3 + (2 : Int32)) Ln <| ing (m3 + (3 : Int32)) Ln <| ing (m3 + (4 : Int32)) Ln <| bd2 (f_X7_finger (xs (m3 + (1 : Int32)).toNatClampNeg) (xs (m3 + (2 : Int32)).toNatClampNeg) (xs (m3 + (3 : Int32)).toNatClampNeg) (xs (m3 + (4 : Int32)).toNatClampNeg) s0) fun x122 s123 => ing (m3 + (1 : Int32)) Ln <| ing (m3 + (2 : Int32)) Ln <| ing (m3 + (3 : Int32)) Ln <| ing (m3 + (4 : Int32)) Ln <| bd2 (f_X8_finger (xs (m3 + (1 : Int32)).toNatClampNeg) (xs (m3 + (2 : Int32)).toNatClampNeg) (xs (m3 + (3 : Int32)).toNatClampNeg) (xs (m3 + (4 : Int32)).toNatClampNeg) s123) fun x124 s125 => if x122 = x124 then (lt (m3 + (6 : Int32)) fun x126 => f_L_law_18 Ln xs n x126 s125) else some ((0 : Int32), s125)) | 25 => (ing (m3 + (1 : Int32)) Ln <| ing (m3 + (2 : Int32)) Ln <| ing (m3 + (3 : Int32)) Ln <| ing (m3 + (4 : Int32)) Ln <| ing (m3 + (5 : Int32)) Ln <| bd2 (f_X7_lashes (xs (m3 + (1 : Int32)).toNatClampNeg) (xs (m3 + (2 : Int32)).toNatClampNeg) (xs (m3 + (3 : Int32)).toNatClampNeg) (xs (m3 + (4 : Int32)).toNatClampNeg) (xs (m3 + (5 : Int32)).toNatClampNeg) s0) fun x127 s128 => ing (m3 + (1 : Int32)) Ln <| ing (m3 + (2 : Int32)) Ln <| ing (m3 + (3 : Int32)) Ln <| ing (m3 + (4 : Int32)) Ln <| ing (m3 + (5 : Int32)) Ln <| bd2 (f_X8_lashes (xs (m3 + (1 : Int32)).toNatClampNeg) (xs (m3 + (2 : Int32)).toNatClampNeg) (xs (m3 + (3 : Int32)).toNatClampNeg) (xs (m3 + (4 : Int32)).toNatClampNeg) (xs (m3 + (5 : Int32)).toNatClampNeg) s128) fun x129 s130 => if x127 = x129 then (lt (m3 + (6 : Int32)) fun x131 => f_L_law_18 Ln xs n x131 s130) else some ((0 : Int32), s130)) | 26 => (ing (m3 + (1 : Int32)) Ln <| ing (m3 + (2 : Int32)) Ln <| ing (m3 + (3 : Int32)) Ln <| ing (m3 + (4 : Int32)) Ln <| bd2 (f_X7_crack (xs (m3 + (1 : Int32)).toNatClampNeg) (xs (m3 + (2 : Int32)).toNatClampNeg) (xs (m3 + (3 : Int32)).toNatClampNeg) (xs (m3 + (4 : Int32)).toNatClampNeg) s0) fun x132 s133 => ing (m3 + (1 : Int32)) Ln <| ing (m3 + (2 : Int32)) Ln <| ing (m3 + (3 : Int32)) Ln <| ing (m3 + (4 : Int32)) Ln <| bd2 (f_X8_crack (xs (m3 + (1 : Int32)).toNatClampNeg) (xs (m3 + (2 : Int32)).toNatClampNeg) (xs (m3 + (3 : Int32)).toNatClampNeg) (xs (m3 + (4 : Int32)).toNatClampNeg) s133) fun x134 s135 => if (lg_cmp x132 x134) = 0 then (lt (m3 + (6 : Int32)) fun x136 => f_L_law_18 Ln xs n x136 s135) else some ((0 : Int32), s135)) | 27 => (ing (m3 + (1 : Int32)) Ln <| ing (m3 + (2 : Int32)) Ln <| ing (m3 + (3 : Int32)) Ln <| bd2 (f_X7_drawn (xs (m3 + (1 : Int32)).toNatClampNeg) (xs (m3 + (2 : Int32)).toNatClampNeg) (xs (m3 + (3 : Int32)).toNatClampNeg) s0) fun x137 s138 => ing (m3 + (1 : Int32)) Ln <| ing (m3 + (2 : Int32)) Ln <| ing (m3 + (3 : Int32)) Ln <| bd2 (f_X8_drawn (xs (m3 + (1 : Int32)).toNatClampNeg) (xs (m3 + (2 : Int32)).toNatClampNeg) (xs (m3 + (3 : Int32)).toNatClampNeg) s138) fun x139 s140 => if x137 = x139 then (lt (m3 + (6 : Int32)) fun x141 => f_L_law_18 Ln xs n x141 s140) else some ((0 : Int32), s140)) | 28 => (ing (m3 + (1 : Int32)) Ln <| bd2 (f_X7_image (xs (m3 + (1 : Int32)).toNatClampNeg) s0) fun x142 s143 => ing (m3 + (1 : Int32)) Ln <| bd2 (f_X8_image (xs (m3 + (1 : Int32)).toNatClampNeg) s143) fun x144 s145 => if x142 = x144 then (lt (m3 + (6 : Int32)) fun x146 => f_L_law_18 Ln xs n x146 s145) else some ((0 : Int32), s145)) | 29 => (ing (m3 + (1 : Int32)) Ln <| bd2 (f_X7_restore (xs (m3 + (1 : Int32)).toNatClampNeg) s0) fun x147 s148 => ing (m3 + (1 : Int32)) Ln <| bd2 (f_X8_restore (xs (m3 + (1 : Int32)).toNatClampNeg) s148) fun x149 s150 => if x147 = x149 then (lt (m3 + (6 : Int32)) fun x151 => f_L_law_18 Ln xs n x151 s150) else some ((0 : Int32), s150)) | 30 => (ing (m3 + (1 : Int32)) Ln <| bd2 (f_X7_kind (xs (m3 + (1 : Int32)).toNatClampNeg) s0) fun x152 s153 => ing (m3 + (1 : Int32)) Ln <| bd2 (f_X8_kind (xs (m3 + (1 : Int32)).toNatClampNeg) s153) fun x154 s155 => if x152 = x154 then (lt (m3 + (6 : Int32)) fun x156 => f_L_law_18 Ln xs n x156 s155) else some ((0 : Int32), s155)) | 31 => (ing (m3 + (1 : Int32)) Ln <| ing (m3 + (2 : Int32)) Ln <| bd2 (f_X7_as (xs (m3 + (1 : Int32)).toNatClampNeg) (xs (m3 + (2 : Int32)).toNatClampNeg) s0) fun x157 s158 => ing (m3 + (1 : Int32)) Ln <| ing (m3 + (2 : Int32)) Ln <| bd2 (f_X8_as (xs (m3 + (1 : Int32)).toNatClampNeg) (xs (m3 + (2 : Int32)).toNatClampNeg) s158) fun x159 s160 => if x157 = x159 then (lt (m3 + (6 : Int32)) fun x161 => f_L_law_18 Ln xs n x161 s160) else some ((0 : Int32), s160)) | 32 => (ing (m3 + (1 : Int32)) Ln <| ing (m3 + (2 : Int32)) Ln <| bd2 (f_X7_ask (xs (m3 + (1 : Int32)).toNatClampNeg) (xs (m3 + (2 : Int32)).toNatClampNeg) s0) fun x162 s163 => ing (m3 + (1 : Int32)) Ln <| ing (m3 + (2 : Int32)) Ln <| bd2 (f_X8_ask (xs (m3 + (1 : Int32)).toNatClampNeg) (xs (m3 + (2 : Int32)).toNatClampNeg) s163) fun x164 s165 => if x162 = x164 then (lt (m3 + (6 : Int32)) fun x166 => f_L_law_18 Ln xs n x166 s165) else some ((0 : Int32), s165)) | 33 => (ing (m3 + (1 : Int32)) Ln <| bd2 (f_X7_trace (xs (m3 + (1 : Int32)).toNatClampNeg) s0) fun x167 s168 => ing (m3 + (1 : Int32)) Ln <| bd2 (f_X8_trace (xs (m3 + (1 : Int32)).toNatClampNeg) s168) fun x169 s170 => if x167 = x169 then (lt (m3 + (6 : Int32)) fun x171 => f_L_law_18 Ln xs n x171 s170) else some ((0 : Int32), s170)) | 34 => (ing (m3 + (1 : Int32)) Ln <| bd2 (f_X7_count (xs (m3 + (1 : Int32)).toNatClampNeg) s0) fun x172 s173 => ing (m3 + (1 : Int32)) Ln <| bd2 (f_X8_count (xs (m3 + (1 : Int32)).toNatClampNeg) s173) fun x174 s175 => if x172 = x174 then (lt (m3 + (6 : Int32)) fun x176 => f_L_law_18 Ln xs n x176 s175) else some ((0 : Int32), s175)) | 35 => (bd2 (f_X7_status s0) fun x177 s178 => bd2 (f_X8_status s178) fun x179 s180 => if x177 = x179 then (lt (m3 + (6 : Int32)) fun x181 => f_L_law_18 Ln xs n x181 s180) else some ((0 : Int32), s180)) | _ => none) (lt (m3 + (6 : Int32)) fun x1 => f_L_law_18 Ln xs n x1 s0)
theorem w_L_law_18 {X : CX} {Z : Option Value × Mem → Prop} {Ln : Nat} {xs : Nat → Int32} (hO : OKX X false 40 ML_law) (hQ : LRET X Z) (sb : Nat) (hL : OKL X sb Ln xs) : ∀ (n : Nat) (m3 : Int32) (s0 : Mem), SIM X ML_law wI Z 18 [(0, .ref (1002 + sb)), (1, .ref 0), (2, .ref 183), (3, .int m3)] [] s0 (f_L_law_18 Ln xs n m3 s0) := by
  intro n
  induction n with
  | zero => intros; exact S_none
  | succ n ih =>
    intro m3 s0
    rw [f_L_law_18]
    refine S_ (R_iload_n hO dL_law_18 rfl) ?_
    refine S_ (R_aload_n hO dL_law_19 rfl) ?_
    refine S_ (R_slen hO hL dL_law_20) ?_
    refine S_ (R_bipush (v := (6 : Int32)) hO dL_law_21 (by decide)) ?_
    refine S_ (R_isub hO dL_law_23) ?_
    refine S_icmp_gt (tgt := 1347) hO dL_law_24 (by decide) ?_ ?_
    · refine S_ (R_aload_n hO dL_law_27 rfl) ?_
      refine S_ (R_iload_n hO dL_law_28 rfl) ?_
      refine S_sld hO hL dL_law_29 ?_
      refine S_ (R_bipush (v := (63 : Int32)) hO dL_law_30 (by decide)) ?_
      refine S_ (R_iand hO dL_law_32) ?_
      refine S_tsw (lo := 0) (n := 36) (tgt := fun j => ([192, 235, 278, 341, 364, 387, 400, 413, 426, 449, 472, 505, 528, 561, 584, 617, 650, 673, 696, 739, 772, 805, 838, 871, 934, 987, 1050, 1104, 1147, 1170, 1193, 1216, 1249, 1282, 1305, 1328] : List Nat).getD j 0) (tgd := 1341) hO dL_law_33 (by decide) (by decide) (by decide) ?_ ?_
      · refine S_iinc (L2 := fun x1 => [(3, .int x1), (0, .ref (1002 + sb)), (1, .ref 0), (2, .ref 183)]) (v := (6 : Int32)) hO dL_law_1341 rfl (by decide) (Nat.le_of_ble_eq_true rfl) (fun _ => rfl) (fun x1 => ?_)
        refine S_ (R_goto (tgt := 18) hO dL_law_1344 (by decide)) ?_
        refine S_sub [1, 2, 3, 0] rfl ?_
        exact ih x1 s0
      · intro j hj
        rcases (show j = 0 ∨ j = 1 ∨ j = 2 ∨ j = 3 ∨ j = 4 ∨ j = 5 ∨ j = 6 ∨ j = 7 ∨ j = 8 ∨ j = 9 ∨ j = 10 ∨ j = 11 ∨ j = 12 ∨ j = 13 ∨ j = 14 ∨ j = 15 ∨ j = 16 ∨ j = 17 ∨ j = 18 ∨ j = 19 ∨ j = 20 ∨ j = 21 ∨ j = 22 ∨ j = 23 ∨ j = 24 ∨ j = 25 ∨ j = 26 ∨ j = 27 ∨ j = 28 ∨ j = 29 ∨ j = 30 ∨ j = 31 ∨ j = 32 ∨ j = 33 ∨ j = 34 ∨ j = 35 by omega) with rfl | rfl | rfl | rfl | rfl | rfl | rfl | rfl | rfl | rfl | rfl | rfl | rfl | rfl | rfl | rfl | rfl | rfl | rfl | rfl | rfl | rfl | rfl | rfl | rfl | rfl | rfl | rfl | rfl | rfl | rfl | rfl | rfl | rfl | rfl | rfl
        · refine S_ (R_aload_n hO dL_law_192 rfl) ?_
          refine S_ (R_aload_n hO dL_law_193 rfl) ?_
          refine S_ (R_iload_n hO dL_law_194 rfl) ?_
          refine S_ (R_iconst (v := (1 : Int32)) hO dL_law_195 (by decide)) ?_
          refine S_ (R_iadd hO dL_law_196) ?_
          refine S_sld hO hL dL_law_197 ?_
          refine S_ (R_aload_n hO dL_law_198 rfl) ?_
          refine S_ (R_iload_n hO dL_law_199 rfl) ?_
          refine S_ (R_iconst (v := (2 : Int32)) hO dL_law_200 (by decide)) ?_
          refine S_ (R_iadd hO dL_law_201) ?_
          refine S_sld hO hL dL_law_202 ?_
          refine S_ (R_aload_n hO dL_law_203 rfl) ?_
          refine S_ (R_iload_n hO dL_law_204 rfl) ?_
          refine S_ (R_iconst (v := (3 : Int32)) hO dL_law_205 (by decide)) ?_
          refine S_ (R_iadd hO dL_law_206) ?_
          refine S_sld hO hL dL_law_207 ?_
          refine S_callVI (rest := []) hO dL_law_208 (cs_X7_row (xs (m3 + (1 : Int32)).toNatClampNeg) (xs (m3 + (2 : Int32)).toNatClampNeg) (xs (m3 + (3 : Int32)).toNatClampNeg) s0) (by decide) lk_L_13 np_X7_row (rc_0 rfl) rfl (Nat.le_of_ble_eq_true rfl) (fun x2 s3 => ?_)
          refine S_ (R_aload_n hO dL_law_211 rfl) ?_
          refine S_ (R_aload_n hO dL_law_212 rfl) ?_
          refine S_ (R_iload_n hO dL_law_213 rfl) ?_
          refine S_ (R_iconst (v := (1 : Int32)) hO dL_law_214 (by decide)) ?_
          refine S_ (R_iadd hO dL_law_215) ?_
          refine S_sld hO hL dL_law_216 ?_
          refine S_ (R_aload_n hO dL_law_217 rfl) ?_
          refine S_ (R_iload_n hO dL_law_218 rfl) ?_
          refine S_ (R_iconst (v := (2 : Int32)) hO dL_law_219 (by decide)) ?_
          refine S_ (R_iadd hO dL_law_220) ?_
          refine S_sld hO hL dL_law_221 ?_
          refine S_ (R_aload_n hO dL_law_222 rfl) ?_
          refine S_ (R_iload_n hO dL_law_223 rfl) ?_
          refine S_ (R_iconst (v := (3 : Int32)) hO dL_law_224 (by decide)) ?_
          refine S_ (R_iadd hO dL_law_225) ?_
          refine S_sld hO hL dL_law_226 ?_
          refine S_callVI (rest := [.int x2]) hO dL_law_227 (cs_X8_row (xs (m3 + (1 : Int32)).toNatClampNeg) (xs (m3 + (2 : Int32)).toNatClampNeg) (xs (m3 + (3 : Int32)).toNatClampNeg) s3) (by decide) lk_L_17 np_X8_row (rc_183 rfl) rfl (Nat.le_of_ble_eq_true rfl) (fun x4 s5 => ?_)
          refine S_icmp_eq (tgt := 1341) hO dL_law_230 (by decide) ?_ ?_
          · refine S_ (R_iconst (v := (0 : Int32)) hO dL_law_233 (by decide)) ?_
            exact S_lawret rfl hO hQ dL_law_234
          · refine S_iinc (L2 := fun x6 => [(3, .int x6), (0, .ref (1002 + sb)), (1, .ref 0), (2, .ref 183)]) (v := (6 : Int32)) hO dL_law_1341 rfl (by decide) (Nat.le_of_ble_eq_true rfl) (fun _ => rfl) (fun x6 => ?_)
            refine S_ (R_goto (tgt := 18) hO dL_law_1344 (by decide)) ?_
            refine S_sub [1, 2, 3, 0] rfl ?_
            exact ih x6 s5
        · refine S_ (R_aload_n hO dL_law_235 rfl) ?_
          refine S_ (R_aload_n hO dL_law_236 rfl) ?_
          refine S_ (R_iload_n hO dL_law_237 rfl) ?_
          refine S_ (R_iconst (v := (1 : Int32)) hO dL_law_238 (by decide)) ?_
          refine S_ (R_iadd hO dL_law_239) ?_
          refine S_sld hO hL dL_law_240 ?_
          refine S_ (R_aload_n hO dL_law_241 rfl) ?_
          refine S_ (R_iload_n hO dL_law_242 rfl) ?_
          refine S_ (R_iconst (v := (2 : Int32)) hO dL_law_243 (by decide)) ?_
          refine S_ (R_iadd hO dL_law_244) ?_
          refine S_sld hO hL dL_law_245 ?_
          refine S_ (R_aload_n hO dL_law_246 rfl) ?_
          refine S_ (R_iload_n hO dL_law_247 rfl) ?_
          refine S_ (R_iconst (v := (3 : Int32)) hO dL_law_248 (by decide)) ?_
          refine S_ (R_iadd hO dL_law_249) ?_
          refine S_sld hO hL dL_law_250 ?_
          refine S_callVI (rest := []) hO dL_law_251 (cs_X7_set (xs (m3 + (1 : Int32)).toNatClampNeg) (xs (m3 + (2 : Int32)).toNatClampNeg) (xs (m3 + (3 : Int32)).toNatClampNeg) s0) (by decide) lk_L_18 np_X7_set (rc_0 rfl) rfl (Nat.le_of_ble_eq_true rfl) (fun x7 s8 => ?_)
          refine S_ (R_aload_n hO dL_law_254 rfl) ?_
          refine S_ (R_aload_n hO dL_law_255 rfl) ?_
          refine S_ (R_iload_n hO dL_law_256 rfl) ?_
          refine S_ (R_iconst (v := (1 : Int32)) hO dL_law_257 (by decide)) ?_
          refine S_ (R_iadd hO dL_law_258) ?_
          refine S_sld hO hL dL_law_259 ?_
          refine S_ (R_aload_n hO dL_law_260 rfl) ?_
          refine S_ (R_iload_n hO dL_law_261 rfl) ?_
          refine S_ (R_iconst (v := (2 : Int32)) hO dL_law_262 (by decide)) ?_
          refine S_ (R_iadd hO dL_law_263) ?_
          refine S_sld hO hL dL_law_264 ?_
          refine S_ (R_aload_n hO dL_law_265 rfl) ?_
          refine S_ (R_iload_n hO dL_law_266 rfl) ?_
          refine S_ (R_iconst (v := (3 : Int32)) hO dL_law_267 (by decide)) ?_
          refine S_ (R_iadd hO dL_law_268) ?_
          refine S_sld hO hL dL_law_269 ?_
          refine S_callVI (rest := [.int x7]) hO dL_law_270 (cs_X8_set (xs (m3 + (1 : Int32)).toNatClampNeg) (xs (m3 + (2 : Int32)).toNatClampNeg) (xs (m3 + (3 : Int32)).toNatClampNeg) s8) (by decide) lk_L_21 np_X8_set (rc_183 rfl) rfl (Nat.le_of_ble_eq_true rfl) (fun x9 s10 => ?_)
          refine S_icmp_eq (tgt := 1341) hO dL_law_273 (by decide) ?_ ?_
          · refine S_ (R_iconst (v := (0 : Int32)) hO dL_law_276 (by decide)) ?_
            exact S_lawret rfl hO hQ dL_law_277
          · refine S_iinc (L2 := fun x11 => [(3, .int x11), (0, .ref (1002 + sb)), (1, .ref 0), (2, .ref 183)]) (v := (6 : Int32)) hO dL_law_1341 rfl (by decide) (Nat.le_of_ble_eq_true rfl) (fun _ => rfl) (fun x11 => ?_)
            refine S_ (R_goto (tgt := 18) hO dL_law_1344 (by decide)) ?_
            refine S_sub [1, 2, 3, 0] rfl ?_
            exact ih x11 s10
        · refine S_ (R_aload_n hO dL_law_278 rfl) ?_
          refine S_ (R_aload_n hO dL_law_279 rfl) ?_
          refine S_ (R_iload_n hO dL_law_280 rfl) ?_
          refine S_ (R_iconst (v := (1 : Int32)) hO dL_law_281 (by decide)) ?_
          refine S_ (R_iadd hO dL_law_282) ?_
          refine S_sld hO hL dL_law_283 ?_
          refine S_ (R_aload_n hO dL_law_284 rfl) ?_
          refine S_ (R_iload_n hO dL_law_285 rfl) ?_
          refine S_ (R_iconst (v := (2 : Int32)) hO dL_law_286 (by decide)) ?_
          refine S_ (R_iadd hO dL_law_287) ?_
          refine S_sld hO hL dL_law_288 ?_
          refine S_ (R_aload_n hO dL_law_289 rfl) ?_
          refine S_ (R_iload_n hO dL_law_290 rfl) ?_
          refine S_ (R_iconst (v := (3 : Int32)) hO dL_law_291 (by decide)) ?_
          refine S_ (R_iadd hO dL_law_292) ?_
          refine S_sld hO hL dL_law_293 ?_
          refine S_ (R_aload_n hO dL_law_294 rfl) ?_
          refine S_ (R_iload_n hO dL_law_295 rfl) ?_
          refine S_ (R_iconst (v := (4 : Int32)) hO dL_law_296 (by decide)) ?_
          refine S_ (R_iadd hO dL_law_297) ?_
          refine S_sld hO hL dL_law_298 ?_
          refine S_ (R_aload_n hO dL_law_299 rfl) ?_
          refine S_ (R_iload_n hO dL_law_300 rfl) ?_
          refine S_ (R_iconst (v := (5 : Int32)) hO dL_law_301 (by decide)) ?_
          refine S_ (R_iadd hO dL_law_302) ?_
          refine S_sld hO hL dL_law_303 ?_
          refine S_callVI (rest := []) hO dL_law_304 (cs_X7_copy (xs (m3 + (1 : Int32)).toNatClampNeg) (xs (m3 + (2 : Int32)).toNatClampNeg) (xs (m3 + (3 : Int32)).toNatClampNeg) (xs (m3 + (4 : Int32)).toNatClampNeg) (xs (m3 + (5 : Int32)).toNatClampNeg) s0) (by decide) lk_L_22 np_X7_copy (rc_0 rfl) rfl (Nat.le_of_ble_eq_true rfl) (fun x12 s13 => ?_)
          refine S_ (R_aload_n hO dL_law_307 rfl) ?_
          refine S_ (R_aload_n hO dL_law_308 rfl) ?_
          refine S_ (R_iload_n hO dL_law_309 rfl) ?_
          refine S_ (R_iconst (v := (1 : Int32)) hO dL_law_310 (by decide)) ?_
          refine S_ (R_iadd hO dL_law_311) ?_
          refine S_sld hO hL dL_law_312 ?_
          refine S_ (R_aload_n hO dL_law_313 rfl) ?_
          refine S_ (R_iload_n hO dL_law_314 rfl) ?_
          refine S_ (R_iconst (v := (2 : Int32)) hO dL_law_315 (by decide)) ?_
          refine S_ (R_iadd hO dL_law_316) ?_
          refine S_sld hO hL dL_law_317 ?_
          refine S_ (R_aload_n hO dL_law_318 rfl) ?_
          refine S_ (R_iload_n hO dL_law_319 rfl) ?_
          refine S_ (R_iconst (v := (3 : Int32)) hO dL_law_320 (by decide)) ?_
          refine S_ (R_iadd hO dL_law_321) ?_
          refine S_sld hO hL dL_law_322 ?_
          refine S_ (R_aload_n hO dL_law_323 rfl) ?_
          refine S_ (R_iload_n hO dL_law_324 rfl) ?_
          refine S_ (R_iconst (v := (4 : Int32)) hO dL_law_325 (by decide)) ?_
          refine S_ (R_iadd hO dL_law_326) ?_
          refine S_sld hO hL dL_law_327 ?_
          refine S_ (R_aload_n hO dL_law_328 rfl) ?_
          refine S_ (R_iload_n hO dL_law_329 rfl) ?_
          refine S_ (R_iconst (v := (5 : Int32)) hO dL_law_330 (by decide)) ?_
          refine S_ (R_iadd hO dL_law_331) ?_
          refine S_sld hO hL dL_law_332 ?_
          refine S_callVI (rest := [.int x12]) hO dL_law_333 (cs_X8_copy (xs (m3 + (1 : Int32)).toNatClampNeg) (xs (m3 + (2 : Int32)).toNatClampNeg) (xs (m3 + (3 : Int32)).toNatClampNeg) (xs (m3 + (4 : Int32)).toNatClampNeg) (xs (m3 + (5 : Int32)).toNatClampNeg) s13) (by decide) lk_L_26 np_X8_copy (rc_183 rfl) rfl (Nat.le_of_ble_eq_true rfl) (fun x14 s15 => ?_)
          refine S_icmp_eq (tgt := 1341) hO dL_law_336 (by decide) ?_ ?_
          · refine S_ (R_iconst (v := (0 : Int32)) hO dL_law_339 (by decide)) ?_
            exact S_lawret rfl hO hQ dL_law_340
          · refine S_iinc (L2 := fun x16 => [(3, .int x16), (0, .ref (1002 + sb)), (1, .ref 0), (2, .ref 183)]) (v := (6 : Int32)) hO dL_law_1341 rfl (by decide) (Nat.le_of_ble_eq_true rfl) (fun _ => rfl) (fun x16 => ?_)
            refine S_ (R_goto (tgt := 18) hO dL_law_1344 (by decide)) ?_
            refine S_sub [1, 2, 3, 0] rfl ?_
            exact ih x16 s15
        · refine S_ (R_aload_n hO dL_law_341 rfl) ?_
          refine S_ (R_aload_n hO dL_law_342 rfl) ?_
          refine S_ (R_iload_n hO dL_law_343 rfl) ?_
          refine S_ (R_iconst (v := (1 : Int32)) hO dL_law_344 (by decide)) ?_
          refine S_ (R_iadd hO dL_law_345) ?_
          refine S_sld hO hL dL_law_346 ?_
          refine S_callVI (rest := []) hO dL_law_347 (cs_X7_drop (xs (m3 + (1 : Int32)).toNatClampNeg) s0) (by decide) lk_L_27 np_X7_drop (rc_0 rfl) rfl (Nat.le_of_ble_eq_true rfl) (fun x17 s18 => ?_)
          refine S_ (R_aload_n hO dL_law_350 rfl) ?_
          refine S_ (R_aload_n hO dL_law_351 rfl) ?_
          refine S_ (R_iload_n hO dL_law_352 rfl) ?_
          refine S_ (R_iconst (v := (1 : Int32)) hO dL_law_353 (by decide)) ?_
          refine S_ (R_iadd hO dL_law_354) ?_
          refine S_sld hO hL dL_law_355 ?_
          refine S_callVI (rest := [.int x17]) hO dL_law_356 (cs_X8_drop (xs (m3 + (1 : Int32)).toNatClampNeg) s18) (by decide) lk_L_31 np_X8_drop (rc_183 rfl) rfl (Nat.le_of_ble_eq_true rfl) (fun x19 s20 => ?_)
          refine S_icmp_eq (tgt := 1341) hO dL_law_359 (by decide) ?_ ?_
          · refine S_ (R_iconst (v := (0 : Int32)) hO dL_law_362 (by decide)) ?_
            exact S_lawret rfl hO hQ dL_law_363
          · refine S_iinc (L2 := fun x21 => [(3, .int x21), (0, .ref (1002 + sb)), (1, .ref 0), (2, .ref 183)]) (v := (6 : Int32)) hO dL_law_1341 rfl (by decide) (Nat.le_of_ble_eq_true rfl) (fun _ => rfl) (fun x21 => ?_)
            refine S_ (R_goto (tgt := 18) hO dL_law_1344 (by decide)) ?_
            refine S_sub [1, 2, 3, 0] rfl ?_
            exact ih x21 s20
        · refine S_ (R_aload_n hO dL_law_364 rfl) ?_
          refine S_ (R_aload_n hO dL_law_365 rfl) ?_
          refine S_ (R_iload_n hO dL_law_366 rfl) ?_
          refine S_ (R_iconst (v := (1 : Int32)) hO dL_law_367 (by decide)) ?_
          refine S_ (R_iadd hO dL_law_368) ?_
          refine S_sld hO hL dL_law_369 ?_
          refine S_callVI (rest := []) hO dL_law_370 (cs_X7_feed (xs (m3 + (1 : Int32)).toNatClampNeg) s0) (by decide) lk_L_32 np_X7_feed (rc_0 rfl) rfl (Nat.le_of_ble_eq_true rfl) (fun x22 s23 => ?_)
          refine S_ (R_aload_n hO dL_law_373 rfl) ?_
          refine S_ (R_aload_n hO dL_law_374 rfl) ?_
          refine S_ (R_iload_n hO dL_law_375 rfl) ?_
          refine S_ (R_iconst (v := (1 : Int32)) hO dL_law_376 (by decide)) ?_
          refine S_ (R_iadd hO dL_law_377) ?_
          refine S_sld hO hL dL_law_378 ?_
          refine S_callVI (rest := [.int x22]) hO dL_law_379 (cs_X8_feed (xs (m3 + (1 : Int32)).toNatClampNeg) s23) (by decide) lk_L_35 np_X8_feed (rc_183 rfl) rfl (Nat.le_of_ble_eq_true rfl) (fun x24 s25 => ?_)
          refine S_icmp_eq (tgt := 1341) hO dL_law_382 (by decide) ?_ ?_
          · refine S_ (R_iconst (v := (0 : Int32)) hO dL_law_385 (by decide)) ?_
            exact S_lawret rfl hO hQ dL_law_386
          · refine S_iinc (L2 := fun x26 => [(3, .int x26), (0, .ref (1002 + sb)), (1, .ref 0), (2, .ref 183)]) (v := (6 : Int32)) hO dL_law_1341 rfl (by decide) (Nat.le_of_ble_eq_true rfl) (fun _ => rfl) (fun x26 => ?_)
            refine S_ (R_goto (tgt := 18) hO dL_law_1344 (by decide)) ?_
            refine S_sub [1, 2, 3, 0] rfl ?_
            exact ih x26 s25
        · refine S_ (R_aload_n hO dL_law_387 rfl) ?_
          refine S_callVI (rest := []) hO dL_law_388 (cs_X7_street s0) (by decide) lk_L_36 np_X7_street (rc_0 rfl) rfl (Nat.le_of_ble_eq_true rfl) (fun x27 s28 => ?_)
          refine S_ (R_aload_n hO dL_law_391 rfl) ?_
          refine S_callVI (rest := [.int x27]) hO dL_law_392 (cs_X8_street s28) (by decide) lk_L_40 np_X8_street (rc_183 rfl) rfl (Nat.le_of_ble_eq_true rfl) (fun x29 s30 => ?_)
          refine S_icmp_eq (tgt := 1341) hO dL_law_395 (by decide) ?_ ?_
          · refine S_ (R_iconst (v := (0 : Int32)) hO dL_law_398 (by decide)) ?_
            exact S_lawret rfl hO hQ dL_law_399
          · refine S_iinc (L2 := fun x31 => [(3, .int x31), (0, .ref (1002 + sb)), (1, .ref 0), (2, .ref 183)]) (v := (6 : Int32)) hO dL_law_1341 rfl (by decide) (Nat.le_of_ble_eq_true rfl) (fun _ => rfl) (fun x31 => ?_)
            refine S_ (R_goto (tgt := 18) hO dL_law_1344 (by decide)) ?_
            refine S_sub [1, 2, 3, 0] rfl ?_
            exact ih x31 s30
        · refine S_ (R_aload_n hO dL_law_400 rfl) ?_
          refine S_callVI (rest := []) hO dL_law_401 (cs_X7_fault s0) (by decide) lk_L_41 np_X7_fault (rc_0 rfl) rfl (Nat.le_of_ble_eq_true rfl) (fun x32 s33 => ?_)
          refine S_ (R_aload_n hO dL_law_404 rfl) ?_
          refine S_callVI (rest := [.int x32]) hO dL_law_405 (cs_X8_fault s33) (by decide) lk_L_44 np_X8_fault (rc_183 rfl) rfl (Nat.le_of_ble_eq_true rfl) (fun x34 s35 => ?_)
          refine S_icmp_eq (tgt := 1341) hO dL_law_408 (by decide) ?_ ?_
          · refine S_ (R_iconst (v := (0 : Int32)) hO dL_law_411 (by decide)) ?_
            exact S_lawret rfl hO hQ dL_law_412
          · refine S_iinc (L2 := fun x36 => [(3, .int x36), (0, .ref (1002 + sb)), (1, .ref 0), (2, .ref 183)]) (v := (6 : Int32)) hO dL_law_1341 rfl (by decide) (Nat.le_of_ble_eq_true rfl) (fun _ => rfl) (fun x36 => ?_)
            refine S_ (R_goto (tgt := 18) hO dL_law_1344 (by decide)) ?_
            refine S_sub [1, 2, 3, 0] rfl ?_
            exact ih x36 s35
        · refine S_ (R_aload_n hO dL_law_413 rfl) ?_
          refine S_callVI (rest := []) hO dL_law_414 (cs_X7_undo s0) (by decide) lk_L_45 np_X7_undo (rc_0 rfl) rfl (Nat.le_of_ble_eq_true rfl) (fun x37 s38 => ?_)
          refine S_ (R_aload_n hO dL_law_417 rfl) ?_
          refine S_callVI (rest := [.int x37]) hO dL_law_418 (cs_X8_undo s38) (by decide) lk_L_48 np_X8_undo (rc_183 rfl) rfl (Nat.le_of_ble_eq_true rfl) (fun x39 s40 => ?_)
          refine S_icmp_eq (tgt := 1341) hO dL_law_421 (by decide) ?_ ?_
          · refine S_ (R_iconst (v := (0 : Int32)) hO dL_law_424 (by decide)) ?_
            exact S_lawret rfl hO hQ dL_law_425
          · refine S_iinc (L2 := fun x41 => [(3, .int x41), (0, .ref (1002 + sb)), (1, .ref 0), (2, .ref 183)]) (v := (6 : Int32)) hO dL_law_1341 rfl (by decide) (Nat.le_of_ble_eq_true rfl) (fun _ => rfl) (fun x41 => ?_)
            refine S_ (R_goto (tgt := 18) hO dL_law_1344 (by decide)) ?_
            refine S_sub [1, 2, 3, 0] rfl ?_
            exact ih x41 s40
        · refine S_ (R_aload_n hO dL_law_426 rfl) ?_
          refine S_ (R_aload_n hO dL_law_427 rfl) ?_
          refine S_ (R_iload_n hO dL_law_428 rfl) ?_
          refine S_ (R_iconst (v := (1 : Int32)) hO dL_law_429 (by decide)) ?_
          refine S_ (R_iadd hO dL_law_430) ?_
          refine S_sld hO hL dL_law_431 ?_
          refine S_callVI (rest := []) hO dL_law_432 (cs_X7_hours (xs (m3 + (1 : Int32)).toNatClampNeg) s0) (by decide) lk_L_49 np_X7_hours (rc_0 rfl) rfl (Nat.le_of_ble_eq_true rfl) (fun x42 s43 => ?_)
          refine S_ (R_aload_n hO dL_law_435 rfl) ?_
          refine S_ (R_aload_n hO dL_law_436 rfl) ?_
          refine S_ (R_iload_n hO dL_law_437 rfl) ?_
          refine S_ (R_iconst (v := (1 : Int32)) hO dL_law_438 (by decide)) ?_
          refine S_ (R_iadd hO dL_law_439) ?_
          refine S_sld hO hL dL_law_440 ?_
          refine S_callVI (rest := [.int x42]) hO dL_law_441 (cs_X8_hours (xs (m3 + (1 : Int32)).toNatClampNeg) s43) (by decide) lk_L_52 np_X8_hours (rc_183 rfl) rfl (Nat.le_of_ble_eq_true rfl) (fun x44 s45 => ?_)
          refine S_icmp_eq (tgt := 1341) hO dL_law_444 (by decide) ?_ ?_
          · refine S_ (R_iconst (v := (0 : Int32)) hO dL_law_447 (by decide)) ?_
            exact S_lawret rfl hO hQ dL_law_448
          · refine S_iinc (L2 := fun x46 => [(3, .int x46), (0, .ref (1002 + sb)), (1, .ref 0), (2, .ref 183)]) (v := (6 : Int32)) hO dL_law_1341 rfl (by decide) (Nat.le_of_ble_eq_true rfl) (fun _ => rfl) (fun x46 => ?_)
            refine S_ (R_goto (tgt := 18) hO dL_law_1344 (by decide)) ?_
            refine S_sub [1, 2, 3, 0] rfl ?_
            exact ih x46 s45
        · refine S_ (R_aload_n hO dL_law_449 rfl) ?_
          refine S_ (R_aload_n hO dL_law_450 rfl) ?_
          refine S_ (R_iload_n hO dL_law_451 rfl) ?_
          refine S_ (R_iconst (v := (1 : Int32)) hO dL_law_452 (by decide)) ?_
          refine S_ (R_iadd hO dL_law_453) ?_
          refine S_sld hO hL dL_law_454 ?_
          refine S_callVI (rest := []) hO dL_law_455 (cs_X7_lash (xs (m3 + (1 : Int32)).toNatClampNeg) s0) (by decide) lk_L_53 np_X7_lash (rc_0 rfl) rfl (Nat.le_of_ble_eq_true rfl) (fun x47 s48 => ?_)
          refine S_ (R_aload_n hO dL_law_458 rfl) ?_
          refine S_ (R_aload_n hO dL_law_459 rfl) ?_
          refine S_ (R_iload_n hO dL_law_460 rfl) ?_
          refine S_ (R_iconst (v := (1 : Int32)) hO dL_law_461 (by decide)) ?_
          refine S_ (R_iadd hO dL_law_462) ?_
          refine S_sld hO hL dL_law_463 ?_
          refine S_callVI (rest := [.int x47]) hO dL_law_464 (cs_X8_lash (xs (m3 + (1 : Int32)).toNatClampNeg) s48) (by decide) lk_L_56 np_X8_lash (rc_183 rfl) rfl (Nat.le_of_ble_eq_true rfl) (fun x49 s50 => ?_)
          refine S_icmp_eq (tgt := 1341) hO dL_law_467 (by decide) ?_ ?_
          · refine S_ (R_iconst (v := (0 : Int32)) hO dL_law_470 (by decide)) ?_
            exact S_lawret rfl hO hQ dL_law_471
          · refine S_iinc (L2 := fun x51 => [(3, .int x51), (0, .ref (1002 + sb)), (1, .ref 0), (2, .ref 183)]) (v := (6 : Int32)) hO dL_law_1341 rfl (by decide) (Nat.le_of_ble_eq_true rfl) (fun _ => rfl) (fun x51 => ?_)
            refine S_ (R_goto (tgt := 18) hO dL_law_1344 (by decide)) ?_
            refine S_sub [1, 2, 3, 0] rfl ?_
            exact ih x51 s50
        · refine S_ (R_aload_n hO dL_law_472 rfl) ?_
          refine S_ (R_aload_n hO dL_law_473 rfl) ?_
          refine S_ (R_iload_n hO dL_law_474 rfl) ?_
          refine S_ (R_iconst (v := (1 : Int32)) hO dL_law_475 (by decide)) ?_
          refine S_ (R_iadd hO dL_law_476) ?_
          refine S_sld hO hL dL_law_477 ?_
          refine S_ (R_aload_n hO dL_law_478 rfl) ?_
          refine S_ (R_iload_n hO dL_law_479 rfl) ?_
          refine S_ (R_iconst (v := (2 : Int32)) hO dL_law_480 (by decide)) ?_
          refine S_ (R_iadd hO dL_law_481) ?_
          refine S_sld hO hL dL_law_482 ?_
          refine S_callVI (rest := []) hO dL_law_483 (cs_X7_touch (xs (m3 + (1 : Int32)).toNatClampNeg) (xs (m3 + (2 : Int32)).toNatClampNeg) s0) (by decide) lk_L_57 np_X7_touch (rc_0 rfl) rfl (Nat.le_of_ble_eq_true rfl) (fun x52 s53 => ?_)
          refine S_ (R_aload_n hO dL_law_486 rfl) ?_
          refine S_ (R_aload_n hO dL_law_487 rfl) ?_
          refine S_ (R_iload_n hO dL_law_488 rfl) ?_
          refine S_ (R_iconst (v := (1 : Int32)) hO dL_law_489 (by decide)) ?_
          refine S_ (R_iadd hO dL_law_490) ?_
          refine S_sld hO hL dL_law_491 ?_
          refine S_ (R_aload_n hO dL_law_492 rfl) ?_
          refine S_ (R_iload_n hO dL_law_493 rfl) ?_
          refine S_ (R_iconst (v := (2 : Int32)) hO dL_law_494 (by decide)) ?_
          refine S_ (R_iadd hO dL_law_495) ?_
          refine S_sld hO hL dL_law_496 ?_
          refine S_callVI (rest := [.int x52]) hO dL_law_497 (cs_X8_touch (xs (m3 + (1 : Int32)).toNatClampNeg) (xs (m3 + (2 : Int32)).toNatClampNeg) s53) (by decide) lk_L_61 np_X8_touch (rc_183 rfl) rfl (Nat.le_of_ble_eq_true rfl) (fun x54 s55 => ?_)
          refine S_icmp_eq (tgt := 1341) hO dL_law_500 (by decide) ?_ ?_
          · refine S_ (R_iconst (v := (0 : Int32)) hO dL_law_503 (by decide)) ?_
            exact S_lawret rfl hO hQ dL_law_504
          · refine S_iinc (L2 := fun x56 => [(3, .int x56), (0, .ref (1002 + sb)), (1, .ref 0), (2, .ref 183)]) (v := (6 : Int32)) hO dL_law_1341 rfl (by decide) (Nat.le_of_ble_eq_true rfl) (fun _ => rfl) (fun x56 => ?_)
            refine S_ (R_goto (tgt := 18) hO dL_law_1344 (by decide)) ?_
            refine S_sub [1, 2, 3, 0] rfl ?_
            exact ih x56 s55
        · refine S_ (R_aload_n hO dL_law_505 rfl) ?_
          refine S_ (R_aload_n hO dL_law_506 rfl) ?_
          refine S_ (R_iload_n hO dL_law_507 rfl) ?_
          refine S_ (R_iconst (v := (1 : Int32)) hO dL_law_508 (by decide)) ?_
          refine S_ (R_iadd hO dL_law_509) ?_
          refine S_sld hO hL dL_law_510 ?_
          refine S_callVI (rest := []) hO dL_law_511 (cs_X7_putUp (xs (m3 + (1 : Int32)).toNatClampNeg) s0) (by decide) lk_L_62 np_X7_putUp (rc_0 rfl) rfl (Nat.le_of_ble_eq_true rfl) (fun x57 s58 => ?_)
          refine S_ (R_aload_n hO dL_law_514 rfl) ?_
          refine S_ (R_aload_n hO dL_law_515 rfl) ?_
          refine S_ (R_iload_n hO dL_law_516 rfl) ?_
          refine S_ (R_iconst (v := (1 : Int32)) hO dL_law_517 (by decide)) ?_
          refine S_ (R_iadd hO dL_law_518) ?_
          refine S_sld hO hL dL_law_519 ?_
          refine S_callVI (rest := [.int x57]) hO dL_law_520 (cs_X8_putUp (xs (m3 + (1 : Int32)).toNatClampNeg) s58) (by decide) lk_L_65 np_X8_putUp (rc_183 rfl) rfl (Nat.le_of_ble_eq_true rfl) (fun x59 s60 => ?_)
          refine S_icmp_eq (tgt := 1341) hO dL_law_523 (by decide) ?_ ?_
          · refine S_ (R_iconst (v := (0 : Int32)) hO dL_law_526 (by decide)) ?_
            exact S_lawret rfl hO hQ dL_law_527
          · refine S_iinc (L2 := fun x61 => [(3, .int x61), (0, .ref (1002 + sb)), (1, .ref 0), (2, .ref 183)]) (v := (6 : Int32)) hO dL_law_1341 rfl (by decide) (Nat.le_of_ble_eq_true rfl) (fun _ => rfl) (fun x61 => ?_)
            refine S_ (R_goto (tgt := 18) hO dL_law_1344 (by decide)) ?_
            refine S_sub [1, 2, 3, 0] rfl ?_
            exact ih x61 s60
        · refine S_ (R_aload_n hO dL_law_528 rfl) ?_
          refine S_ (R_aload_n hO dL_law_529 rfl) ?_
          refine S_ (R_iload_n hO dL_law_530 rfl) ?_
          refine S_ (R_iconst (v := (1 : Int32)) hO dL_law_531 (by decide)) ?_
          refine S_ (R_iadd hO dL_law_532) ?_
          refine S_sld hO hL dL_law_533 ?_
          refine S_ (R_aload_n hO dL_law_534 rfl) ?_
          refine S_ (R_iload_n hO dL_law_535 rfl) ?_
          refine S_ (R_iconst (v := (2 : Int32)) hO dL_law_536 (by decide)) ?_
          refine S_ (R_iadd hO dL_law_537) ?_
          refine S_sld hO hL dL_law_538 ?_
          refine S_callVI (rest := []) hO dL_law_539 (cs_X7_house (xs (m3 + (1 : Int32)).toNatClampNeg) (xs (m3 + (2 : Int32)).toNatClampNeg) s0) (by decide) lk_L_66 np_X7_house (rc_0 rfl) rfl (Nat.le_of_ble_eq_true rfl) (fun x62 s63 => ?_)
          refine S_ (R_aload_n hO dL_law_542 rfl) ?_
          refine S_ (R_aload_n hO dL_law_543 rfl) ?_
          refine S_ (R_iload_n hO dL_law_544 rfl) ?_
          refine S_ (R_iconst (v := (1 : Int32)) hO dL_law_545 (by decide)) ?_
          refine S_ (R_iadd hO dL_law_546) ?_
          refine S_sld hO hL dL_law_547 ?_
          refine S_ (R_aload_n hO dL_law_548 rfl) ?_
          refine S_ (R_iload_n hO dL_law_549 rfl) ?_
          refine S_ (R_iconst (v := (2 : Int32)) hO dL_law_550 (by decide)) ?_
          refine S_ (R_iadd hO dL_law_551) ?_
          refine S_sld hO hL dL_law_552 ?_
          refine S_callVI (rest := [.int x62]) hO dL_law_553 (cs_X8_house (xs (m3 + (1 : Int32)).toNatClampNeg) (xs (m3 + (2 : Int32)).toNatClampNeg) s63) (by decide) lk_L_69 np_X8_house (rc_183 rfl) rfl (Nat.le_of_ble_eq_true rfl) (fun x64 s65 => ?_)
          refine S_icmp_eq (tgt := 1341) hO dL_law_556 (by decide) ?_ ?_
          · refine S_ (R_iconst (v := (0 : Int32)) hO dL_law_559 (by decide)) ?_
            exact S_lawret rfl hO hQ dL_law_560
          · refine S_iinc (L2 := fun x66 => [(3, .int x66), (0, .ref (1002 + sb)), (1, .ref 0), (2, .ref 183)]) (v := (6 : Int32)) hO dL_law_1341 rfl (by decide) (Nat.le_of_ble_eq_true rfl) (fun _ => rfl) (fun x66 => ?_)
            refine S_ (R_goto (tgt := 18) hO dL_law_1344 (by decide)) ?_
            refine S_sub [1, 2, 3, 0] rfl ?_
            exact ih x66 s65
        · refine S_ (R_aload_n hO dL_law_561 rfl) ?_
          refine S_ (R_aload_n hO dL_law_562 rfl) ?_
          refine S_ (R_iload_n hO dL_law_563 rfl) ?_
          refine S_ (R_iconst (v := (1 : Int32)) hO dL_law_564 (by decide)) ?_
          refine S_ (R_iadd hO dL_law_565) ?_
          refine S_sld hO hL dL_law_566 ?_
          refine S_callVI (rest := []) hO dL_law_567 (cs_X7_stand (xs (m3 + (1 : Int32)).toNatClampNeg) s0) (by decide) lk_L_70 np_X7_stand (rc_0 rfl) rfl (Nat.le_of_ble_eq_true rfl) (fun x67 s68 => ?_)
          refine S_ (R_aload_n hO dL_law_570 rfl) ?_
          refine S_ (R_aload_n hO dL_law_571 rfl) ?_
          refine S_ (R_iload_n hO dL_law_572 rfl) ?_
          refine S_ (R_iconst (v := (1 : Int32)) hO dL_law_573 (by decide)) ?_
          refine S_ (R_iadd hO dL_law_574) ?_
          refine S_sld hO hL dL_law_575 ?_
          refine S_callVI (rest := [.int x67]) hO dL_law_576 (cs_X8_stand (xs (m3 + (1 : Int32)).toNatClampNeg) s68) (by decide) lk_L_73 np_X8_stand (rc_183 rfl) rfl (Nat.le_of_ble_eq_true rfl) (fun x69 s70 => ?_)
          refine S_icmp_eq (tgt := 1341) hO dL_law_579 (by decide) ?_ ?_
          · refine S_ (R_iconst (v := (0 : Int32)) hO dL_law_582 (by decide)) ?_
            exact S_lawret rfl hO hQ dL_law_583
          · refine S_iinc (L2 := fun x71 => [(3, .int x71), (0, .ref (1002 + sb)), (1, .ref 0), (2, .ref 183)]) (v := (6 : Int32)) hO dL_law_1341 rfl (by decide) (Nat.le_of_ble_eq_true rfl) (fun _ => rfl) (fun x71 => ?_)
            refine S_ (R_goto (tgt := 18) hO dL_law_1344 (by decide)) ?_
            refine S_sub [1, 2, 3, 0] rfl ?_
            exact ih x71 s70
        · refine S_ (R_aload_n hO dL_law_584 rfl) ?_
          refine S_ (R_aload_n hO dL_law_585 rfl) ?_
          refine S_ (R_iload_n hO dL_law_586 rfl) ?_
          refine S_ (R_iconst (v := (1 : Int32)) hO dL_law_587 (by decide)) ?_
          refine S_ (R_iadd hO dL_law_588) ?_
          refine S_sld hO hL dL_law_589 ?_
          refine S_ (R_aload_n hO dL_law_590 rfl) ?_
          refine S_ (R_iload_n hO dL_law_591 rfl) ?_
          refine S_ (R_iconst (v := (2 : Int32)) hO dL_law_592 (by decide)) ?_
          refine S_ (R_iadd hO dL_law_593) ?_
          refine S_sld hO hL dL_law_594 ?_
          refine S_callVI (rest := []) hO dL_law_595 (cs_X7_ahead (xs (m3 + (1 : Int32)).toNatClampNeg) (xs (m3 + (2 : Int32)).toNatClampNeg) s0) (by decide) lk_L_74 np_X7_ahead (rc_0 rfl) rfl (Nat.le_of_ble_eq_true rfl) (fun x72 s73 => ?_)
          refine S_ (R_aload_n hO dL_law_598 rfl) ?_
          refine S_ (R_aload_n hO dL_law_599 rfl) ?_
          refine S_ (R_iload_n hO dL_law_600 rfl) ?_
          refine S_ (R_iconst (v := (1 : Int32)) hO dL_law_601 (by decide)) ?_
          refine S_ (R_iadd hO dL_law_602) ?_
          refine S_sld hO hL dL_law_603 ?_
          refine S_ (R_aload_n hO dL_law_604 rfl) ?_
          refine S_ (R_iload_n hO dL_law_605 rfl) ?_
          refine S_ (R_iconst (v := (2 : Int32)) hO dL_law_606 (by decide)) ?_
          refine S_ (R_iadd hO dL_law_607) ?_
          refine S_sld hO hL dL_law_608 ?_
          refine S_callVI (rest := [.int x72]) hO dL_law_609 (cs_X8_ahead (xs (m3 + (1 : Int32)).toNatClampNeg) (xs (m3 + (2 : Int32)).toNatClampNeg) s73) (by decide) lk_L_77 np_X8_ahead (rc_183 rfl) rfl (Nat.le_of_ble_eq_true rfl) (fun x74 s75 => ?_)
          refine S_icmp_eq (tgt := 1341) hO dL_law_612 (by decide) ?_ ?_
          · refine S_ (R_iconst (v := (0 : Int32)) hO dL_law_615 (by decide)) ?_
            exact S_lawret rfl hO hQ dL_law_616
          · refine S_iinc (L2 := fun x76 => [(3, .int x76), (0, .ref (1002 + sb)), (1, .ref 0), (2, .ref 183)]) (v := (6 : Int32)) hO dL_law_1341 rfl (by decide) (Nat.le_of_ble_eq_true rfl) (fun _ => rfl) (fun x76 => ?_)
            refine S_ (R_goto (tgt := 18) hO dL_law_1344 (by decide)) ?_
            refine S_sub [1, 2, 3, 0] rfl ?_
            exact ih x76 s75
        · refine S_ (R_aload_n hO dL_law_617 rfl) ?_
          refine S_ (R_aload_n hO dL_law_618 rfl) ?_
          refine S_ (R_iload_n hO dL_law_619 rfl) ?_
          refine S_ (R_iconst (v := (1 : Int32)) hO dL_law_620 (by decide)) ?_
          refine S_ (R_iadd hO dL_law_621) ?_
          refine S_sld hO hL dL_law_622 ?_
          refine S_ (R_aload_n hO dL_law_623 rfl) ?_
          refine S_ (R_iload_n hO dL_law_624 rfl) ?_
          refine S_ (R_iconst (v := (2 : Int32)) hO dL_law_625 (by decide)) ?_
          refine S_ (R_iadd hO dL_law_626) ?_
          refine S_sld hO hL dL_law_627 ?_
          refine S_callVI (rest := []) hO dL_law_628 (cs_X7_when (xs (m3 + (1 : Int32)).toNatClampNeg) (xs (m3 + (2 : Int32)).toNatClampNeg) s0) (by decide) lk_L_78 np_X7_when (rc_0 rfl) rfl (Nat.le_of_ble_eq_true rfl) (fun x77 s78 => ?_)
          refine S_ (R_aload_n hO dL_law_631 rfl) ?_
          refine S_ (R_aload_n hO dL_law_632 rfl) ?_
          refine S_ (R_iload_n hO dL_law_633 rfl) ?_
          refine S_ (R_iconst (v := (1 : Int32)) hO dL_law_634 (by decide)) ?_
          refine S_ (R_iadd hO dL_law_635) ?_
          refine S_sld hO hL dL_law_636 ?_
          refine S_ (R_aload_n hO dL_law_637 rfl) ?_
          refine S_ (R_iload_n hO dL_law_638 rfl) ?_
          refine S_ (R_iconst (v := (2 : Int32)) hO dL_law_639 (by decide)) ?_
          refine S_ (R_iadd hO dL_law_640) ?_
          refine S_sld hO hL dL_law_641 ?_
          refine S_callVI (rest := [.int x77]) hO dL_law_642 (cs_X8_when (xs (m3 + (1 : Int32)).toNatClampNeg) (xs (m3 + (2 : Int32)).toNatClampNeg) s78) (by decide) lk_L_81 np_X8_when (rc_183 rfl) rfl (Nat.le_of_ble_eq_true rfl) (fun x79 s80 => ?_)
          refine S_icmp_eq (tgt := 1341) hO dL_law_645 (by decide) ?_ ?_
          · refine S_ (R_iconst (v := (0 : Int32)) hO dL_law_648 (by decide)) ?_
            exact S_lawret rfl hO hQ dL_law_649
          · refine S_iinc (L2 := fun x81 => [(3, .int x81), (0, .ref (1002 + sb)), (1, .ref 0), (2, .ref 183)]) (v := (6 : Int32)) hO dL_law_1341 rfl (by decide) (Nat.le_of_ble_eq_true rfl) (fun _ => rfl) (fun x81 => ?_)
            refine S_ (R_goto (tgt := 18) hO dL_law_1344 (by decide)) ?_
            refine S_sub [1, 2, 3, 0] rfl ?_
            exact ih x81 s80
        · refine S_ (R_aload_n hO dL_law_650 rfl) ?_
          refine S_ (R_aload_n hO dL_law_651 rfl) ?_
          refine S_ (R_iload_n hO dL_law_652 rfl) ?_
          refine S_ (R_iconst (v := (1 : Int32)) hO dL_law_653 (by decide)) ?_
          refine S_ (R_iadd hO dL_law_654) ?_
          refine S_sld hO hL dL_law_655 ?_
          refine S_callVI (rest := []) hO dL_law_656 (cs_X7_first (xs (m3 + (1 : Int32)).toNatClampNeg) s0) (by decide) lk_L_82 np_X7_first (rc_0 rfl) rfl (Nat.le_of_ble_eq_true rfl) (fun x82 s83 => ?_)
          refine S_ (R_aload_n hO dL_law_659 rfl) ?_
          refine S_ (R_aload_n hO dL_law_660 rfl) ?_
          refine S_ (R_iload_n hO dL_law_661 rfl) ?_
          refine S_ (R_iconst (v := (1 : Int32)) hO dL_law_662 (by decide)) ?_
          refine S_ (R_iadd hO dL_law_663) ?_
          refine S_sld hO hL dL_law_664 ?_
          refine S_callVI (rest := [.int x82]) hO dL_law_665 (cs_X8_first (xs (m3 + (1 : Int32)).toNatClampNeg) s83) (by decide) lk_L_85 np_X8_first (rc_183 rfl) rfl (Nat.le_of_ble_eq_true rfl) (fun x84 s85 => ?_)
          refine S_icmp_eq (tgt := 1341) hO dL_law_668 (by decide) ?_ ?_
          · refine S_ (R_iconst (v := (0 : Int32)) hO dL_law_671 (by decide)) ?_
            exact S_lawret rfl hO hQ dL_law_672
          · refine S_iinc (L2 := fun x86 => [(3, .int x86), (0, .ref (1002 + sb)), (1, .ref 0), (2, .ref 183)]) (v := (6 : Int32)) hO dL_law_1341 rfl (by decide) (Nat.le_of_ble_eq_true rfl) (fun _ => rfl) (fun x86 => ?_)
            refine S_ (R_goto (tgt := 18) hO dL_law_1344 (by decide)) ?_
            refine S_sub [1, 2, 3, 0] rfl ?_
            exact ih x86 s85
        · refine S_ (R_aload_n hO dL_law_673 rfl) ?_
          refine S_ (R_aload_n hO dL_law_674 rfl) ?_
          refine S_ (R_iload_n hO dL_law_675 rfl) ?_
          refine S_ (R_iconst (v := (1 : Int32)) hO dL_law_676 (by decide)) ?_
          refine S_ (R_iadd hO dL_law_677) ?_
          refine S_sld hO hL dL_law_678 ?_
          refine S_callVI (rest := []) hO dL_law_679 (cs_X7_left (xs (m3 + (1 : Int32)).toNatClampNeg) s0) (by decide) lk_L_86 np_X7_left (rc_0 rfl) rfl (Nat.le_of_ble_eq_true rfl) (fun x87 s88 => ?_)
          refine S_ (R_aload_n hO dL_law_682 rfl) ?_
          refine S_ (R_aload_n hO dL_law_683 rfl) ?_
          refine S_ (R_iload_n hO dL_law_684 rfl) ?_
          refine S_ (R_iconst (v := (1 : Int32)) hO dL_law_685 (by decide)) ?_
          refine S_ (R_iadd hO dL_law_686) ?_
          refine S_sld hO hL dL_law_687 ?_
          refine S_callVI (rest := [.int x87]) hO dL_law_688 (cs_X8_left (xs (m3 + (1 : Int32)).toNatClampNeg) s88) (by decide) lk_L_89 np_X8_left (rc_183 rfl) rfl (Nat.le_of_ble_eq_true rfl) (fun x89 s90 => ?_)
          refine S_icmp_eq (tgt := 1341) hO dL_law_691 (by decide) ?_ ?_
          · refine S_ (R_iconst (v := (0 : Int32)) hO dL_law_694 (by decide)) ?_
            exact S_lawret rfl hO hQ dL_law_695
          · refine S_iinc (L2 := fun x91 => [(3, .int x91), (0, .ref (1002 + sb)), (1, .ref 0), (2, .ref 183)]) (v := (6 : Int32)) hO dL_law_1341 rfl (by decide) (Nat.le_of_ble_eq_true rfl) (fun _ => rfl) (fun x91 => ?_)
            refine S_ (R_goto (tgt := 18) hO dL_law_1344 (by decide)) ?_
            refine S_sub [1, 2, 3, 0] rfl ?_
            exact ih x91 s90
        · refine S_ (R_aload_n hO dL_law_696 rfl) ?_
          refine S_ (R_aload_n hO dL_law_697 rfl) ?_
          refine S_ (R_iload_n hO dL_law_698 rfl) ?_
          refine S_ (R_iconst (v := (1 : Int32)) hO dL_law_699 (by decide)) ?_
          refine S_ (R_iadd hO dL_law_700) ?_
          refine S_sld hO hL dL_law_701 ?_
          refine S_ (R_aload_n hO dL_law_702 rfl) ?_
          refine S_ (R_iload_n hO dL_law_703 rfl) ?_
          refine S_ (R_iconst (v := (2 : Int32)) hO dL_law_704 (by decide)) ?_
          refine S_ (R_iadd hO dL_law_705) ?_
          refine S_sld hO hL dL_law_706 ?_
          refine S_ (R_aload_n hO dL_law_707 rfl) ?_
          refine S_ (R_iload_n hO dL_law_708 rfl) ?_
          refine S_ (R_iconst (v := (3 : Int32)) hO dL_law_709 (by decide)) ?_
          refine S_ (R_iadd hO dL_law_710) ?_
          refine S_sld hO hL dL_law_711 ?_
          refine S_callVI (rest := []) hO dL_law_712 (cs_X7_round (xs (m3 + (1 : Int32)).toNatClampNeg) (xs (m3 + (2 : Int32)).toNatClampNeg) (xs (m3 + (3 : Int32)).toNatClampNeg) s0) (by decide) lk_L_90 np_X7_round (rc_0 rfl) rfl (Nat.le_of_ble_eq_true rfl) (fun x92 s93 => ?_)
          refine S_ (R_aload_n hO dL_law_715 rfl) ?_
          refine S_ (R_aload_n hO dL_law_716 rfl) ?_
          refine S_ (R_iload_n hO dL_law_717 rfl) ?_
          refine S_ (R_iconst (v := (1 : Int32)) hO dL_law_718 (by decide)) ?_
          refine S_ (R_iadd hO dL_law_719) ?_
          refine S_sld hO hL dL_law_720 ?_
          refine S_ (R_aload_n hO dL_law_721 rfl) ?_
          refine S_ (R_iload_n hO dL_law_722 rfl) ?_
          refine S_ (R_iconst (v := (2 : Int32)) hO dL_law_723 (by decide)) ?_
          refine S_ (R_iadd hO dL_law_724) ?_
          refine S_sld hO hL dL_law_725 ?_
          refine S_ (R_aload_n hO dL_law_726 rfl) ?_
          refine S_ (R_iload_n hO dL_law_727 rfl) ?_
          refine S_ (R_iconst (v := (3 : Int32)) hO dL_law_728 (by decide)) ?_
          refine S_ (R_iadd hO dL_law_729) ?_
          refine S_sld hO hL dL_law_730 ?_
          refine S_callVI (rest := [.int x92]) hO dL_law_731 (cs_X8_round (xs (m3 + (1 : Int32)).toNatClampNeg) (xs (m3 + (2 : Int32)).toNatClampNeg) (xs (m3 + (3 : Int32)).toNatClampNeg) s93) (by decide) lk_L_93 np_X8_round (rc_183 rfl) rfl (Nat.le_of_ble_eq_true rfl) (fun x94 s95 => ?_)
          refine S_icmp_eq (tgt := 1341) hO dL_law_734 (by decide) ?_ ?_
          · refine S_ (R_iconst (v := (0 : Int32)) hO dL_law_737 (by decide)) ?_
            exact S_lawret rfl hO hQ dL_law_738
          · refine S_iinc (L2 := fun x96 => [(3, .int x96), (0, .ref (1002 + sb)), (1, .ref 0), (2, .ref 183)]) (v := (6 : Int32)) hO dL_law_1341 rfl (by decide) (Nat.le_of_ble_eq_true rfl) (fun _ => rfl) (fun x96 => ?_)
            refine S_ (R_goto (tgt := 18) hO dL_law_1344 (by decide)) ?_
            refine S_sub [1, 2, 3, 0] rfl ?_
            exact ih x96 s95
        · refine S_ (R_aload_n hO dL_law_739 rfl) ?_
          refine S_ (R_aload_n hO dL_law_740 rfl) ?_
          refine S_ (R_iload_n hO dL_law_741 rfl) ?_
          refine S_ (R_iconst (v := (1 : Int32)) hO dL_law_742 (by decide)) ?_
          refine S_ (R_iadd hO dL_law_743) ?_
          refine S_sld hO hL dL_law_744 ?_
          refine S_ (R_aload_n hO dL_law_745 rfl) ?_
          refine S_ (R_iload_n hO dL_law_746 rfl) ?_
          refine S_ (R_iconst (v := (2 : Int32)) hO dL_law_747 (by decide)) ?_
          refine S_ (R_iadd hO dL_law_748) ?_
          refine S_sld hO hL dL_law_749 ?_
          refine S_callVI (rest := []) hO dL_law_750 (cs_X7_walls (xs (m3 + (1 : Int32)).toNatClampNeg) (xs (m3 + (2 : Int32)).toNatClampNeg) s0) (by decide) lk_L_94 np_X7_walls (rc_0 rfl) rfl (Nat.le_of_ble_eq_true rfl) (fun x97 s98 => ?_)
          refine S_ (R_aload_n hO dL_law_753 rfl) ?_
          refine S_ (R_aload_n hO dL_law_754 rfl) ?_
          refine S_ (R_iload_n hO dL_law_755 rfl) ?_
          refine S_ (R_iconst (v := (1 : Int32)) hO dL_law_756 (by decide)) ?_
          refine S_ (R_iadd hO dL_law_757) ?_
          refine S_sld hO hL dL_law_758 ?_
          refine S_ (R_aload_n hO dL_law_759 rfl) ?_
          refine S_ (R_iload_n hO dL_law_760 rfl) ?_
          refine S_ (R_iconst (v := (2 : Int32)) hO dL_law_761 (by decide)) ?_
          refine S_ (R_iadd hO dL_law_762) ?_
          refine S_sld hO hL dL_law_763 ?_
          refine S_callVI (rest := [.int x97]) hO dL_law_764 (cs_X8_walls (xs (m3 + (1 : Int32)).toNatClampNeg) (xs (m3 + (2 : Int32)).toNatClampNeg) s98) (by decide) lk_L_97 np_X8_walls (rc_183 rfl) rfl (Nat.le_of_ble_eq_true rfl) (fun x99 s100 => ?_)
          refine S_icmp_eq (tgt := 1341) hO dL_law_767 (by decide) ?_ ?_
          · refine S_ (R_iconst (v := (0 : Int32)) hO dL_law_770 (by decide)) ?_
            exact S_lawret rfl hO hQ dL_law_771
          · refine S_iinc (L2 := fun x101 => [(3, .int x101), (0, .ref (1002 + sb)), (1, .ref 0), (2, .ref 183)]) (v := (6 : Int32)) hO dL_law_1341 rfl (by decide) (Nat.le_of_ble_eq_true rfl) (fun _ => rfl) (fun x101 => ?_)
            refine S_ (R_goto (tgt := 18) hO dL_law_1344 (by decide)) ?_
            refine S_sub [1, 2, 3, 0] rfl ?_
            exact ih x101 s100
        · refine S_ (R_aload_n hO dL_law_772 rfl) ?_
          refine S_ (R_aload_n hO dL_law_773 rfl) ?_
          refine S_ (R_iload_n hO dL_law_774 rfl) ?_
          refine S_ (R_iconst (v := (1 : Int32)) hO dL_law_775 (by decide)) ?_
          refine S_ (R_iadd hO dL_law_776) ?_
          refine S_sld hO hL dL_law_777 ?_
          refine S_ (R_aload_n hO dL_law_778 rfl) ?_
          refine S_ (R_iload_n hO dL_law_779 rfl) ?_
          refine S_ (R_iconst (v := (2 : Int32)) hO dL_law_780 (by decide)) ?_
          refine S_ (R_iadd hO dL_law_781) ?_
          refine S_sld hO hL dL_law_782 ?_
          refine S_callVI (rest := []) hO dL_law_783 (cs_X7_steady (xs (m3 + (1 : Int32)).toNatClampNeg) (xs (m3 + (2 : Int32)).toNatClampNeg) s0) (by decide) lk_L_98 np_X7_steady (rc_0 rfl) rfl (Nat.le_of_ble_eq_true rfl) (fun x102 s103 => ?_)
          refine S_ (R_aload_n hO dL_law_786 rfl) ?_
          refine S_ (R_aload_n hO dL_law_787 rfl) ?_
          refine S_ (R_iload_n hO dL_law_788 rfl) ?_
          refine S_ (R_iconst (v := (1 : Int32)) hO dL_law_789 (by decide)) ?_
          refine S_ (R_iadd hO dL_law_790) ?_
          refine S_sld hO hL dL_law_791 ?_
          refine S_ (R_aload_n hO dL_law_792 rfl) ?_
          refine S_ (R_iload_n hO dL_law_793 rfl) ?_
          refine S_ (R_iconst (v := (2 : Int32)) hO dL_law_794 (by decide)) ?_
          refine S_ (R_iadd hO dL_law_795) ?_
          refine S_sld hO hL dL_law_796 ?_
          refine S_callVI (rest := [.int x102]) hO dL_law_797 (cs_X8_steady (xs (m3 + (1 : Int32)).toNatClampNeg) (xs (m3 + (2 : Int32)).toNatClampNeg) s103) (by decide) lk_L_101 np_X8_steady (rc_183 rfl) rfl (Nat.le_of_ble_eq_true rfl) (fun x104 s105 => ?_)
          refine S_icmp_eq (tgt := 1341) hO dL_law_800 (by decide) ?_ ?_
          · refine S_ (R_iconst (v := (0 : Int32)) hO dL_law_803 (by decide)) ?_
            exact S_lawret rfl hO hQ dL_law_804
          · refine S_iinc (L2 := fun x106 => [(3, .int x106), (0, .ref (1002 + sb)), (1, .ref 0), (2, .ref 183)]) (v := (6 : Int32)) hO dL_law_1341 rfl (by decide) (Nat.le_of_ble_eq_true rfl) (fun _ => rfl) (fun x106 => ?_)
            refine S_ (R_goto (tgt := 18) hO dL_law_1344 (by decide)) ?_
            refine S_sub [1, 2, 3, 0] rfl ?_
            exact ih x106 s105
        · refine S_ (R_aload_n hO dL_law_805 rfl) ?_
          refine S_ (R_aload_n hO dL_law_806 rfl) ?_
          refine S_ (R_iload_n hO dL_law_807 rfl) ?_
          refine S_ (R_iconst (v := (1 : Int32)) hO dL_law_808 (by decide)) ?_
          refine S_ (R_iadd hO dL_law_809) ?_
          refine S_sld hO hL dL_law_810 ?_
          refine S_ (R_aload_n hO dL_law_811 rfl) ?_
          refine S_ (R_iload_n hO dL_law_812 rfl) ?_
          refine S_ (R_iconst (v := (2 : Int32)) hO dL_law_813 (by decide)) ?_
          refine S_ (R_iadd hO dL_law_814) ?_
          refine S_sld hO hL dL_law_815 ?_
          refine S_callVI (rest := []) hO dL_law_816 (cs_X7_boys (xs (m3 + (1 : Int32)).toNatClampNeg) (xs (m3 + (2 : Int32)).toNatClampNeg) s0) (by decide) lk_L_102 np_X7_boys (rc_0 rfl) rfl (Nat.le_of_ble_eq_true rfl) (fun x107 s108 => ?_)
          refine S_ (R_aload_n hO dL_law_819 rfl) ?_
          refine S_ (R_aload_n hO dL_law_820 rfl) ?_
          refine S_ (R_iload_n hO dL_law_821 rfl) ?_
          refine S_ (R_iconst (v := (1 : Int32)) hO dL_law_822 (by decide)) ?_
          refine S_ (R_iadd hO dL_law_823) ?_
          refine S_sld hO hL dL_law_824 ?_
          refine S_ (R_aload_n hO dL_law_825 rfl) ?_
          refine S_ (R_iload_n hO dL_law_826 rfl) ?_
          refine S_ (R_iconst (v := (2 : Int32)) hO dL_law_827 (by decide)) ?_
          refine S_ (R_iadd hO dL_law_828) ?_
          refine S_sld hO hL dL_law_829 ?_
          refine S_callVI (rest := [.int x107]) hO dL_law_830 (cs_X8_boys (xs (m3 + (1 : Int32)).toNatClampNeg) (xs (m3 + (2 : Int32)).toNatClampNeg) s108) (by decide) lk_L_105 np_X8_boys (rc_183 rfl) rfl (Nat.le_of_ble_eq_true rfl) (fun x109 s110 => ?_)
          refine S_icmp_eq (tgt := 1341) hO dL_law_833 (by decide) ?_ ?_
          · refine S_ (R_iconst (v := (0 : Int32)) hO dL_law_836 (by decide)) ?_
            exact S_lawret rfl hO hQ dL_law_837
          · refine S_iinc (L2 := fun x111 => [(3, .int x111), (0, .ref (1002 + sb)), (1, .ref 0), (2, .ref 183)]) (v := (6 : Int32)) hO dL_law_1341 rfl (by decide) (Nat.le_of_ble_eq_true rfl) (fun _ => rfl) (fun x111 => ?_)
            refine S_ (R_goto (tgt := 18) hO dL_law_1344 (by decide)) ?_
            refine S_sub [1, 2, 3, 0] rfl ?_
            exact ih x111 s110
        · refine S_ (R_aload_n hO dL_law_838 rfl) ?_
          refine S_ (R_aload_n hO dL_law_839 rfl) ?_
          refine S_ (R_iload_n hO dL_law_840 rfl) ?_
          refine S_ (R_iconst (v := (1 : Int32)) hO dL_law_841 (by decide)) ?_
          refine S_ (R_iadd hO dL_law_842) ?_
          refine S_sld hO hL dL_law_843 ?_
          refine S_ (R_aload_n hO dL_law_844 rfl) ?_
          refine S_ (R_iload_n hO dL_law_845 rfl) ?_
          refine S_ (R_iconst (v := (2 : Int32)) hO dL_law_846 (by decide)) ?_
          refine S_ (R_iadd hO dL_law_847) ?_
          refine S_sld hO hL dL_law_848 ?_
          refine S_callVI (rest := []) hO dL_law_849 (cs_X7_string (xs (m3 + (1 : Int32)).toNatClampNeg) (xs (m3 + (2 : Int32)).toNatClampNeg) s0) (by decide) lk_L_106 np_X7_string (rc_0 rfl) rfl (Nat.le_of_ble_eq_true rfl) (fun x112 s113 => ?_)
          refine S_ (R_aload_n hO dL_law_852 rfl) ?_
          refine S_ (R_aload_n hO dL_law_853 rfl) ?_
          refine S_ (R_iload_n hO dL_law_854 rfl) ?_
          refine S_ (R_iconst (v := (1 : Int32)) hO dL_law_855 (by decide)) ?_
          refine S_ (R_iadd hO dL_law_856) ?_
          refine S_sld hO hL dL_law_857 ?_
          refine S_ (R_aload_n hO dL_law_858 rfl) ?_
          refine S_ (R_iload_n hO dL_law_859 rfl) ?_
          refine S_ (R_iconst (v := (2 : Int32)) hO dL_law_860 (by decide)) ?_
          refine S_ (R_iadd hO dL_law_861) ?_
          refine S_sld hO hL dL_law_862 ?_
          refine S_callVI (rest := [.int x112]) hO dL_law_863 (cs_X8_string (xs (m3 + (1 : Int32)).toNatClampNeg) (xs (m3 + (2 : Int32)).toNatClampNeg) s113) (by decide) lk_L_109 np_X8_string (rc_183 rfl) rfl (Nat.le_of_ble_eq_true rfl) (fun x114 s115 => ?_)
          refine S_icmp_eq (tgt := 1341) hO dL_law_866 (by decide) ?_ ?_
          · refine S_ (R_iconst (v := (0 : Int32)) hO dL_law_869 (by decide)) ?_
            exact S_lawret rfl hO hQ dL_law_870
          · refine S_iinc (L2 := fun x116 => [(3, .int x116), (0, .ref (1002 + sb)), (1, .ref 0), (2, .ref 183)]) (v := (6 : Int32)) hO dL_law_1341 rfl (by decide) (Nat.le_of_ble_eq_true rfl) (fun _ => rfl) (fun x116 => ?_)
            refine S_ (R_goto (tgt := 18) hO dL_law_1344 (by decide)) ?_
            refine S_sub [1, 2, 3, 0] rfl ?_
            exact ih x116 s115
        · refine S_ (R_aload_n hO dL_law_871 rfl) ?_
          refine S_ (R_aload_n hO dL_law_872 rfl) ?_
          refine S_ (R_iload_n hO dL_law_873 rfl) ?_
          refine S_ (R_iconst (v := (1 : Int32)) hO dL_law_874 (by decide)) ?_
          refine S_ (R_iadd hO dL_law_875) ?_
          refine S_sld hO hL dL_law_876 ?_
          refine S_ (R_aload_n hO dL_law_877 rfl) ?_
          refine S_ (R_iload_n hO dL_law_878 rfl) ?_
          refine S_ (R_iconst (v := (2 : Int32)) hO dL_law_879 (by decide)) ?_
          refine S_ (R_iadd hO dL_law_880) ?_
          refine S_sld hO hL dL_law_881 ?_
          refine S_ (R_aload_n hO dL_law_882 rfl) ?_
          refine S_ (R_iload_n hO dL_law_883 rfl) ?_
          refine S_ (R_iconst (v := (3 : Int32)) hO dL_law_884 (by decide)) ?_
          refine S_ (R_iadd hO dL_law_885) ?_
          refine S_sld hO hL dL_law_886 ?_
          refine S_ (R_aload_n hO dL_law_887 rfl) ?_
          refine S_ (R_iload_n hO dL_law_888 rfl) ?_
          refine S_ (R_iconst (v := (4 : Int32)) hO dL_law_889 (by decide)) ?_
          refine S_ (R_iadd hO dL_law_890) ?_
          refine S_sld hO hL dL_law_891 ?_
          refine S_ (R_aload_n hO dL_law_892 rfl) ?_
          refine S_ (R_iload_n hO dL_law_893 rfl) ?_
          refine S_ (R_iconst (v := (5 : Int32)) hO dL_law_894 (by decide)) ?_
          refine S_ (R_iadd hO dL_law_895) ?_
          refine S_sld hO hL dL_law_896 ?_
          refine S_callVI (rest := []) hO dL_law_897 (cs_X7_who (xs (m3 + (1 : Int32)).toNatClampNeg) (xs (m3 + (2 : Int32)).toNatClampNeg) (xs (m3 + (3 : Int32)).toNatClampNeg) (xs (m3 + (4 : Int32)).toNatClampNeg) (xs (m3 + (5 : Int32)).toNatClampNeg) s0) (by decide) lk_L_110 np_X7_who (rc_0 rfl) rfl (Nat.le_of_ble_eq_true rfl) (fun x117 s118 => ?_)
          refine S_ (R_aload_n hO dL_law_900 rfl) ?_
          refine S_ (R_aload_n hO dL_law_901 rfl) ?_
          refine S_ (R_iload_n hO dL_law_902 rfl) ?_
          refine S_ (R_iconst (v := (1 : Int32)) hO dL_law_903 (by decide)) ?_
          refine S_ (R_iadd hO dL_law_904) ?_
          refine S_sld hO hL dL_law_905 ?_
          refine S_ (R_aload_n hO dL_law_906 rfl) ?_
          refine S_ (R_iload_n hO dL_law_907 rfl) ?_
          refine S_ (R_iconst (v := (2 : Int32)) hO dL_law_908 (by decide)) ?_
          refine S_ (R_iadd hO dL_law_909) ?_
          refine S_sld hO hL dL_law_910 ?_
          refine S_ (R_aload_n hO dL_law_911 rfl) ?_
          refine S_ (R_iload_n hO dL_law_912 rfl) ?_
          refine S_ (R_iconst (v := (3 : Int32)) hO dL_law_913 (by decide)) ?_
          refine S_ (R_iadd hO dL_law_914) ?_
          refine S_sld hO hL dL_law_915 ?_
          refine S_ (R_aload_n hO dL_law_916 rfl) ?_
          refine S_ (R_iload_n hO dL_law_917 rfl) ?_
          refine S_ (R_iconst (v := (4 : Int32)) hO dL_law_918 (by decide)) ?_
          refine S_ (R_iadd hO dL_law_919) ?_
          refine S_sld hO hL dL_law_920 ?_
          refine S_ (R_aload_n hO dL_law_921 rfl) ?_
          refine S_ (R_iload_n hO dL_law_922 rfl) ?_
          refine S_ (R_iconst (v := (5 : Int32)) hO dL_law_923 (by decide)) ?_
          refine S_ (R_iadd hO dL_law_924) ?_
          refine S_sld hO hL dL_law_925 ?_
          refine S_callVI (rest := [.int x117]) hO dL_law_926 (cs_X8_who (xs (m3 + (1 : Int32)).toNatClampNeg) (xs (m3 + (2 : Int32)).toNatClampNeg) (xs (m3 + (3 : Int32)).toNatClampNeg) (xs (m3 + (4 : Int32)).toNatClampNeg) (xs (m3 + (5 : Int32)).toNatClampNeg) s118) (by decide) lk_L_113 np_X8_who (rc_183 rfl) rfl (Nat.le_of_ble_eq_true rfl) (fun x119 s120 => ?_)
          refine S_icmp_eq (tgt := 1341) hO dL_law_929 (by decide) ?_ ?_
          · refine S_ (R_iconst (v := (0 : Int32)) hO dL_law_932 (by decide)) ?_
            exact S_lawret rfl hO hQ dL_law_933
          · refine S_iinc (L2 := fun x121 => [(3, .int x121), (0, .ref (1002 + sb)), (1, .ref 0), (2, .ref 183)]) (v := (6 : Int32)) hO dL_law_1341 rfl (by decide) (Nat.le_of_ble_eq_true rfl) (fun _ => rfl) (fun x121 => ?_)
            refine S_ (R_goto (tgt := 18) hO dL_law_1344 (by decide)) ?_
            refine S_sub [1, 2, 3, 0] rfl ?_
            exact ih x121 s120
        · refine S_ (R_aload_n hO dL_law_934 rfl) ?_
          refine S_ (R_aload_n hO dL_law_935 rfl) ?_
          refine S_ (R_iload_n hO dL_law_936 rfl) ?_
          refine S_ (R_iconst (v := (1 : Int32)) hO dL_law_937 (by decide)) ?_
          refine S_ (R_iadd hO dL_law_938) ?_
          refine S_sld hO hL dL_law_939 ?_
          refine S_ (R_aload_n hO dL_law_940 rfl) ?_
          refine S_ (R_iload_n hO dL_law_941 rfl) ?_
          refine S_ (R_iconst (v := (2 : Int32)) hO dL_law_942 (by decide)) ?_
          refine S_ (R_iadd hO dL_law_943) ?_
          refine S_sld hO hL dL_law_944 ?_
          refine S_ (R_aload_n hO dL_law_945 rfl) ?_
          refine S_ (R_iload_n hO dL_law_946 rfl) ?_
          refine S_ (R_iconst (v := (3 : Int32)) hO dL_law_947 (by decide)) ?_
          refine S_ (R_iadd hO dL_law_948) ?_
          refine S_sld hO hL dL_law_949 ?_
          refine S_ (R_aload_n hO dL_law_950 rfl) ?_
          refine S_ (R_iload_n hO dL_law_951 rfl) ?_
          refine S_ (R_iconst (v := (4 : Int32)) hO dL_law_952 (by decide)) ?_
          refine S_ (R_iadd hO dL_law_953) ?_
          refine S_sld hO hL dL_law_954 ?_
          refine S_callVI (rest := []) hO dL_law_955 (cs_X7_finger (xs (m3 + (1 : Int32)).toNatClampNeg) (xs (m3 + (2 : Int32)).toNatClampNeg) (xs (m3 + (3 : Int32)).toNatClampNeg) (xs (m3 + (4 : Int32)).toNatClampNeg) s0) (by decide) lk_L_114 np_X7_finger (rc_0 rfl) rfl (Nat.le_of_ble_eq_true rfl) (fun x122 s123 => ?_)
          refine S_ (R_aload_n hO dL_law_958 rfl) ?_
          refine S_ (R_aload_n hO dL_law_959 rfl) ?_
          refine S_ (R_iload_n hO dL_law_960 rfl) ?_
          refine S_ (R_iconst (v := (1 : Int32)) hO dL_law_961 (by decide)) ?_
          refine S_ (R_iadd hO dL_law_962) ?_
          refine S_sld hO hL dL_law_963 ?_
          refine S_ (R_aload_n hO dL_law_964 rfl) ?_
          refine S_ (R_iload_n hO dL_law_965 rfl) ?_
          refine S_ (R_iconst (v := (2 : Int32)) hO dL_law_966 (by decide)) ?_
          refine S_ (R_iadd hO dL_law_967) ?_
          refine S_sld hO hL dL_law_968 ?_
          refine S_ (R_aload_n hO dL_law_969 rfl) ?_
          refine S_ (R_iload_n hO dL_law_970 rfl) ?_
          refine S_ (R_iconst (v := (3 : Int32)) hO dL_law_971 (by decide)) ?_
          refine S_ (R_iadd hO dL_law_972) ?_
          refine S_sld hO hL dL_law_973 ?_
          refine S_ (R_aload_n hO dL_law_974 rfl) ?_
          refine S_ (R_iload_n hO dL_law_975 rfl) ?_
          refine S_ (R_iconst (v := (4 : Int32)) hO dL_law_976 (by decide)) ?_
          refine S_ (R_iadd hO dL_law_977) ?_
          refine S_sld hO hL dL_law_978 ?_
          refine S_callVI (rest := [.int x122]) hO dL_law_979 (cs_X8_finger (xs (m3 + (1 : Int32)).toNatClampNeg) (xs (m3 + (2 : Int32)).toNatClampNeg) (xs (m3 + (3 : Int32)).toNatClampNeg) (xs (m3 + (4 : Int32)).toNatClampNeg) s123) (by decide) lk_L_118 np_X8_finger (rc_183 rfl) rfl (Nat.le_of_ble_eq_true rfl) (fun x124 s125 => ?_)
          refine S_icmp_eq (tgt := 1341) hO dL_law_982 (by decide) ?_ ?_
          · refine S_ (R_iconst (v := (0 : Int32)) hO dL_law_985 (by decide)) ?_
            exact S_lawret rfl hO hQ dL_law_986
          · refine S_iinc (L2 := fun x126 => [(3, .int x126), (0, .ref (1002 + sb)), (1, .ref 0), (2, .ref 183)]) (v := (6 : Int32)) hO dL_law_1341 rfl (by decide) (Nat.le_of_ble_eq_true rfl) (fun _ => rfl) (fun x126 => ?_)
            refine S_ (R_goto (tgt := 18) hO dL_law_1344 (by decide)) ?_
            refine S_sub [1, 2, 3, 0] rfl ?_
            exact ih x126 s125
        · refine S_ (R_aload_n hO dL_law_987 rfl) ?_
          refine S_ (R_aload_n hO dL_law_988 rfl) ?_
          refine S_ (R_iload_n hO dL_law_989 rfl) ?_
          refine S_ (R_iconst (v := (1 : Int32)) hO dL_law_990 (by decide)) ?_
          refine S_ (R_iadd hO dL_law_991) ?_
          refine S_sld hO hL dL_law_992 ?_
          refine S_ (R_aload_n hO dL_law_993 rfl) ?_
          refine S_ (R_iload_n hO dL_law_994 rfl) ?_
          refine S_ (R_iconst (v := (2 : Int32)) hO dL_law_995 (by decide)) ?_
          refine S_ (R_iadd hO dL_law_996) ?_
          refine S_sld hO hL dL_law_997 ?_
          refine S_ (R_aload_n hO dL_law_998 rfl) ?_
          refine S_ (R_iload_n hO dL_law_999 rfl) ?_
          refine S_ (R_iconst (v := (3 : Int32)) hO dL_law_1000 (by decide)) ?_
          refine S_ (R_iadd hO dL_law_1001) ?_
          refine S_sld hO hL dL_law_1002 ?_
          refine S_ (R_aload_n hO dL_law_1003 rfl) ?_
          refine S_ (R_iload_n hO dL_law_1004 rfl) ?_
          refine S_ (R_iconst (v := (4 : Int32)) hO dL_law_1005 (by decide)) ?_
          refine S_ (R_iadd hO dL_law_1006) ?_
          refine S_sld hO hL dL_law_1007 ?_
          refine S_ (R_aload_n hO dL_law_1008 rfl) ?_
          refine S_ (R_iload_n hO dL_law_1009 rfl) ?_
          refine S_ (R_iconst (v := (5 : Int32)) hO dL_law_1010 (by decide)) ?_
          refine S_ (R_iadd hO dL_law_1011) ?_
          refine S_sld hO hL dL_law_1012 ?_
          refine S_callVI (rest := []) hO dL_law_1013 (cs_X7_lashes (xs (m3 + (1 : Int32)).toNatClampNeg) (xs (m3 + (2 : Int32)).toNatClampNeg) (xs (m3 + (3 : Int32)).toNatClampNeg) (xs (m3 + (4 : Int32)).toNatClampNeg) (xs (m3 + (5 : Int32)).toNatClampNeg) s0) (by decide) lk_L_119 np_X7_lashes (rc_0 rfl) rfl (Nat.le_of_ble_eq_true rfl) (fun x127 s128 => ?_)
          refine S_ (R_aload_n hO dL_law_1016 rfl) ?_
          refine S_ (R_aload_n hO dL_law_1017 rfl) ?_
          refine S_ (R_iload_n hO dL_law_1018 rfl) ?_
          refine S_ (R_iconst (v := (1 : Int32)) hO dL_law_1019 (by decide)) ?_
          refine S_ (R_iadd hO dL_law_1020) ?_
          refine S_sld hO hL dL_law_1021 ?_
          refine S_ (R_aload_n hO dL_law_1022 rfl) ?_
          refine S_ (R_iload_n hO dL_law_1023 rfl) ?_
          refine S_ (R_iconst (v := (2 : Int32)) hO dL_law_1024 (by decide)) ?_
          refine S_ (R_iadd hO dL_law_1025) ?_
          refine S_sld hO hL dL_law_1026 ?_
          refine S_ (R_aload_n hO dL_law_1027 rfl) ?_
          refine S_ (R_iload_n hO dL_law_1028 rfl) ?_
          refine S_ (R_iconst (v := (3 : Int32)) hO dL_law_1029 (by decide)) ?_
          refine S_ (R_iadd hO dL_law_1030) ?_
          refine S_sld hO hL dL_law_1031 ?_
          refine S_ (R_aload_n hO dL_law_1032 rfl) ?_
          refine S_ (R_iload_n hO dL_law_1033 rfl) ?_
          refine S_ (R_iconst (v := (4 : Int32)) hO dL_law_1034 (by decide)) ?_
          refine S_ (R_iadd hO dL_law_1035) ?_
          refine S_sld hO hL dL_law_1036 ?_
          refine S_ (R_aload_n hO dL_law_1037 rfl) ?_
          refine S_ (R_iload_n hO dL_law_1038 rfl) ?_
          refine S_ (R_iconst (v := (5 : Int32)) hO dL_law_1039 (by decide)) ?_
          refine S_ (R_iadd hO dL_law_1040) ?_
          refine S_sld hO hL dL_law_1041 ?_
          refine S_callVI (rest := [.int x127]) hO dL_law_1042 (cs_X8_lashes (xs (m3 + (1 : Int32)).toNatClampNeg) (xs (m3 + (2 : Int32)).toNatClampNeg) (xs (m3 + (3 : Int32)).toNatClampNeg) (xs (m3 + (4 : Int32)).toNatClampNeg) (xs (m3 + (5 : Int32)).toNatClampNeg) s128) (by decide) lk_L_122 np_X8_lashes (rc_183 rfl) rfl (Nat.le_of_ble_eq_true rfl) (fun x129 s130 => ?_)
          refine S_icmp_eq (tgt := 1341) hO dL_law_1045 (by decide) ?_ ?_
          · refine S_ (R_iconst (v := (0 : Int32)) hO dL_law_1048 (by decide)) ?_
            exact S_lawret rfl hO hQ dL_law_1049
          · refine S_iinc (L2 := fun x131 => [(3, .int x131), (0, .ref (1002 + sb)), (1, .ref 0), (2, .ref 183)]) (v := (6 : Int32)) hO dL_law_1341 rfl (by decide) (Nat.le_of_ble_eq_true rfl) (fun _ => rfl) (fun x131 => ?_)
            refine S_ (R_goto (tgt := 18) hO dL_law_1344 (by decide)) ?_
            refine S_sub [1, 2, 3, 0] rfl ?_
            exact ih x131 s130
        · refine S_ (R_aload_n hO dL_law_1050 rfl) ?_
          refine S_ (R_aload_n hO dL_law_1051 rfl) ?_
          refine S_ (R_iload_n hO dL_law_1052 rfl) ?_
          refine S_ (R_iconst (v := (1 : Int32)) hO dL_law_1053 (by decide)) ?_
          refine S_ (R_iadd hO dL_law_1054) ?_
          refine S_sld hO hL dL_law_1055 ?_
          refine S_ (R_aload_n hO dL_law_1056 rfl) ?_
          refine S_ (R_iload_n hO dL_law_1057 rfl) ?_
          refine S_ (R_iconst (v := (2 : Int32)) hO dL_law_1058 (by decide)) ?_
          refine S_ (R_iadd hO dL_law_1059) ?_
          refine S_sld hO hL dL_law_1060 ?_
          refine S_ (R_aload_n hO dL_law_1061 rfl) ?_
          refine S_ (R_iload_n hO dL_law_1062 rfl) ?_
          refine S_ (R_iconst (v := (3 : Int32)) hO dL_law_1063 (by decide)) ?_
          refine S_ (R_iadd hO dL_law_1064) ?_
          refine S_sld hO hL dL_law_1065 ?_
          refine S_ (R_aload_n hO dL_law_1066 rfl) ?_
          refine S_ (R_iload_n hO dL_law_1067 rfl) ?_
          refine S_ (R_iconst (v := (4 : Int32)) hO dL_law_1068 (by decide)) ?_
          refine S_ (R_iadd hO dL_law_1069) ?_
          refine S_sld hO hL dL_law_1070 ?_
          refine S_callVL (rest := []) hO dL_law_1071 (cs_X7_crack (xs (m3 + (1 : Int32)).toNatClampNeg) (xs (m3 + (2 : Int32)).toNatClampNeg) (xs (m3 + (3 : Int32)).toNatClampNeg) (xs (m3 + (4 : Int32)).toNatClampNeg) s0) (by decide) lk_L_123 np_X7_crack (rc_0 rfl) rfl (Nat.le_of_ble_eq_true rfl) (fun x132 s133 => ?_)
          refine S_ (R_aload_n hO dL_law_1074 rfl) ?_
          refine S_ (R_aload_n hO dL_law_1075 rfl) ?_
          refine S_ (R_iload_n hO dL_law_1076 rfl) ?_
          refine S_ (R_iconst (v := (1 : Int32)) hO dL_law_1077 (by decide)) ?_
          refine S_ (R_iadd hO dL_law_1078) ?_
          refine S_sld hO hL dL_law_1079 ?_
          refine S_ (R_aload_n hO dL_law_1080 rfl) ?_
          refine S_ (R_iload_n hO dL_law_1081 rfl) ?_
          refine S_ (R_iconst (v := (2 : Int32)) hO dL_law_1082 (by decide)) ?_
          refine S_ (R_iadd hO dL_law_1083) ?_
          refine S_sld hO hL dL_law_1084 ?_
          refine S_ (R_aload_n hO dL_law_1085 rfl) ?_
          refine S_ (R_iload_n hO dL_law_1086 rfl) ?_
          refine S_ (R_iconst (v := (3 : Int32)) hO dL_law_1087 (by decide)) ?_
          refine S_ (R_iadd hO dL_law_1088) ?_
          refine S_sld hO hL dL_law_1089 ?_
          refine S_ (R_aload_n hO dL_law_1090 rfl) ?_
          refine S_ (R_iload_n hO dL_law_1091 rfl) ?_
          refine S_ (R_iconst (v := (4 : Int32)) hO dL_law_1092 (by decide)) ?_
          refine S_ (R_iadd hO dL_law_1093) ?_
          refine S_sld hO hL dL_law_1094 ?_
          refine S_callVL (rest := [.long x132]) hO dL_law_1095 (cs_X8_crack (xs (m3 + (1 : Int32)).toNatClampNeg) (xs (m3 + (2 : Int32)).toNatClampNeg) (xs (m3 + (3 : Int32)).toNatClampNeg) (xs (m3 + (4 : Int32)).toNatClampNeg) s133) (by decide) lk_L_127 np_X8_crack (rc_183 rfl) rfl (Nat.le_of_ble_eq_true rfl) (fun x134 s135 => ?_)
          refine S_ (R_lcmp hO dL_law_1098) ?_
          refine S_if_eq (tgt := 1341) hO dL_law_1099 (by decide) ?_ ?_
          · refine S_ (R_iconst (v := (0 : Int32)) hO dL_law_1102 (by decide)) ?_
            exact S_lawret rfl hO hQ dL_law_1103
          · refine S_iinc (L2 := fun x136 => [(3, .int x136), (0, .ref (1002 + sb)), (1, .ref 0), (2, .ref 183)]) (v := (6 : Int32)) hO dL_law_1341 rfl (by decide) (Nat.le_of_ble_eq_true rfl) (fun _ => rfl) (fun x136 => ?_)
            refine S_ (R_goto (tgt := 18) hO dL_law_1344 (by decide)) ?_
            refine S_sub [1, 2, 3, 0] rfl ?_
            exact ih x136 s135
        · refine S_ (R_aload_n hO dL_law_1104 rfl) ?_
          refine S_ (R_aload_n hO dL_law_1105 rfl) ?_
          refine S_ (R_iload_n hO dL_law_1106 rfl) ?_
          refine S_ (R_iconst (v := (1 : Int32)) hO dL_law_1107 (by decide)) ?_
          refine S_ (R_iadd hO dL_law_1108) ?_
          refine S_sld hO hL dL_law_1109 ?_
          refine S_ (R_aload_n hO dL_law_1110 rfl) ?_
          refine S_ (R_iload_n hO dL_law_1111 rfl) ?_
          refine S_ (R_iconst (v := (2 : Int32)) hO dL_law_1112 (by decide)) ?_
          refine S_ (R_iadd hO dL_law_1113) ?_
          refine S_sld hO hL dL_law_1114 ?_
          refine S_ (R_aload_n hO dL_law_1115 rfl) ?_
          refine S_ (R_iload_n hO dL_law_1116 rfl) ?_
          refine S_ (R_iconst (v := (3 : Int32)) hO dL_law_1117 (by decide)) ?_
          refine S_ (R_iadd hO dL_law_1118) ?_
          refine S_sld hO hL dL_law_1119 ?_
          refine S_callVI (rest := []) hO dL_law_1120 (cs_X7_drawn (xs (m3 + (1 : Int32)).toNatClampNeg) (xs (m3 + (2 : Int32)).toNatClampNeg) (xs (m3 + (3 : Int32)).toNatClampNeg) s0) (by decide) lk_L_128 np_X7_drawn (rc_0 rfl) rfl (Nat.le_of_ble_eq_true rfl) (fun x137 s138 => ?_)
          refine S_ (R_aload_n hO dL_law_1123 rfl) ?_
          refine S_ (R_aload_n hO dL_law_1124 rfl) ?_
          refine S_ (R_iload_n hO dL_law_1125 rfl) ?_
          refine S_ (R_iconst (v := (1 : Int32)) hO dL_law_1126 (by decide)) ?_
          refine S_ (R_iadd hO dL_law_1127) ?_
          refine S_sld hO hL dL_law_1128 ?_
          refine S_ (R_aload_n hO dL_law_1129 rfl) ?_
          refine S_ (R_iload_n hO dL_law_1130 rfl) ?_
          refine S_ (R_iconst (v := (2 : Int32)) hO dL_law_1131 (by decide)) ?_
          refine S_ (R_iadd hO dL_law_1132) ?_
          refine S_sld hO hL dL_law_1133 ?_
          refine S_ (R_aload_n hO dL_law_1134 rfl) ?_
          refine S_ (R_iload_n hO dL_law_1135 rfl) ?_
          refine S_ (R_iconst (v := (3 : Int32)) hO dL_law_1136 (by decide)) ?_
          refine S_ (R_iadd hO dL_law_1137) ?_
          refine S_sld hO hL dL_law_1138 ?_
          refine S_callVI (rest := [.int x137]) hO dL_law_1139 (cs_X8_drawn (xs (m3 + (1 : Int32)).toNatClampNeg) (xs (m3 + (2 : Int32)).toNatClampNeg) (xs (m3 + (3 : Int32)).toNatClampNeg) s138) (by decide) lk_L_131 np_X8_drawn (rc_183 rfl) rfl (Nat.le_of_ble_eq_true rfl) (fun x139 s140 => ?_)
          refine S_icmp_eq (tgt := 1341) hO dL_law_1142 (by decide) ?_ ?_
          · refine S_ (R_iconst (v := (0 : Int32)) hO dL_law_1145 (by decide)) ?_
            exact S_lawret rfl hO hQ dL_law_1146
          · refine S_iinc (L2 := fun x141 => [(3, .int x141), (0, .ref (1002 + sb)), (1, .ref 0), (2, .ref 183)]) (v := (6 : Int32)) hO dL_law_1341 rfl (by decide) (Nat.le_of_ble_eq_true rfl) (fun _ => rfl) (fun x141 => ?_)
            refine S_ (R_goto (tgt := 18) hO dL_law_1344 (by decide)) ?_
            refine S_sub [1, 2, 3, 0] rfl ?_
            exact ih x141 s140
        · refine S_ (R_aload_n hO dL_law_1147 rfl) ?_
          refine S_ (R_aload_n hO dL_law_1148 rfl) ?_
          refine S_ (R_iload_n hO dL_law_1149 rfl) ?_
          refine S_ (R_iconst (v := (1 : Int32)) hO dL_law_1150 (by decide)) ?_
          refine S_ (R_iadd hO dL_law_1151) ?_
          refine S_sld hO hL dL_law_1152 ?_
          refine S_callVI (rest := []) hO dL_law_1153 (cs_X7_image (xs (m3 + (1 : Int32)).toNatClampNeg) s0) (by decide) lk_L_132 np_X7_image (rc_0 rfl) rfl (Nat.le_of_ble_eq_true rfl) (fun x142 s143 => ?_)
          refine S_ (R_aload_n hO dL_law_1156 rfl) ?_
          refine S_ (R_aload_n hO dL_law_1157 rfl) ?_
          refine S_ (R_iload_n hO dL_law_1158 rfl) ?_
          refine S_ (R_iconst (v := (1 : Int32)) hO dL_law_1159 (by decide)) ?_
          refine S_ (R_iadd hO dL_law_1160) ?_
          refine S_sld hO hL dL_law_1161 ?_
          refine S_callVI (rest := [.int x142]) hO dL_law_1162 (cs_X8_image (xs (m3 + (1 : Int32)).toNatClampNeg) s143) (by decide) lk_L_135 np_X8_image (rc_183 rfl) rfl (Nat.le_of_ble_eq_true rfl) (fun x144 s145 => ?_)
          refine S_icmp_eq (tgt := 1341) hO dL_law_1165 (by decide) ?_ ?_
          · refine S_ (R_iconst (v := (0 : Int32)) hO dL_law_1168 (by decide)) ?_
            exact S_lawret rfl hO hQ dL_law_1169
          · refine S_iinc (L2 := fun x146 => [(3, .int x146), (0, .ref (1002 + sb)), (1, .ref 0), (2, .ref 183)]) (v := (6 : Int32)) hO dL_law_1341 rfl (by decide) (Nat.le_of_ble_eq_true rfl) (fun _ => rfl) (fun x146 => ?_)
            refine S_ (R_goto (tgt := 18) hO dL_law_1344 (by decide)) ?_
            refine S_sub [1, 2, 3, 0] rfl ?_
            exact ih x146 s145
        · refine S_ (R_aload_n hO dL_law_1170 rfl) ?_
          refine S_ (R_aload_n hO dL_law_1171 rfl) ?_
          refine S_ (R_iload_n hO dL_law_1172 rfl) ?_
          refine S_ (R_iconst (v := (1 : Int32)) hO dL_law_1173 (by decide)) ?_
          refine S_ (R_iadd hO dL_law_1174) ?_
          refine S_sld hO hL dL_law_1175 ?_
          refine S_callVI (rest := []) hO dL_law_1176 (cs_X7_restore (xs (m3 + (1 : Int32)).toNatClampNeg) s0) (by decide) lk_L_136 np_X7_restore (rc_0 rfl) rfl (Nat.le_of_ble_eq_true rfl) (fun x147 s148 => ?_)
          refine S_ (R_aload_n hO dL_law_1179 rfl) ?_
          refine S_ (R_aload_n hO dL_law_1180 rfl) ?_
          refine S_ (R_iload_n hO dL_law_1181 rfl) ?_
          refine S_ (R_iconst (v := (1 : Int32)) hO dL_law_1182 (by decide)) ?_
          refine S_ (R_iadd hO dL_law_1183) ?_
          refine S_sld hO hL dL_law_1184 ?_
          refine S_callVI (rest := [.int x147]) hO dL_law_1185 (cs_X8_restore (xs (m3 + (1 : Int32)).toNatClampNeg) s148) (by decide) lk_L_139 np_X8_restore (rc_183 rfl) rfl (Nat.le_of_ble_eq_true rfl) (fun x149 s150 => ?_)
          refine S_icmp_eq (tgt := 1341) hO dL_law_1188 (by decide) ?_ ?_
          · refine S_ (R_iconst (v := (0 : Int32)) hO dL_law_1191 (by decide)) ?_
            exact S_lawret rfl hO hQ dL_law_1192
          · refine S_iinc (L2 := fun x151 => [(3, .int x151), (0, .ref (1002 + sb)), (1, .ref 0), (2, .ref 183)]) (v := (6 : Int32)) hO dL_law_1341 rfl (by decide) (Nat.le_of_ble_eq_true rfl) (fun _ => rfl) (fun x151 => ?_)
            refine S_ (R_goto (tgt := 18) hO dL_law_1344 (by decide)) ?_
            refine S_sub [1, 2, 3, 0] rfl ?_
            exact ih x151 s150
        · refine S_ (R_aload_n hO dL_law_1193 rfl) ?_
          refine S_ (R_aload_n hO dL_law_1194 rfl) ?_
          refine S_ (R_iload_n hO dL_law_1195 rfl) ?_
          refine S_ (R_iconst (v := (1 : Int32)) hO dL_law_1196 (by decide)) ?_
          refine S_ (R_iadd hO dL_law_1197) ?_
          refine S_sld hO hL dL_law_1198 ?_
          refine S_callVI (rest := []) hO dL_law_1199 (cs_X7_kind (xs (m3 + (1 : Int32)).toNatClampNeg) s0) (by decide) lk_L_140 np_X7_kind (rc_0 rfl) rfl (Nat.le_of_ble_eq_true rfl) (fun x152 s153 => ?_)
          refine S_ (R_aload_n hO dL_law_1202 rfl) ?_
          refine S_ (R_aload_n hO dL_law_1203 rfl) ?_
          refine S_ (R_iload_n hO dL_law_1204 rfl) ?_
          refine S_ (R_iconst (v := (1 : Int32)) hO dL_law_1205 (by decide)) ?_
          refine S_ (R_iadd hO dL_law_1206) ?_
          refine S_sld hO hL dL_law_1207 ?_
          refine S_callVI (rest := [.int x152]) hO dL_law_1208 (cs_X8_kind (xs (m3 + (1 : Int32)).toNatClampNeg) s153) (by decide) lk_L_143 np_X8_kind (rc_183 rfl) rfl (Nat.le_of_ble_eq_true rfl) (fun x154 s155 => ?_)
          refine S_icmp_eq (tgt := 1341) hO dL_law_1211 (by decide) ?_ ?_
          · refine S_ (R_iconst (v := (0 : Int32)) hO dL_law_1214 (by decide)) ?_
            exact S_lawret rfl hO hQ dL_law_1215
          · refine S_iinc (L2 := fun x156 => [(3, .int x156), (0, .ref (1002 + sb)), (1, .ref 0), (2, .ref 183)]) (v := (6 : Int32)) hO dL_law_1341 rfl (by decide) (Nat.le_of_ble_eq_true rfl) (fun _ => rfl) (fun x156 => ?_)
            refine S_ (R_goto (tgt := 18) hO dL_law_1344 (by decide)) ?_
            refine S_sub [1, 2, 3, 0] rfl ?_
            exact ih x156 s155
        · refine S_ (R_aload_n hO dL_law_1216 rfl) ?_
          refine S_ (R_aload_n hO dL_law_1217 rfl) ?_
          refine S_ (R_iload_n hO dL_law_1218 rfl) ?_
          refine S_ (R_iconst (v := (1 : Int32)) hO dL_law_1219 (by decide)) ?_
          refine S_ (R_iadd hO dL_law_1220) ?_
          refine S_sld hO hL dL_law_1221 ?_
          refine S_ (R_aload_n hO dL_law_1222 rfl) ?_
          refine S_ (R_iload_n hO dL_law_1223 rfl) ?_
          refine S_ (R_iconst (v := (2 : Int32)) hO dL_law_1224 (by decide)) ?_
          refine S_ (R_iadd hO dL_law_1225) ?_
          refine S_sld hO hL dL_law_1226 ?_
          refine S_callVI (rest := []) hO dL_law_1227 (cs_X7_as (xs (m3 + (1 : Int32)).toNatClampNeg) (xs (m3 + (2 : Int32)).toNatClampNeg) s0) (by decide) lk_L_144 np_X7_as (rc_0 rfl) rfl (Nat.le_of_ble_eq_true rfl) (fun x157 s158 => ?_)
          refine S_ (R_aload_n hO dL_law_1230 rfl) ?_
          refine S_ (R_aload_n hO dL_law_1231 rfl) ?_
          refine S_ (R_iload_n hO dL_law_1232 rfl) ?_
          refine S_ (R_iconst (v := (1 : Int32)) hO dL_law_1233 (by decide)) ?_
          refine S_ (R_iadd hO dL_law_1234) ?_
          refine S_sld hO hL dL_law_1235 ?_
          refine S_ (R_aload_n hO dL_law_1236 rfl) ?_
          refine S_ (R_iload_n hO dL_law_1237 rfl) ?_
          refine S_ (R_iconst (v := (2 : Int32)) hO dL_law_1238 (by decide)) ?_
          refine S_ (R_iadd hO dL_law_1239) ?_
          refine S_sld hO hL dL_law_1240 ?_
          refine S_callVI (rest := [.int x157]) hO dL_law_1241 (cs_X8_as (xs (m3 + (1 : Int32)).toNatClampNeg) (xs (m3 + (2 : Int32)).toNatClampNeg) s158) (by decide) lk_L_147 np_X8_as (rc_183 rfl) rfl (Nat.le_of_ble_eq_true rfl) (fun x159 s160 => ?_)
          refine S_icmp_eq (tgt := 1341) hO dL_law_1244 (by decide) ?_ ?_
          · refine S_ (R_iconst (v := (0 : Int32)) hO dL_law_1247 (by decide)) ?_
            exact S_lawret rfl hO hQ dL_law_1248
          · refine S_iinc (L2 := fun x161 => [(3, .int x161), (0, .ref (1002 + sb)), (1, .ref 0), (2, .ref 183)]) (v := (6 : Int32)) hO dL_law_1341 rfl (by decide) (Nat.le_of_ble_eq_true rfl) (fun _ => rfl) (fun x161 => ?_)
            refine S_ (R_goto (tgt := 18) hO dL_law_1344 (by decide)) ?_
            refine S_sub [1, 2, 3, 0] rfl ?_
            exact ih x161 s160
        · refine S_ (R_aload_n hO dL_law_1249 rfl) ?_
          refine S_ (R_aload_n hO dL_law_1250 rfl) ?_
          refine S_ (R_iload_n hO dL_law_1251 rfl) ?_
          refine S_ (R_iconst (v := (1 : Int32)) hO dL_law_1252 (by decide)) ?_
          refine S_ (R_iadd hO dL_law_1253) ?_
          refine S_sld hO hL dL_law_1254 ?_
          refine S_ (R_aload_n hO dL_law_1255 rfl) ?_
          refine S_ (R_iload_n hO dL_law_1256 rfl) ?_
          refine S_ (R_iconst (v := (2 : Int32)) hO dL_law_1257 (by decide)) ?_
          refine S_ (R_iadd hO dL_law_1258) ?_
          refine S_sld hO hL dL_law_1259 ?_
          refine S_callVI (rest := []) hO dL_law_1260 (cs_X7_ask (xs (m3 + (1 : Int32)).toNatClampNeg) (xs (m3 + (2 : Int32)).toNatClampNeg) s0) (by decide) lk_L_148 np_X7_ask (rc_0 rfl) rfl (Nat.le_of_ble_eq_true rfl) (fun x162 s163 => ?_)
          refine S_ (R_aload_n hO dL_law_1263 rfl) ?_
          refine S_ (R_aload_n hO dL_law_1264 rfl) ?_
          refine S_ (R_iload_n hO dL_law_1265 rfl) ?_
          refine S_ (R_iconst (v := (1 : Int32)) hO dL_law_1266 (by decide)) ?_
          refine S_ (R_iadd hO dL_law_1267) ?_
          refine S_sld hO hL dL_law_1268 ?_
          refine S_ (R_aload_n hO dL_law_1269 rfl) ?_
          refine S_ (R_iload_n hO dL_law_1270 rfl) ?_
          refine S_ (R_iconst (v := (2 : Int32)) hO dL_law_1271 (by decide)) ?_
          refine S_ (R_iadd hO dL_law_1272) ?_
          refine S_sld hO hL dL_law_1273 ?_
          refine S_callVI (rest := [.int x162]) hO dL_law_1274 (cs_X8_ask (xs (m3 + (1 : Int32)).toNatClampNeg) (xs (m3 + (2 : Int32)).toNatClampNeg) s163) (by decide) lk_L_151 np_X8_ask (rc_183 rfl) rfl (Nat.le_of_ble_eq_true rfl) (fun x164 s165 => ?_)
          refine S_icmp_eq (tgt := 1341) hO dL_law_1277 (by decide) ?_ ?_
          · refine S_ (R_iconst (v := (0 : Int32)) hO dL_law_1280 (by decide)) ?_
            exact S_lawret rfl hO hQ dL_law_1281
          · refine S_iinc (L2 := fun x166 => [(3, .int x166), (0, .ref (1002 + sb)), (1, .ref 0), (2, .ref 183)]) (v := (6 : Int32)) hO dL_law_1341 rfl (by decide) (Nat.le_of_ble_eq_true rfl) (fun _ => rfl) (fun x166 => ?_)
            refine S_ (R_goto (tgt := 18) hO dL_law_1344 (by decide)) ?_
            refine S_sub [1, 2, 3, 0] rfl ?_
            exact ih x166 s165
        · refine S_ (R_aload_n hO dL_law_1282 rfl) ?_
          refine S_ (R_aload_n hO dL_law_1283 rfl) ?_
          refine S_ (R_iload_n hO dL_law_1284 rfl) ?_
          refine S_ (R_iconst (v := (1 : Int32)) hO dL_law_1285 (by decide)) ?_
          refine S_ (R_iadd hO dL_law_1286) ?_
          refine S_sld hO hL dL_law_1287 ?_
          refine S_callVI (rest := []) hO dL_law_1288 (cs_X7_trace (xs (m3 + (1 : Int32)).toNatClampNeg) s0) (by decide) lk_L_152 np_X7_trace (rc_0 rfl) rfl (Nat.le_of_ble_eq_true rfl) (fun x167 s168 => ?_)
          refine S_ (R_aload_n hO dL_law_1291 rfl) ?_
          refine S_ (R_aload_n hO dL_law_1292 rfl) ?_
          refine S_ (R_iload_n hO dL_law_1293 rfl) ?_
          refine S_ (R_iconst (v := (1 : Int32)) hO dL_law_1294 (by decide)) ?_
          refine S_ (R_iadd hO dL_law_1295) ?_
          refine S_sld hO hL dL_law_1296 ?_
          refine S_callVI (rest := [.int x167]) hO dL_law_1297 (cs_X8_trace (xs (m3 + (1 : Int32)).toNatClampNeg) s168) (by decide) lk_L_155 np_X8_trace (rc_183 rfl) rfl (Nat.le_of_ble_eq_true rfl) (fun x169 s170 => ?_)
          refine S_icmp_eq (tgt := 1341) hO dL_law_1300 (by decide) ?_ ?_
          · refine S_ (R_iconst (v := (0 : Int32)) hO dL_law_1303 (by decide)) ?_
            exact S_lawret rfl hO hQ dL_law_1304
          · refine S_iinc (L2 := fun x171 => [(3, .int x171), (0, .ref (1002 + sb)), (1, .ref 0), (2, .ref 183)]) (v := (6 : Int32)) hO dL_law_1341 rfl (by decide) (Nat.le_of_ble_eq_true rfl) (fun _ => rfl) (fun x171 => ?_)
            refine S_ (R_goto (tgt := 18) hO dL_law_1344 (by decide)) ?_
            refine S_sub [1, 2, 3, 0] rfl ?_
            exact ih x171 s170
        · refine S_ (R_aload_n hO dL_law_1305 rfl) ?_
          refine S_ (R_aload_n hO dL_law_1306 rfl) ?_
          refine S_ (R_iload_n hO dL_law_1307 rfl) ?_
          refine S_ (R_iconst (v := (1 : Int32)) hO dL_law_1308 (by decide)) ?_
          refine S_ (R_iadd hO dL_law_1309) ?_
          refine S_sld hO hL dL_law_1310 ?_
          refine S_callVI (rest := []) hO dL_law_1311 (cs_X7_count (xs (m3 + (1 : Int32)).toNatClampNeg) s0) (by decide) lk_L_156 np_X7_count (rc_0 rfl) rfl (Nat.le_of_ble_eq_true rfl) (fun x172 s173 => ?_)
          refine S_ (R_aload_n hO dL_law_1314 rfl) ?_
          refine S_ (R_aload_n hO dL_law_1315 rfl) ?_
          refine S_ (R_iload_n hO dL_law_1316 rfl) ?_
          refine S_ (R_iconst (v := (1 : Int32)) hO dL_law_1317 (by decide)) ?_
          refine S_ (R_iadd hO dL_law_1318) ?_
          refine S_sld hO hL dL_law_1319 ?_
          refine S_callVI (rest := [.int x172]) hO dL_law_1320 (cs_X8_count (xs (m3 + (1 : Int32)).toNatClampNeg) s173) (by decide) lk_L_159 np_X8_count (rc_183 rfl) rfl (Nat.le_of_ble_eq_true rfl) (fun x174 s175 => ?_)
          refine S_icmp_eq (tgt := 1341) hO dL_law_1323 (by decide) ?_ ?_
          · refine S_ (R_iconst (v := (0 : Int32)) hO dL_law_1326 (by decide)) ?_
            exact S_lawret rfl hO hQ dL_law_1327
          · refine S_iinc (L2 := fun x176 => [(3, .int x176), (0, .ref (1002 + sb)), (1, .ref 0), (2, .ref 183)]) (v := (6 : Int32)) hO dL_law_1341 rfl (by decide) (Nat.le_of_ble_eq_true rfl) (fun _ => rfl) (fun x176 => ?_)
            refine S_ (R_goto (tgt := 18) hO dL_law_1344 (by decide)) ?_
            refine S_sub [1, 2, 3, 0] rfl ?_
            exact ih x176 s175
        · refine S_ (R_aload_n hO dL_law_1328 rfl) ?_
          refine S_callVI (rest := []) hO dL_law_1329 (cs_X7_status s0) (by decide) lk_L_160 np_X7_status (rc_0 rfl) rfl (Nat.le_of_ble_eq_true rfl) (fun x177 s178 => ?_)
          refine S_ (R_aload_n hO dL_law_1332 rfl) ?_
          refine S_callVI (rest := [.int x177]) hO dL_law_1333 (cs_X8_status s178) (by decide) lk_L_163 np_X8_status (rc_183 rfl) rfl (Nat.le_of_ble_eq_true rfl) (fun x179 s180 => ?_)
          refine S_icmp_eq (tgt := 1341) hO dL_law_1336 (by decide) ?_ ?_
          · refine S_ (R_iconst (v := (0 : Int32)) hO dL_law_1339 (by decide)) ?_
            exact S_lawret rfl hO hQ dL_law_1340
          · refine S_iinc (L2 := fun x181 => [(3, .int x181), (0, .ref (1002 + sb)), (1, .ref 0), (2, .ref 183)]) (v := (6 : Int32)) hO dL_law_1341 rfl (by decide) (Nat.le_of_ble_eq_true rfl) (fun _ => rfl) (fun x181 => ?_)
            refine S_ (R_goto (tgt := 18) hO dL_law_1344 (by decide)) ?_
            refine S_sub [1, 2, 3, 0] rfl ?_
            exact ih x181 s180
    · refine S_ (R_iconst (v := (1 : Int32)) hO dL_law_1347 (by decide)) ?_
      exact S_lawret rfl hO hQ dL_law_1348
def f_L_law (Ln : Nat) (xs : Nat → Int32) (s0 : Mem) : Option (Int32 × Mem) := lt ((0 : Int32)) fun x1 => f_L_law_18 Ln xs FU x1 s0
theorem w_L_law {X : CX} {Z : Option Value × Mem → Prop} {Ln : Nat} {xs : Nat → Int32} (hO : OKX X false 40 ML_law) (hQ : LRET X Z) (sb : Nat) (hL : OKL X sb Ln xs) (s0 : Mem) : SIM X ML_law wI Z 16 [(2, .ref 183), (1, .ref 0), (0, .ref (1002 + sb))] [] s0 (f_L_law Ln xs s0) := by
  unfold f_L_law
  refine S_ (R_iconst (v := (0 : Int32)) hO dL_law_16 (by decide)) ?_
  refine S_istore_n (L2 := fun x1 => [(3, .int x1), (2, .ref 183), (1, .ref 0), (0, .ref (1002 + sb))]) hO dL_law_17 (Nat.le_of_ble_eq_true rfl) (fun _ => rfl) (fun x1 => ?_)
  refine S_sub [3, 2, 1, 0] rfl ?_
  exact w_L_law_18 hO hQ sb hL FU x1 s0
