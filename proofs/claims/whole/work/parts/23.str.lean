/-! THE LITERAL: String.indexOf over "wcspk", and the reading of a sort that asks it -/
abbrev MJ0_coder_7d493 : MD := (yJ0_coder_7d493, cJ0_coder_7d493, 1, some .byte)
abbrev MJ0_length_8abf5 : MD := (yJ0_length_8abf5, cJ0_length_8abf5, 1, some .int)
abbrev MJ0_isLatin1_aae02 : MD := (yJ0_isLatin1_aae02, cJ0_isLatin1_aae02, 1, some .boolean)
abbrev MJ0_indexOf_7cf53 : MD := (yJ0_indexOf_7cf53, cJ0_indexOf_7cf53, 3, some .int)
abbrev MJ0_indexOf_0f7a4 : MD := (yJ0_indexOf_0f7a4, cJ0_indexOf_0f7a4, 2, some .int)
abbrev MJ1_canEncode_9a6ad : MD := (yJ1_canEncode_9a6ad, cJ1_canEncode_9a6ad, 1, some .boolean)
abbrev MJ1_indexOf_4cfef : MD := (yJ1_indexOf_4cfef, cJ1_indexOf_4cfef, 4, some .int)
abbrev MJ1_indexOfChar_4cfef : MD := (yJ1_indexOfChar_4cfef, cJ1_indexOfChar_4cfef, 6, some .int)
theorem dJ0_length_8abf5_0 : decode cJ0_length_8abf5 0 = .ok (.aload_n 0, 1) := by decide +kernel
theorem dJ0_length_8abf5_1 : decode cJ0_length_8abf5 1 = .ok (.getfield 9, 3) := by decide +kernel
theorem dJ0_length_8abf5_4 : decode cJ0_length_8abf5 4 = .ok (.arraylength, 1) := by decide +kernel
theorem dJ0_length_8abf5_5 : decode cJ0_length_8abf5 5 = .ok (.aload_n 0, 1) := by decide +kernel
theorem dJ0_length_8abf5_6 : decode cJ0_length_8abf5 6 = .ok (.invokevirtual 335, 3) := by decide +kernel
theorem dJ0_length_8abf5_9 : decode cJ0_length_8abf5 9 = .ok (.ishr, 1) := by decide +kernel
theorem dJ0_length_8abf5_10 : decode cJ0_length_8abf5 10 = .ok (.ireturn, 1) := by decide +kernel
def sby (k : Nat) : Int32 := ([119, 99, 115, 112, 107] : List Int32).getD k 0
section STR
variable {α : Type} {X : CX} {d : Nat} {M : MD} {w : α → Option Value × Mem} {Z : Option Value × Mem → Prop} {pc : Nat} {L : AL} {st : List Value} {h : AH} {σ : Mem} {F : Option α} {z : Bool} {cs sl : Nat}
theorem R_sldc (hO : OKX X z d M) (dc : decode M.2.1 pc = .ok (.ldc 60, 2)) (hM : M.1.cls = RX6) (k : R X M (pc + 2) L (.ref 1000 :: st) h cs sl) : R X M pc L st h cs sl := by
  obtain ⟨p, l, e, Rm, s, m, args, below, meth, c, Q, E⟩ := X
  obtain ⟨hx, hb, hml, hown, hts, hK, hrt, hlk, hE, hnm, hrm, hz⟩ := hO
  intro H locs ls hl hP hS
  rw [hM] at hown
  exact va_ldcS hx hb hown hK.2.2.1.2.2 dc (k H locs ls hl hP hS)
theorem R_gcs (hO : OKX X z d M) (dc : decode M.2.1 pc = .ok (.getstatic 38, 3)) (hM : M.1.cls = RJ0 := by rfl) (k : R X M (pc + 3) L (.int 1 :: st) h cs sl) : R X M pc L st h cs sl := by
  obtain ⟨p, l, e, Rm, s, m, args, below, meth, c, Q, E⟩ := X
  obtain ⟨hx, hb, hml, hown, hts, hK, hrt, hlk, hE, hnm, hrm, hz⟩ := hO
  intro H locs ls hl hP hS
  rw [hM] at hown
  exact va_gets hx hb hK.2.2.1.1 hS hown (hts (.fieldLink RJ0 38 "java/lang/String" "COMPACT_STRINGS" "Z") (TSi 426 (by decide +kernel) (by decide +kernel))) (fun _ h9 => h9) dc (k H locs ls hl hP hS)
theorem R_scoder (hO : OKX X z d M) (dc : decode M.2.1 pc = .ok (.getfield 15, 3)) (hM : M.1.cls = RJ0 := by rfl) (k : R X M (pc + 3) L (.int 0 :: st) h cs sl) : R X M pc L (.ref 1000 :: st) h cs sl := by
  obtain ⟨p, l, e, Rm, s, m, args, below, meth, c, Q, E⟩ := X
  obtain ⟨hx, hb, hml, hown, hts, hK, hrt, hlk, hE, hnm, hrm, hz⟩ := hO
  intro H locs ls hl hP hS
  rw [hM] at hown
  exact vk_getf hx hb (hK.2.2.1.2.1.1 0 (by decide)).2.1 hS hown (hts (.fieldLink RJ0 15 "java/lang/String" "coder" "B") (TSi 1321 (by decide +kernel) (by decide +kernel))) (fun _ h9 => h9) dc (k H locs ls hl hP hS)
theorem R_sval (hO : OKX X z d M) (dc : decode M.2.1 pc = .ok (.getfield 9, 3)) (hM : M.1.cls = RJ0 := by rfl) (k : R X M (pc + 3) L (.ref 1001 :: st) h cs sl) : R X M pc L (.ref 1000 :: st) h cs sl := by
  obtain ⟨p, l, e, Rm, s, m, args, below, meth, c, Q, E⟩ := X
  obtain ⟨hx, hb, hml, hown, hts, hK, hrt, hlk, hE, hnm, hrm, hz⟩ := hO
  intro H locs ls hl hP hS
  rw [hM] at hown
  exact vk_getf hx hb (hK.2.2.1.2.1.1 0 (by decide)).2.2.1 hS hown (hts (.fieldLink RJ0 9 "java/lang/String" "value" "[B") (TSi 1322 (by decide +kernel) (by decide +kernel))) (fun _ h9 => h9) dc (k H locs ls hl hP hS)
theorem R_sblen (hO : OKX X z d M) (dc : decode M.2.1 pc = .ok (.arraylength, 1)) (k : R X M (pc + 1) L (.int 5 :: st) h cs sl) : R X M pc L (.ref 1001 :: st) h cs sl := by
  obtain ⟨p, l, e, Rm, s, m, args, below, meth, c, Q, E⟩ := X
  obtain ⟨hx, hb, hml, hown, hts, hK, hrt, hlk, hE, hnm, hrm, hz⟩ := hO
  intro H locs ls hl hP hS
  exact va_tlen hx hb (hK.2.2.1.2.1.1 0 (by decide)).2.2.2 hS rfl dc (k H locs ls hl hP hS)
theorem S_sbld {i : Int32} (hO : OKX X false d M) (dc : decode M.2.1 pc = .ok (.baload, 1)) (k : SIM X M w Z (pc + 1) L (.int (sby i.toNatClampNeg) :: st) σ F) : SIM X M w Z pc L (.int i :: .ref 1001 :: st) σ (ing i 5 F) := by
  intro r h hz
  have hin := (ing_in h).1
  have kk := k r (ing_in h).2 hz
  obtain ⟨p, l, e, Rm, s, m, args, below, meth, c, Q, E⟩ := X
  obtain ⟨hx, hb, hml, hown, hts, hK, hrt, hlk, hE, hnm, hrm, hz⟩ := hO
  intro H locs ls hl hP hS
  exact va_tb hx hb (hK.2.2.1.2.1.1 0 (by decide)).2.2.2 hS hin rfl dc (kk H locs ls hl hP hS)
theorem S_bret0 {x : Int32} {w' : Int32 × Mem → Option Value × Mem} (hw : w' = wI) {Z : Option Value × Mem → Prop} (hO : OKX X false d M) (hQ : OKS X Z) (dc : decode M.2.1 pc = .ok (.ireturn, 1)) (ht : M.2.2.2 = some .byte) (hx : x = 0 ∨ x = 1) : SIM X M w' Z pc L [.int x] σ (some (x, σ)) := by
  intro r h hz
  cases h
  subst hw
  unfold OKS at hQ
  generalize cX X = cs0 at hQ ⊢
  generalize sX X = sl0 at hQ ⊢
  obtain ⟨p, l, e, Rm, s, m, args, below, meth, c, Q, E⟩ := X
  obtain ⟨hx0, hb, hml, hown, hts, hK, hrt, hlk, hE, hnm, hrm, hz2⟩ := hO
  obtain ⟨hQ, -, -⟩ := hQ
  subst hQ
  intro H locs ls hl hP hS
  exact W.zret hx0 hb (hrt.trans ht) (by rcases hx with rfl | rfl <;> rfl) (fun t ht hW => ⟨some (.int x), view σ, rfl, ⟨σ, rfl, hz⟩, by rw [ht]; exact hP, hS.F ht⟩) hS.2.2 dc hlk
set_option maxHeartbeats 1000000 in
theorem S_callTI {N : MD} {d2 idx : Nat} {As rest : List Value} {G : Option (Int32 × Mem)} {K : Int32 → Mem → Option α} (hO : OKX X false d M) (dc : decode M.2.1 pc = .ok (.invokevirtual idx, 3)) (hM : CS d2 N (.ref 1000 :: As) σ (G.map wI)) (hd : d2 < d) (lkv : LKV M.1.cls idx N) (hp : np N As.length) (hst : st = As.reverse ++ .ref 1000 :: rest) (hs : (rest.map fun v => v.category).sum ≤ 8) (hN : N.1.cls = "java/lang/String") (kk : ∀ x τ, SIM X M w Z (pc + 3) L (.int x :: rest) τ (K x τ)) : SIM X M w Z pc L st σ (bd2 G K) := by
  intro r h hz
  cases hG : G with
  | none => rw [hG] at h; cases h
  | some q =>
    rw [hG] at h hM
    have kk2 := kk q.1 q.2 r h hz
    have hM2 := hM _ rfl
    obtain ⟨p, l, e, Rm, s, m, args, below, meth, c, Q, E⟩ := X
    obtain ⟨hx, hb, hml, hown, hts, hK, hrt, hlk, hE, hnm, hrm, hz9⟩ := hO
    obtain ⟨w1, w2, w3, w4, w5, w6, w7⟩ := lkv
    subst hst
    intro H locs ls hl hP hS
    have hg : GoodIn TS (wsV M.1.cls idx N.1.cls N.1 (wsM N)) := goodIn_c (TS_good _ w1) (goodIn_c (TS_good _ w2) (goodIn_c (TS_good _ w3) (goodIn_c (TS_good _ w4) (GIc w5))))
    have hrecv := vk_recv (i := 0) hK.2.2.1.2.1 (by decide) hS
    rw [← hN] at hrecv
    have hst2 : ((As.reverse ++ Value.ref 1000 :: rest).map (tr E)) = (As.map (tr E)).reverse ++ .ref E.2.2.2.2.1 :: rest.map (tr E) := by
      rw [List.map_append, List.map_reverse, List.map_cons]
      rfl
    rw [hst2]
    refine R_back (mc := 0) (ms := 0) (va_runV (As := As.map (tr E)) ⟨hx, hb, hml, hown, hts⟩ (hM2 l E hz9) (cwV As.length hts hg rfl rfl rfl ⟨rfl, w6.1, w6.2, hp⟩ ⟨by show d2 + 1 ≤ _; omega, by show 8 + (N.2.2.1 + 11) + 60 * d2 ≤ _; omega⟩) ⟨PcE.blind _ _ _, hrecv, fun U hU hW => ⟨rfl, by rw [hU]; exact hP, RepK.go hK hW (fun q h1 h2 => by rw [hU]; exact hS.2.1 q h1 h2), by rw [hU]; exact Nat.le_trans hE hS.1⟩⟩ rfl (by rw [List.length_map]) hl.1 rfl (lv_room (by rw [tr_catsum]; exact hs)) dc hrm.2.2) hS (fun v h' H1 locs1 hq1 hP1 hS1 => ?_)
    obtain ⟨e1, e2⟩ := hq1
    rw [e1, ]
    rw [e2] at hP1
    exact kk2 H1 locs1 ls hl hP1 hS1
end STR
theorem kk_J0_coder_7d493 : Cond.initialized MJ0_coder_7d493.1.cls ∈ TS ∧ Cond.code MJ0_coder_7d493.1 MJ0_coder_7d493.2.1 MJ0_coder_7d493.2.2.1 MJ0_coder_7d493.2.2.2 ∈ TS ∧ (MJ0_coder_7d493.1.cls ≠ "java/lang/invoke/MethodHandle" ∧ MJ0_coder_7d493.1.cls ≠ "java/lang/invoke/VarHandle") ∧ MJ0_coder_7d493.2.2.1 ≤ 40 := ⟨(TSi 76 (by decide +kernel) (by decide +kernel)), (TSi 435 (by decide +kernel) (by decide +kernel)), ⟨by decide +kernel, by decide +kernel⟩, by decide⟩
theorem kk_J0_indexOf_0f7a4 : Cond.initialized MJ0_indexOf_0f7a4.1.cls ∈ TS ∧ Cond.code MJ0_indexOf_0f7a4.1 MJ0_indexOf_0f7a4.2.1 MJ0_indexOf_0f7a4.2.2.1 MJ0_indexOf_0f7a4.2.2.2 ∈ TS ∧ (MJ0_indexOf_0f7a4.1.cls ≠ "java/lang/invoke/MethodHandle" ∧ MJ0_indexOf_0f7a4.1.cls ≠ "java/lang/invoke/VarHandle") ∧ MJ0_indexOf_0f7a4.2.2.1 ≤ 40 := ⟨(TSi 76 (by decide +kernel) (by decide +kernel)), (TSi 417 (by decide +kernel) (by decide +kernel)), ⟨by decide +kernel, by decide +kernel⟩, by decide⟩
theorem kk_J0_indexOf_7cf53 : Cond.initialized MJ0_indexOf_7cf53.1.cls ∈ TS ∧ Cond.code MJ0_indexOf_7cf53.1 MJ0_indexOf_7cf53.2.1 MJ0_indexOf_7cf53.2.2.1 MJ0_indexOf_7cf53.2.2.2 ∈ TS ∧ (MJ0_indexOf_7cf53.1.cls ≠ "java/lang/invoke/MethodHandle" ∧ MJ0_indexOf_7cf53.1.cls ≠ "java/lang/invoke/VarHandle") ∧ MJ0_indexOf_7cf53.2.2.1 ≤ 40 := ⟨(TSi 76 (by decide +kernel) (by decide +kernel)), (TSi 421 (by decide +kernel) (by decide +kernel)), ⟨by decide +kernel, by decide +kernel⟩, by decide⟩
theorem kk_J0_isLatin1_aae02 : Cond.initialized MJ0_isLatin1_aae02.1.cls ∈ TS ∧ Cond.code MJ0_isLatin1_aae02.1 MJ0_isLatin1_aae02.2.1 MJ0_isLatin1_aae02.2.2.1 MJ0_isLatin1_aae02.2.2.2 ∈ TS ∧ (MJ0_isLatin1_aae02.1.cls ≠ "java/lang/invoke/MethodHandle" ∧ MJ0_isLatin1_aae02.1.cls ≠ "java/lang/invoke/VarHandle") ∧ MJ0_isLatin1_aae02.2.2.1 ≤ 40 := ⟨(TSi 76 (by decide +kernel) (by decide +kernel)), (TSi 425 (by decide +kernel) (by decide +kernel)), ⟨by decide +kernel, by decide +kernel⟩, by decide⟩
theorem kk_J0_length_8abf5 : Cond.initialized MJ0_length_8abf5.1.cls ∈ TS ∧ Cond.code MJ0_length_8abf5.1 MJ0_length_8abf5.2.1 MJ0_length_8abf5.2.2.1 MJ0_length_8abf5.2.2.2 ∈ TS ∧ (MJ0_length_8abf5.1.cls ≠ "java/lang/invoke/MethodHandle" ∧ MJ0_length_8abf5.1.cls ≠ "java/lang/invoke/VarHandle") ∧ MJ0_length_8abf5.2.2.1 ≤ 40 := ⟨(TSi 76 (by decide +kernel) (by decide +kernel)), (TSi 431 (by decide +kernel) (by decide +kernel)), ⟨by decide +kernel, by decide +kernel⟩, by decide⟩
theorem kk_J1_canEncode_9a6ad : Cond.initialized MJ1_canEncode_9a6ad.1.cls ∈ TS ∧ Cond.code MJ1_canEncode_9a6ad.1 MJ1_canEncode_9a6ad.2.1 MJ1_canEncode_9a6ad.2.2.1 MJ1_canEncode_9a6ad.2.2.2 ∈ TS ∧ (MJ1_canEncode_9a6ad.1.cls ≠ "java/lang/invoke/MethodHandle" ∧ MJ1_canEncode_9a6ad.1.cls ≠ "java/lang/invoke/VarHandle") ∧ MJ1_canEncode_9a6ad.2.2.1 ≤ 40 := ⟨(TSi 77 (by decide +kernel) (by decide +kernel)), (TSi 441 (by decide +kernel) (by decide +kernel)), ⟨by decide +kernel, by decide +kernel⟩, by decide⟩
theorem kk_J1_indexOfChar_4cfef : Cond.initialized MJ1_indexOfChar_4cfef.1.cls ∈ TS ∧ Cond.code MJ1_indexOfChar_4cfef.1 MJ1_indexOfChar_4cfef.2.1 MJ1_indexOfChar_4cfef.2.2.1 MJ1_indexOfChar_4cfef.2.2.2 ∈ TS ∧ (MJ1_indexOfChar_4cfef.1.cls ≠ "java/lang/invoke/MethodHandle" ∧ MJ1_indexOfChar_4cfef.1.cls ≠ "java/lang/invoke/VarHandle") ∧ MJ1_indexOfChar_4cfef.2.2.1 ≤ 40 := ⟨(TSi 77 (by decide +kernel) (by decide +kernel)), (TSi 450 (by decide +kernel) (by decide +kernel)), ⟨by decide +kernel, by decide +kernel⟩, by decide⟩
theorem kk_J1_indexOf_4cfef : Cond.initialized MJ1_indexOf_4cfef.1.cls ∈ TS ∧ Cond.code MJ1_indexOf_4cfef.1 MJ1_indexOf_4cfef.2.1 MJ1_indexOf_4cfef.2.2.1 MJ1_indexOf_4cfef.2.2.2 ∈ TS ∧ (MJ1_indexOf_4cfef.1.cls ≠ "java/lang/invoke/MethodHandle" ∧ MJ1_indexOf_4cfef.1.cls ≠ "java/lang/invoke/VarHandle") ∧ MJ1_indexOf_4cfef.2.2.1 ≤ 40 := ⟨(TSi 77 (by decide +kernel) (by decide +kernel)), (TSi 438 (by decide +kernel) (by decide +kernel)), ⟨by decide +kernel, by decide +kernel⟩, by decide⟩
theorem lk_J0_335 : LKV RJ0 335 MJ0_coder_7d493 := ⟨(TSi 432 (by decide +kernel) (by decide +kernel)), (TSi 433 (by decide +kernel) (by decide +kernel)), (TSi 434 (by decide +kernel) (by decide +kernel)), kk_J0_coder_7d493⟩
theorem lk_J0_492 : LKV RJ0 492 MJ0_isLatin1_aae02 := ⟨(TSi 422 (by decide +kernel) (by decide +kernel)), (TSi 423 (by decide +kernel) (by decide +kernel)), (TSi 424 (by decide +kernel) (by decide +kernel)), kk_J0_isLatin1_aae02⟩
theorem lk_J0_505 : LKV RJ0 505 MJ0_length_8abf5 := ⟨(TSi 428 (by decide +kernel) (by decide +kernel)), (TSi 429 (by decide +kernel) (by decide +kernel)), (TSi 430 (by decide +kernel) (by decide +kernel)), kk_J0_length_8abf5⟩
theorem lk_J0_633 : LKV RJ0 633 MJ0_indexOf_7cf53 := ⟨(TSi 418 (by decide +kernel) (by decide +kernel)), (TSi 419 (by decide +kernel) (by decide +kernel)), (TSi 420 (by decide +kernel) (by decide +kernel)), kk_J0_indexOf_7cf53⟩
theorem lk_J0_637 : LKS RJ0 637 MJ1_indexOf_4cfef := ⟨(TSi 436 (by decide +kernel) (by decide +kernel)), (TSi 437 (by decide +kernel) (by decide +kernel)), kk_J1_indexOf_4cfef⟩
theorem lk_J1_88 : LKS RJ1 88 MJ1_canEncode_9a6ad := ⟨(TSi 439 (by decide +kernel) (by decide +kernel)), (TSi 440 (by decide +kernel) (by decide +kernel)), kk_J1_canEncode_9a6ad⟩
theorem lk_J1_95 : LKS RJ1 95 MJ1_indexOfChar_4cfef := ⟨(TSi 448 (by decide +kernel) (by decide +kernel)), (TSi 449 (by decide +kernel) (by decide +kernel)), kk_J1_indexOfChar_4cfef⟩
theorem lk_X6_62 : LKV RX6 62 MJ0_indexOf_0f7a4 := ⟨(TSi 414 (by decide +kernel) (by decide +kernel)), (TSi 415 (by decide +kernel) (by decide +kernel)), (TSi 416 (by decide +kernel) (by decide +kernel)), kk_J0_indexOf_0f7a4⟩
theorem np_J0_coder_7d493 : np MJ0_coder_7d493 0 := by unfold np; decide +kernel
theorem np_J0_indexOf_0f7a4 : np MJ0_indexOf_0f7a4 1 := by unfold np; decide +kernel
theorem np_J0_indexOf_7cf53 : np MJ0_indexOf_7cf53 2 := by unfold np; decide +kernel
theorem np_J0_isLatin1_aae02 : np MJ0_isLatin1_aae02 0 := by unfold np; decide +kernel
theorem np_J0_length_8abf5 : np MJ0_length_8abf5 0 := by unfold np; decide +kernel
theorem np_J1_canEncode_9a6ad : np MJ1_canEncode_9a6ad 1 := by unfold np; decide +kernel
theorem np_J1_indexOfChar_4cfef : np MJ1_indexOfChar_4cfef 4 := by unfold np; decide +kernel
theorem np_J1_indexOf_4cfef : np MJ1_indexOf_4cfef 4 := by unfold np; decide +kernel
theorem kmm_min_J1_38 : Cond.methodLink RJ1 38 Lib.Math.min.name ∈ TS := (TSi 445 (by decide +kernel) (by decide +kernel))
theorem kmm_max_J1_92 : Cond.methodLink RJ1 92 Lib.Math.max.name ∈ TS := (TSi 442 (by decide +kernel) (by decide +kernel))
def f_J0_coder_7d493 (s0 : Mem) : Option (Int32 × Mem) := if (1 : Int32) = 0 then (some ((1 : Int32), s0)) else some ((0 : Int32), s0)
theorem cs_J0_coder_7d493 (s0 : Mem) : CS 1 MJ0_coder_7d493 [.ref 1000] s0 ((f_J0_coder_7d493 s0).map wI) := by
  refine CS.of (by decide +kernel) (Nat.le_of_ble_eq_true rfl) (fun X Z hO hQ => ?_)
  show SIM X MJ0_coder_7d493 wI Z 0 [(0, .ref 1000)] [] s0 _
  unfold f_J0_coder_7d493
  refine S_ (R_gcs (hM := rfl) hO dJ0_coder_7d493_0) ?_
  refine S_if_eq (tgt := 13) hO dJ0_coder_7d493_3 (by decide) ?_ ?_
  · refine S_ (R_aload_n hO dJ0_coder_7d493_6 rfl) ?_
    refine S_ (R_scoder (hM := rfl) hO dJ0_coder_7d493_7) ?_
    refine S_ (R_goto (tgt := 14) hO dJ0_coder_7d493_10 (by decide)) ?_
    exact S_bret0 rfl hO hQ dJ0_coder_7d493_14 rfl (by decide)
  · refine S_ (R_iconst (v := (1 : Int32)) hO dJ0_coder_7d493_13 (by decide)) ?_
    exact S_bret0 rfl hO hQ dJ0_coder_7d493_14 rfl (by decide)
def f_J0_length_8abf5 (s0 : Mem) : Option (Int32 × Mem) := bd2 (f_J0_coder_7d493 s0) fun x1 s2 => some ((5 : Int32) >>> (x1 &&& 31), s2)
theorem cs_J0_length_8abf5 (s0 : Mem) : CS 2 MJ0_length_8abf5 [.ref 1000] s0 ((f_J0_length_8abf5 s0).map wI) := by
  refine CS.of (by decide +kernel) (Nat.le_of_ble_eq_true rfl) (fun X Z hO hQ => ?_)
  show SIM X MJ0_length_8abf5 wI Z 0 [(0, .ref 1000)] [] s0 _
  unfold f_J0_length_8abf5
  refine S_ (R_aload_n hO dJ0_length_8abf5_0 rfl) ?_
  refine S_ (R_sval (hM := rfl) hO dJ0_length_8abf5_1) ?_
  refine S_ (R_sblen hO dJ0_length_8abf5_4) ?_
  refine S_ (R_aload_n hO dJ0_length_8abf5_5 rfl) ?_
  refine S_callTI (rest := [.int (5 : Int32)]) hO dJ0_length_8abf5_6 (cs_J0_coder_7d493 s0) (by omega) lk_J0_335 np_J0_coder_7d493 rfl (Nat.le_of_ble_eq_true rfl) rfl (fun x1 s2 => ?_)
  refine S_ (R_ishr hO dJ0_length_8abf5_9) ?_
  exact S_iret rfl hO hQ dJ0_length_8abf5_10 rfl
def f_J0_isLatin1_aae02 (s0 : Mem) : Option (Int32 × Mem) := if (1 : Int32) = 0 then (some ((0 : Int32), s0)) else if (0 : Int32) = 0 then (some ((1 : Int32), s0)) else some ((0 : Int32), s0)
theorem cs_J0_isLatin1_aae02 (s0 : Mem) : CS 1 MJ0_isLatin1_aae02 [.ref 1000] s0 ((f_J0_isLatin1_aae02 s0).map wI) := by
  refine CS.of (by decide +kernel) (Nat.le_of_ble_eq_true rfl) (fun X Z hO hQ => ?_)
  show SIM X MJ0_isLatin1_aae02 wI Z 0 [(0, .ref 1000)] [] s0 _
  unfold f_J0_isLatin1_aae02
  refine S_ (R_gcs (hM := rfl) hO dJ0_isLatin1_aae02_0) ?_
  refine S_if_eq (tgt := 17) hO dJ0_isLatin1_aae02_3 (by decide) ?_ ?_
  · refine S_ (R_aload_n hO dJ0_isLatin1_aae02_6 rfl) ?_
    refine S_ (R_scoder (hM := rfl) hO dJ0_isLatin1_aae02_7) ?_
    refine S_if_ne (tgt := 17) hO dJ0_isLatin1_aae02_10 (by decide) ?_ ?_
    · refine S_ (R_iconst (v := (1 : Int32)) hO dJ0_isLatin1_aae02_13 (by decide)) ?_
      refine S_ (R_goto (tgt := 18) hO dJ0_isLatin1_aae02_14 (by decide)) ?_
      exact S_zret0 rfl hO hQ dJ0_isLatin1_aae02_18 rfl (by decide)
    · refine S_ (R_iconst (v := (0 : Int32)) hO dJ0_isLatin1_aae02_17 (by decide)) ?_
      exact S_zret0 rfl hO hQ dJ0_isLatin1_aae02_18 rfl (by decide)
  · refine S_ (R_iconst (v := (0 : Int32)) hO dJ0_isLatin1_aae02_17 (by decide)) ?_
    exact S_zret0 rfl hO hQ dJ0_isLatin1_aae02_18 rfl (by decide)
def f_J1_canEncode_9a6ad (p0 : Int32) (s0 : Mem) : Option (Int32 × Mem) := if p0 < 0 then (some ((0 : Int32), s0)) else if (255 : Int32) < p0 then (some ((0 : Int32), s0)) else some ((1 : Int32), s0)
theorem cs_J1_canEncode_9a6ad (p0 : Int32) (s0 : Mem) : CS 1 MJ1_canEncode_9a6ad [.int p0] s0 ((f_J1_canEncode_9a6ad p0 s0).map wI) := by
  refine CS.of (by decide +kernel) (Nat.le_of_ble_eq_true rfl) (fun X Z hO hQ => ?_)
  show SIM X MJ1_canEncode_9a6ad wI Z 0 [(0, .int p0)] [] s0 _
  unfold f_J1_canEncode_9a6ad
  refine S_ (R_iload_n hO dJ1_canEncode_9a6ad_0 rfl) ?_
  refine S_if_lt (tgt := 15) hO dJ1_canEncode_9a6ad_1 (by decide) ?_ ?_
  · refine S_ (R_iload_n hO dJ1_canEncode_9a6ad_4 rfl) ?_
    refine S_ (R_sipush (v := (255 : Int32)) hO dJ1_canEncode_9a6ad_5 (by decide)) ?_
    refine S_icmp_gt (tgt := 15) hO dJ1_canEncode_9a6ad_8 (by decide) ?_ ?_
    · refine S_ (R_iconst (v := (1 : Int32)) hO dJ1_canEncode_9a6ad_11 (by decide)) ?_
      refine S_ (R_goto (tgt := 16) hO dJ1_canEncode_9a6ad_12 (by decide)) ?_
      exact S_zret0 rfl hO hQ dJ1_canEncode_9a6ad_16 rfl (by decide)
    · refine S_ (R_iconst (v := (0 : Int32)) hO dJ1_canEncode_9a6ad_15 (by decide)) ?_
      exact S_zret0 rfl hO hQ dJ1_canEncode_9a6ad_16 rfl (by decide)
  · refine S_ (R_iconst (v := (0 : Int32)) hO dJ1_canEncode_9a6ad_15 (by decide)) ?_
    exact S_zret0 rfl hO hQ dJ1_canEncode_9a6ad_16 rfl (by decide)
def f_J1_indexOfChar_4cfef_7 (p1 : Int32) (p2 : Int32) (p3 : Int32) : Nat → Int32 → Int32 → Mem → Option (Int32 × Mem)
  | 0, _, _, _ => none
  | n + 1, m4, m5, s0 => if p3 ≤ m5 then (some ((-1 : Int32), s0)) else ing m5 5 <| if (sby m5.toNatClampNeg) = m4 then (some (m5, s0)) else lt (m5 + (1 : Int32)) fun x1 => f_J1_indexOfChar_4cfef_7 p1 p2 p3 n m4 x1 s0
theorem w_J1_indexOfChar_4cfef_7 {X : CX} {Z : Option Value × Mem → Prop} (hO : OKX X false 1 MJ1_indexOfChar_4cfef) (hQ : OKS X Z) (p1 : Int32) (p2 : Int32) (p3 : Int32) : ∀ (n : Nat) (m4 : Int32) (m5 : Int32) (s0 : Mem), SIM X MJ1_indexOfChar_4cfef wI Z 7 [(0, .ref 1001), (3, .int p3), (4, .int m4), (5, .int m5)] [] s0 (f_J1_indexOfChar_4cfef_7 p1 p2 p3 n m4 m5 s0) := by
  intro n
  induction n with
  | zero => intros; exact S_none
  | succ n ih =>
    intro m4 m5 s0
    rw [f_J1_indexOfChar_4cfef_7]
    refine S_ (R_iload hO dJ1_indexOfChar_4cfef_7 rfl) ?_
    refine S_ (R_iload_n hO dJ1_indexOfChar_4cfef_9 rfl) ?_
    refine S_icmp_ge (tgt := 31) hO dJ1_indexOfChar_4cfef_10 (by decide) ?_ ?_
    · refine S_ (R_aload_n hO dJ1_indexOfChar_4cfef_13 rfl) ?_
      refine S_ (R_iload hO dJ1_indexOfChar_4cfef_14 rfl) ?_
      refine S_sbld hO dJ1_indexOfChar_4cfef_16 ?_
      refine S_ (R_iload hO dJ1_indexOfChar_4cfef_17 rfl) ?_
      refine S_icmp_ne (tgt := 25) hO dJ1_indexOfChar_4cfef_19 (by decide) ?_ ?_
      · refine S_ (R_iload hO dJ1_indexOfChar_4cfef_22 rfl) ?_
        exact S_iret rfl hO hQ dJ1_indexOfChar_4cfef_24 rfl
      · refine S_iinc (L2 := fun x1 => [(5, .int x1), (0, .ref 1001), (3, .int p3), (4, .int m4)]) (v := (1 : Int32)) hO dJ1_indexOfChar_4cfef_25 rfl (by decide) (Nat.le_of_ble_eq_true rfl) (fun _ => rfl) (fun x1 => ?_)
        refine S_ (R_goto (tgt := 7) hO dJ1_indexOfChar_4cfef_28 (by decide)) ?_
        refine S_sub [1, 2, 3, 0] rfl ?_
        exact ih m4 x1 s0
    · refine S_ (R_iconst (v := (-1 : Int32)) hO dJ1_indexOfChar_4cfef_31 (by decide)) ?_
      exact S_iret rfl hO hQ dJ1_indexOfChar_4cfef_32 rfl
def f_J1_indexOfChar_4cfef (p1 : Int32) (p2 : Int32) (p3 : Int32) (s0 : Mem) : Option (Int32 × Mem) := lt (p1.toInt8.toInt32) fun x1 => lt (p2) fun x2 => f_J1_indexOfChar_4cfef_7 p1 p2 p3 FU x1 x2 s0
theorem cs_J1_indexOfChar_4cfef (p1 : Int32) (p2 : Int32) (p3 : Int32) (s0 : Mem) : CS 1 MJ1_indexOfChar_4cfef [.ref 1001, .int p1, .int p2, .int p3] s0 ((f_J1_indexOfChar_4cfef p1 p2 p3 s0).map wI) := by
  refine CS.of (by decide +kernel) (Nat.le_of_ble_eq_true rfl) (fun X Z hO hQ => ?_)
  show SIM X MJ1_indexOfChar_4cfef wI Z 0 [(0, .ref 1001), (1, .int p1), (2, .int p2), (3, .int p3)] [] s0 _
  unfold f_J1_indexOfChar_4cfef
  refine S_ (R_iload_n hO dJ1_indexOfChar_4cfef_0 rfl) ?_
  refine S_ (R_i2b hO dJ1_indexOfChar_4cfef_1) ?_
  refine S_istore (L2 := fun x1 => [(4, .int x1), (0, .ref 1001), (1, .int p1), (2, .int p2), (3, .int p3)]) hO dJ1_indexOfChar_4cfef_2 (Nat.le_of_ble_eq_true rfl) (fun _ => rfl) (fun x1 => ?_)
  refine S_ (R_iload_n hO dJ1_indexOfChar_4cfef_4 rfl) ?_
  refine S_istore (L2 := fun x2 => [(5, .int x2), (4, .int x1), (0, .ref 1001), (1, .int p1), (2, .int p2), (3, .int p3)]) hO dJ1_indexOfChar_4cfef_5 (Nat.le_of_ble_eq_true rfl) (fun _ => rfl) (fun x2 => ?_)
  refine S_sub [2, 5, 1, 0] rfl ?_
  exact w_J1_indexOfChar_4cfef_7 hO hQ p1 p2 p3 FU x1 x2 s0
def f_J1_indexOf_4cfef (p1 : Int32) (p2 : Int32) (p3 : Int32) (s0 : Mem) : Option (Int32 × Mem) := bd2 (f_J1_canEncode_9a6ad p1 s0) fun x1 s2 => if x1 = 0 then (some ((-1 : Int32), s2)) else lt (imax p2 (0 : Int32)) fun x3 => lt (imin p3 (5 : Int32)) fun x4 => if x3 < x4 then (bd2 (f_J1_indexOfChar_4cfef p1 x3 x4 s2) fun x5 s6 => some (x5, s6)) else some ((-1 : Int32), s2)
theorem cs_J1_indexOf_4cfef (p1 : Int32) (p2 : Int32) (p3 : Int32) (s0 : Mem) : CS 3 MJ1_indexOf_4cfef [.ref 1001, .int p1, .int p2, .int p3] s0 ((f_J1_indexOf_4cfef p1 p2 p3 s0).map wI) := by
  refine CS.of (by decide +kernel) (Nat.le_of_ble_eq_true rfl) (fun X Z hO hQ => ?_)
  show SIM X MJ1_indexOf_4cfef wI Z 0 [(0, .ref 1001), (1, .int p1), (2, .int p2), (3, .int p3)] [] s0 _
  unfold f_J1_indexOf_4cfef
  refine S_ (R_iload_n hO dJ1_indexOf_4cfef_0 rfl) ?_
  refine S_callSI (rest := []) hO dJ1_indexOf_4cfef_1 (cs_J1_canEncode_9a6ad p1 s0) (by omega) lk_J1_88 np_J1_canEncode_9a6ad rfl (Nat.le_of_ble_eq_true rfl) (fun x1 s2 => ?_)
  refine S_if_ne (tgt := 9) hO dJ1_indexOf_4cfef_4 (by decide) ?_ ?_
  · refine S_ (R_iconst (v := (-1 : Int32)) hO dJ1_indexOf_4cfef_7 (by decide)) ?_
    exact S_iret rfl hO hQ dJ1_indexOf_4cfef_8 rfl
  · refine S_ (R_iload_n hO dJ1_indexOf_4cfef_9 rfl) ?_
    refine S_ (R_iconst (v := (0 : Int32)) hO dJ1_indexOf_4cfef_10 (by decide)) ?_
    refine S_max hO dJ1_indexOf_4cfef_11 (by omega) kmm_max_J1_92 kw_max (Nat.le_of_ble_eq_true rfl) ?_
    refine S_istore_n (L2 := fun x3 => [(2, .int x3), (0, .ref 1001), (1, .int p1), (3, .int p3)]) hO dJ1_indexOf_4cfef_14 (Nat.le_of_ble_eq_true rfl) (fun _ => rfl) (fun x3 => ?_)
    refine S_ (R_iload_n hO dJ1_indexOf_4cfef_15 rfl) ?_
    refine S_ (R_aload_n hO dJ1_indexOf_4cfef_16 rfl) ?_
    refine S_ (R_sblen hO dJ1_indexOf_4cfef_17) ?_
    refine S_min hO dJ1_indexOf_4cfef_18 (by omega) kmm_min_J1_38 kw_min (Nat.le_of_ble_eq_true rfl) ?_
    refine S_istore_n (L2 := fun x4 => [(3, .int x4), (2, .int x3), (0, .ref 1001), (1, .int p1)]) hO dJ1_indexOf_4cfef_21 (Nat.le_of_ble_eq_true rfl) (fun _ => rfl) (fun x4 => ?_)
    refine S_ (R_iload_n hO dJ1_indexOf_4cfef_22 rfl) ?_
    refine S_ (R_iload_n hO dJ1_indexOf_4cfef_23 rfl) ?_
    refine S_icmp_lt (tgt := 29) hO dJ1_indexOf_4cfef_24 (by decide) ?_ ?_
    · refine S_ (R_iconst (v := (-1 : Int32)) hO dJ1_indexOf_4cfef_27 (by decide)) ?_
      exact S_iret rfl hO hQ dJ1_indexOf_4cfef_28 rfl
    · refine S_ (R_aload_n hO dJ1_indexOf_4cfef_29 rfl) ?_
      refine S_ (R_iload_n hO dJ1_indexOf_4cfef_30 rfl) ?_
      refine S_ (R_iload_n hO dJ1_indexOf_4cfef_31 rfl) ?_
      refine S_ (R_iload_n hO dJ1_indexOf_4cfef_32 rfl) ?_
      refine S_callSI (rest := []) hO dJ1_indexOf_4cfef_33 (cs_J1_indexOfChar_4cfef p1 x3 x4 s2) (by omega) lk_J1_95 np_J1_indexOfChar_4cfef rfl (Nat.le_of_ble_eq_true rfl) (fun x5 s6 => ?_)
      exact S_iret rfl hO hQ dJ1_indexOf_4cfef_36 rfl
def f_J0_indexOf_7cf53 (p1 : Int32) (p2 : Int32) (s0 : Mem) : Option (Int32 × Mem) := bd2 (f_J0_isLatin1_aae02 s0) fun x1 s2 => if x1 = 0 then (none) else bd2 (f_J0_length_8abf5 s2) fun x3 s4 => bd2 (f_J1_indexOf_4cfef p1 p2 x3 s4) fun x5 s6 => some (x5, s6)
theorem cs_J0_indexOf_7cf53 (p1 : Int32) (p2 : Int32) (s0 : Mem) : CS 4 MJ0_indexOf_7cf53 [.ref 1000, .int p1, .int p2] s0 ((f_J0_indexOf_7cf53 p1 p2 s0).map wI) := by
  refine CS.of (by decide +kernel) (Nat.le_of_ble_eq_true rfl) (fun X Z hO hQ => ?_)
  show SIM X MJ0_indexOf_7cf53 wI Z 0 [(0, .ref 1000), (1, .int p1), (2, .int p2)] [] s0 _
  unfold f_J0_indexOf_7cf53
  refine S_ (R_aload_n hO dJ0_indexOf_7cf53_0 rfl) ?_
  refine S_callTI (rest := []) hO dJ0_indexOf_7cf53_1 (cs_J0_isLatin1_aae02 s0) (by omega) lk_J0_492 np_J0_isLatin1_aae02 rfl (Nat.le_of_ble_eq_true rfl) rfl (fun x1 s2 => ?_)
  refine S_if_eq (tgt := 23) hO dJ0_indexOf_7cf53_4 (by decide) ?_ ?_
  · refine S_ (R_aload_n hO dJ0_indexOf_7cf53_7 rfl) ?_
    refine S_ (R_sval (hM := rfl) hO dJ0_indexOf_7cf53_8) ?_
    refine S_ (R_iload_n hO dJ0_indexOf_7cf53_11 rfl) ?_
    refine S_ (R_iload_n hO dJ0_indexOf_7cf53_12 rfl) ?_
    refine S_ (R_aload_n hO dJ0_indexOf_7cf53_13 rfl) ?_
    refine S_callTI (rest := [.int p2, .int p1, .ref 1001]) hO dJ0_indexOf_7cf53_14 (cs_J0_length_8abf5 s2) (by omega) lk_J0_505 np_J0_length_8abf5 rfl (Nat.le_of_ble_eq_true rfl) rfl (fun x3 s4 => ?_)
    refine S_callSI (rest := []) hO dJ0_indexOf_7cf53_17 (cs_J1_indexOf_4cfef p1 p2 x3 s4) (by omega) lk_J0_637 np_J1_indexOf_4cfef rfl (Nat.le_of_ble_eq_true rfl) (fun x5 s6 => ?_)
    refine S_ (R_goto (tgt := 36) hO dJ0_indexOf_7cf53_20 (by decide)) ?_
    exact S_iret rfl hO hQ dJ0_indexOf_7cf53_36 rfl
  · exact S_none
def f_J0_indexOf_0f7a4 (p1 : Int32) (s0 : Mem) : Option (Int32 × Mem) := bd2 (f_J0_indexOf_7cf53 p1 (0 : Int32) s0) fun x1 s2 => some (x1, s2)
theorem cs_J0_indexOf_0f7a4 (p1 : Int32) (s0 : Mem) : CS 5 MJ0_indexOf_0f7a4 [.ref 1000, .int p1] s0 ((f_J0_indexOf_0f7a4 p1 s0).map wI) := by
  refine CS.of (by decide +kernel) (Nat.le_of_ble_eq_true rfl) (fun X Z hO hQ => ?_)
  show SIM X MJ0_indexOf_0f7a4 wI Z 0 [(0, .ref 1000), (1, .int p1)] [] s0 _
  unfold f_J0_indexOf_0f7a4
  refine S_ (R_aload_n hO dJ0_indexOf_0f7a4_0 rfl) ?_
  refine S_ (R_iload_n hO dJ0_indexOf_0f7a4_1 rfl) ?_
  refine S_ (R_iconst (v := (0 : Int32)) hO dJ0_indexOf_0f7a4_2 (by decide)) ?_
  refine S_callTI (rest := []) hO dJ0_indexOf_0f7a4_3 (cs_J0_indexOf_7cf53 p1 (0 : Int32) s0) (by omega) lk_J0_633 np_J0_indexOf_7cf53 rfl (Nat.le_of_ble_eq_true rfl) rfl (fun x1 s2 => ?_)
  exact S_iret rfl hO hQ dJ0_indexOf_0f7a4_6 rfl
def f_X6_readSort_71 (m1 : Int32) (t0 : Int32) (s0 : Mem) : Option (Int32 × Mem) := bd (f_X6_step t0 s0) fun s2 => some (m1, s2)
theorem w_X6_readSort_71 {X : CX} {Z : Option Value × Mem → Prop} (hO : OKX X false 6 MX6_readSort) (hQ : OKS X Z) (m1 : Int32) (t0 : Int32) (s0 : Mem) : SIM X MX6_readSort wI Z 71 [(1, .int m1)] [.int t0, .ref 2] s0 (f_X6_readSort_71 m1 t0 s0) := by
  unfold f_X6_readSort_71
  refine S_callVV (rest := []) hO dX6_readSort_71 (cs_X6_step t0 s0) (by omega) lk_X6_68 np_X6_step (rc_2 rfl) rfl (Nat.le_of_ble_eq_true rfl) (fun s2 => ?_)
  refine S_ (R_iload_n hO dX6_readSort_74 rfl) ?_
  exact S_iret rfl hO hQ dX6_readSort_75 rfl
def f_X6_readSort_61 (m1 : Int32) (s0 : Mem) : Option (Int32 × Mem) := if m1 ≤ 0 then (f_X6_readSort_71 m1 (0 : Int32) s0) else f_X6_readSort_71 m1 (1 : Int32) s0
theorem w_X6_readSort_61 {X : CX} {Z : Option Value × Mem → Prop} (hO : OKX X false 6 MX6_readSort) (hQ : OKS X Z) (m1 : Int32) (s0 : Mem) : SIM X MX6_readSort wI Z 61 [(0, .ref 2), (1, .int m1)] [] s0 (f_X6_readSort_61 m1 s0) := by
  unfold f_X6_readSort_61
  refine S_ (R_aload_n hO dX6_readSort_61 rfl) ?_
  refine S_ (R_iload_n hO dX6_readSort_62 rfl) ?_
  refine S_if_le (tgt := 70) hO dX6_readSort_63 (by decide) ?_ ?_
  · refine S_ (R_iconst (v := (1 : Int32)) hO dX6_readSort_66 (by decide)) ?_
    refine S_ (R_goto (tgt := 71) hO dX6_readSort_67 (by decide)) ?_
    refine S_sub [1] rfl ?_
    exact w_X6_readSort_71 hO hQ m1 (1 : Int32) s0
  · refine S_ (R_iconst (v := (0 : Int32)) hO dX6_readSort_70 (by decide)) ?_
    refine S_sub [1] rfl ?_
    exact w_X6_readSort_71 hO hQ m1 (0 : Int32) s0
def f_X6_readSort_32 (t0 : Int32) (s0 : Mem) : Option (Int32 × Mem) := lt (t0) fun x1 => if (s0 2 3) = 0 then (if x1 ≤ 0 then (f_X6_readSort_61 x1 s0) else if (s0 3 3) < (8 : Int32) then (f_X6_readSort_61 x1 s0) else lt (st2 s0 2 3 (3 : Int32)) fun s2 => f_X6_readSort_61 x1 s2) else f_X6_readSort_61 x1 s0
theorem w_X6_readSort_32 {X : CX} {Z : Option Value × Mem → Prop} (hO : OKX X false 6 MX6_readSort) (hQ : OKS X Z) (t0 : Int32) (s0 : Mem) : SIM X MX6_readSort wI Z 32 [(0, .ref 2)] [.int t0] s0 (f_X6_readSort_32 t0 s0) := by
  unfold f_X6_readSort_32
  refine S_istore_n (L2 := fun x1 => [(1, .int x1), (0, .ref 2)]) hO dX6_readSort_32 (Nat.le_of_ble_eq_true rfl) (fun _ => rfl) (fun x1 => ?_)
  refine S_ (R_aload_n hO dX6_readSort_33 rfl) ?_
  refine S_getI hO dX6_readSort_34 fl_X6_29 sh_2 rfl ?_
  refine S_if_ne (tgt := 61) hO dX6_readSort_37 (by decide) ?_ ?_
  · refine S_ (R_iload_n hO dX6_readSort_40 rfl) ?_
    refine S_if_le (tgt := 61) hO dX6_readSort_41 (by decide) ?_ ?_
    · refine S_ (R_aload_n hO dX6_readSort_44 rfl) ?_
      refine S_getR hO dX6_readSort_45 fl_X6_12 sh_2 rfl ?_
      refine S_getI hO dX6_readSort_48 fl_X6_32 isSt_3.1 rfl ?_
      refine S_ (R_bipush (v := (8 : Int32)) hO dX6_readSort_51 (by decide)) ?_
      refine S_icmp_lt (tgt := 61) hO dX6_readSort_53 (by decide) ?_ ?_
      · refine S_ (R_aload_n hO dX6_readSort_56 rfl) ?_
        refine S_ (R_iconst (v := (3 : Int32)) hO dX6_readSort_57 (by decide)) ?_
        refine S_put hO dX6_readSort_58 fl_X6_29 sh_2 rfl (fun s2 => ?_)
        refine S_sub [1, 0] rfl ?_
        exact w_X6_readSort_61 hO hQ x1 s2
      · refine S_sub [1, 0] rfl ?_
        exact w_X6_readSort_61 hO hQ x1 s0
    · refine S_sub [1, 0] rfl ?_
      exact w_X6_readSort_61 hO hQ x1 s0
  · refine S_sub [1, 0] rfl ?_
    exact w_X6_readSort_61 hO hQ x1 s0
def f_X6_readSort (s0 : Mem) : Option (Int32 × Mem) := if (s0 2 1) ≤ (s0 2 2) then (f_X6_readSort_32 (0 : Int32) s0) else ing (s0 2 2) 100 <| bd2 (f_J0_indexOf_0f7a4 (((s0 7 (s0 2 2).toNatClampNeg).toUInt32 % 65536).toInt32) s0) fun x1 s2 => f_X6_readSort_32 (x1 + (1 : Int32)) s2
theorem cs_X6_readSort (s0 : Mem) : CS 6 MX6_readSort [.ref 2] s0 ((f_X6_readSort s0).map wI) := by
  refine CS.of (by decide +kernel) (Nat.le_of_ble_eq_true rfl) (fun X Z hO hQ => ?_)
  show SIM X MX6_readSort wI Z 0 [(0, .ref 2)] [] s0 _
  unfold f_X6_readSort
  refine S_ (R_aload_n hO dX6_readSort_0 rfl) ?_
  refine S_getI hO dX6_readSort_1 fl_X6_26 sh_2 rfl ?_
  refine S_ (R_aload_n hO dX6_readSort_4 rfl) ?_
  refine S_getI hO dX6_readSort_5 fl_X6_22 sh_2 rfl ?_
  refine S_icmp_ge (tgt := 31) hO dX6_readSort_8 (by decide) ?_ ?_
  · refine S_ (R_sldc hO dX6_readSort_11 rfl) ?_
    refine S_ (R_aload_n hO dX6_readSort_13 rfl) ?_
    refine S_getR hO dX6_readSort_14 fl_X6_18 sh_2 rfl ?_
    refine S_ (R_aload_n hO dX6_readSort_17 rfl) ?_
    refine S_getI hO dX6_readSort_18 fl_X6_26 sh_2 rfl ?_
    refine S_iald hO dX6_readSort_21 sh_7 ?_
    refine S_ (R_i2c hO dX6_readSort_22) ?_
    refine S_callTI (rest := []) hO dX6_readSort_23 (cs_J0_indexOf_0f7a4 (((s0 7 (s0 2 2).toNatClampNeg).toUInt32 % 65536).toInt32) s0) (by omega) lk_X6_62 np_J0_indexOf_0f7a4 rfl (Nat.le_of_ble_eq_true rfl) rfl (fun x1 s2 => ?_)
    refine S_ (R_iconst (v := (1 : Int32)) hO dX6_readSort_26 (by decide)) ?_
    refine S_ (R_iadd hO dX6_readSort_27) ?_
    refine S_ (R_goto (tgt := 32) hO dX6_readSort_28 (by decide)) ?_
    refine S_sub [0] rfl ?_
    exact w_X6_readSort_32 hO hQ (x1 + (1 : Int32)) s2
  · refine S_ (R_iconst (v := (0 : Int32)) hO dX6_readSort_31 (by decide)) ?_
    refine S_sub [0] rfl ?_
    exact w_X6_readSort_32 hO hQ (0 : Int32) s0
def f_X6_readHouse (s0 : Mem) : Option (Mem) := bd2 (f_X6_readSort s0) fun x1 s2 => lt (x1) fun x3 => bd2 (f_X6_readNumber (0 : Int32) (99 : Int32) s2) fun x4 s5 => lt (x4) fun x6 => bd (f_X6_readSign (44 : Int32) s5) fun s8 => bd2 (f_X6_readNumber (1 : Int32) (9 : Int32) s8) fun x9 s10 => lt (x9) fun x11 => bd (f_X6_readSign (59 : Int32) s10) fun s13 => if (s13 2 3) = 0 then (bd (f_X5_add 3 x3 x6 x11 s13) fun s15 => some s15) else some s13
theorem cs_X6_readHouse (s0 : Mem) : CS 7 MX6_readHouse [.ref 2] s0 ((f_X6_readHouse s0).map wV) := by
  refine CS.of (by decide +kernel) (Nat.le_of_ble_eq_true rfl) (fun X Z hO hQ => ?_)
  show SIM X MX6_readHouse wV Z 0 [(0, .ref 2)] [] s0 _
  unfold f_X6_readHouse
  refine S_ (R_aload_n hO dX6_readHouse_0 rfl) ?_
  refine S_callVI (rest := []) hO dX6_readHouse_1 (cs_X6_readSort s0) (by omega) lk_X6_52 np_X6_readSort (rc_2 rfl) rfl (Nat.le_of_ble_eq_true rfl) (fun x1 s2 => ?_)
  refine S_istore_n (L2 := fun x3 => [(1, .int x3), (0, .ref 2)]) hO dX6_readHouse_4 (Nat.le_of_ble_eq_true rfl) (fun _ => rfl) (fun x3 => ?_)
  refine S_ (R_aload_n hO dX6_readHouse_5 rfl) ?_
  refine S_ (R_iconst (v := (0 : Int32)) hO dX6_readHouse_6 (by decide)) ?_
  refine S_ (R_bipush (v := (99 : Int32)) hO dX6_readHouse_7 (by decide)) ?_
  refine S_callVI (rest := []) hO dX6_readHouse_9 (cs_X6_readNumber (0 : Int32) (99 : Int32) s2) (by omega) lk_X6_39 np_X6_readNumber (rc_2 rfl) rfl (Nat.le_of_ble_eq_true rfl) (fun x4 s5 => ?_)
  refine S_istore_n (L2 := fun x6 => [(2, .int x6), (1, .int x3), (0, .ref 2)]) hO dX6_readHouse_12 (Nat.le_of_ble_eq_true rfl) (fun _ => rfl) (fun x6 => ?_)
  refine S_ (R_aload_n hO dX6_readHouse_13 rfl) ?_
  refine S_ (R_bipush (v := (44 : Int32)) hO dX6_readHouse_14 (by decide)) ?_
  refine S_callVV (rest := []) hO dX6_readHouse_16 (cs_X6_readSign (44 : Int32) s5) (by omega) lk_X6_35 np_X6_readSign (rc_2 rfl) rfl (Nat.le_of_ble_eq_true rfl) (fun s8 => ?_)
  refine S_ (R_aload_n hO dX6_readHouse_19 rfl) ?_
  refine S_ (R_iconst (v := (1 : Int32)) hO dX6_readHouse_20 (by decide)) ?_
  refine S_ (R_bipush (v := (9 : Int32)) hO dX6_readHouse_21 (by decide)) ?_
  refine S_callVI (rest := []) hO dX6_readHouse_23 (cs_X6_readNumber (1 : Int32) (9 : Int32) s8) (by omega) lk_X6_39 np_X6_readNumber (rc_2 rfl) rfl (Nat.le_of_ble_eq_true rfl) (fun x9 s10 => ?_)
  refine S_istore_n (L2 := fun x11 => [(3, .int x11), (2, .int x6), (1, .int x3), (0, .ref 2)]) hO dX6_readHouse_26 (Nat.le_of_ble_eq_true rfl) (fun _ => rfl) (fun x11 => ?_)
  refine S_ (R_aload_n hO dX6_readHouse_27 rfl) ?_
  refine S_ (R_bipush (v := (59 : Int32)) hO dX6_readHouse_28 (by decide)) ?_
  refine S_callVV (rest := []) hO dX6_readHouse_30 (cs_X6_readSign (59 : Int32) s10) (by omega) lk_X6_35 np_X6_readSign (rc_2 rfl) rfl (Nat.le_of_ble_eq_true rfl) (fun s13 => ?_)
  refine S_ (R_aload_n hO dX6_readHouse_33 rfl) ?_
  refine S_getI hO dX6_readHouse_34 fl_X6_29 sh_2 rfl ?_
  refine S_if_ne (tgt := 50) hO dX6_readHouse_37 (by decide) ?_ ?_
  · refine S_ (R_aload_n hO dX6_readHouse_40 rfl) ?_
    refine S_getR hO dX6_readHouse_41 fl_X6_12 sh_2 rfl ?_
    refine S_ (R_iload_n hO dX6_readHouse_44 rfl) ?_
    refine S_ (R_iload_n hO dX6_readHouse_45 rfl) ?_
    refine S_ (R_iload_n hO dX6_readHouse_46 rfl) ?_
    refine S_callVV (rest := []) hO dX6_readHouse_47 (cs_X5_add 3 isSt_3 x3 x6 x11 s13) (by omega) lk_X6_56 np_X5_add (rc_St isSt_3 rfl) rfl (Nat.le_of_ble_eq_true rfl) (fun s15 => ?_)
    exact S_vret rfl hO hQ dX6_readHouse_50 rfl
  · exact S_vret rfl hO hQ dX6_readHouse_50 rfl
def f_X6_read_70 : Nat → Int32 → Mem → Option (Mem)
  | 0, _, _ => none
  | n + 1, m1, s0 => if (8 : Int32) < m1 then (some s0) else if (s0 2 3) = 0 then (if (s0 2 1) ≤ (s0 2 2) then (some s0) else bd (f_X6_readHouse s0) fun s2 => lt (m1 + (1 : Int32)) fun x3 => f_X6_read_70 n x3 s2) else some s0
theorem w_X6_read_70 {X : CX} {Z : Option Value × Mem → Prop} (hO : OKX X false 8 MX6_read) (hQ : OKS X Z) : ∀ (n : Nat) (m1 : Int32) (s0 : Mem), SIM X MX6_read wV Z 70 [(0, .ref 2), (1, .int m1)] [] s0 (f_X6_read_70 n m1 s0) := by
  intro n
  induction n with
  | zero => intros; exact S_none
  | succ n ih =>
    intro m1 s0
    rw [f_X6_read_70]
    refine S_ (R_iload_n hO dX6_read_70 rfl) ?_
    refine S_ (R_bipush (v := (8 : Int32)) hO dX6_read_71 (by decide)) ?_
    refine S_icmp_gt (tgt := 104) hO dX6_read_73 (by decide) ?_ ?_
    · refine S_ (R_aload_n hO dX6_read_76 rfl) ?_
      refine S_getI hO dX6_read_77 fl_X6_29 sh_2 rfl ?_
      refine S_if_ne (tgt := 104) hO dX6_read_80 (by decide) ?_ ?_
      · refine S_ (R_aload_n hO dX6_read_83 rfl) ?_
        refine S_getI hO dX6_read_84 fl_X6_26 sh_2 rfl ?_
        refine S_ (R_aload_n hO dX6_read_87 rfl) ?_
        refine S_getI hO dX6_read_88 fl_X6_22 sh_2 rfl ?_
        refine S_icmp_ge (tgt := 104) hO dX6_read_91 (by decide) ?_ ?_
        · refine S_ (R_aload_n hO dX6_read_94 rfl) ?_
          refine S_callVV (rest := []) hO dX6_read_95 (cs_X6_readHouse s0) (by omega) lk_X6_49 np_X6_readHouse (rc_2 rfl) rfl (Nat.le_of_ble_eq_true rfl) (fun s2 => ?_)
          refine S_iinc (L2 := fun x3 => [(1, .int x3), (0, .ref 2)]) (v := (1 : Int32)) hO dX6_read_98 rfl (by decide) (Nat.le_of_ble_eq_true rfl) (fun _ => rfl) (fun x3 => ?_)
          refine S_ (R_goto (tgt := 70) hO dX6_read_101 (by decide)) ?_
          refine S_sub [1, 0] rfl ?_
          exact ih x3 s2
        · exact S_vret rfl hO hQ dX6_read_104 rfl
      · exact S_vret rfl hO hQ dX6_read_104 rfl
    · exact S_vret rfl hO hQ dX6_read_104 rfl
def f_X6_read (s0 : Mem) : Option (Mem) := lt (st2 s0 2 2 (0 : Int32)) fun s1 => lt (st2 s1 2 3 (0 : Int32)) fun s2 => lt (st2 s2 3 3 (0 : Int32)) fun s3 => bd (f_X6_readSign (116 : Int32) s3) fun s5 => bd2 (f_X6_readNumber (1 : Int32) (30 : Int32) s5) fun x6 s7 => lt (st2 s7 3 4 x6) fun s8 => bd (f_X6_readSign (44 : Int32) s8) fun s10 => bd2 (f_X6_readNumber (0 : Int32) (40 : Int32) s10) fun x11 s12 => lt (st2 s12 3 5 x11) fun s13 => bd (f_X6_readSign (59 : Int32) s13) fun s15 => bd (f_X6_readHouse s15) fun s17 => lt ((1 : Int32)) fun x18 => f_X6_read_70 FU x18 s17
theorem cs_X6_read (s0 : Mem) : CS 8 MX6_read [.ref 2] s0 ((f_X6_read s0).map wV) := by
  refine CS.of (by decide +kernel) (Nat.le_of_ble_eq_true rfl) (fun X Z hO hQ => ?_)
  show SIM X MX6_read wV Z 0 [(0, .ref 2)] [] s0 _
  unfold f_X6_read
  refine S_ (R_aload_n hO dX6_read_0 rfl) ?_
  refine S_ (R_iconst (v := (0 : Int32)) hO dX6_read_1 (by decide)) ?_
  refine S_put hO dX6_read_2 fl_X6_26 sh_2 rfl (fun s1 => ?_)
  refine S_ (R_aload_n hO dX6_read_5 rfl) ?_
  refine S_ (R_iconst (v := (0 : Int32)) hO dX6_read_6 (by decide)) ?_
  refine S_put hO dX6_read_7 fl_X6_29 sh_2 rfl (fun s2 => ?_)
  refine S_ (R_aload_n hO dX6_read_10 rfl) ?_
  refine S_getR hO dX6_read_11 fl_X6_12 sh_2 rfl ?_
  refine S_ (R_iconst (v := (0 : Int32)) hO dX6_read_14 (by decide)) ?_
  refine S_put hO dX6_read_15 fl_X6_32 isSt_3.1 rfl (fun s3 => ?_)
  refine S_ (R_aload_n hO dX6_read_18 rfl) ?_
  refine S_ (R_bipush (v := (116 : Int32)) hO dX6_read_19 (by decide)) ?_
  refine S_callVV (rest := []) hO dX6_read_21 (cs_X6_readSign (116 : Int32) s3) (by omega) lk_X6_35 np_X6_readSign (rc_2 rfl) rfl (Nat.le_of_ble_eq_true rfl) (fun s5 => ?_)
  refine S_ (R_aload_n hO dX6_read_24 rfl) ?_
  refine S_getR hO dX6_read_25 fl_X6_12 sh_2 rfl ?_
  refine S_ (R_aload_n hO dX6_read_28 rfl) ?_
  refine S_ (R_iconst (v := (1 : Int32)) hO dX6_read_29 (by decide)) ?_
  refine S_ (R_bipush (v := (30 : Int32)) hO dX6_read_30 (by decide)) ?_
  refine S_callVI (rest := [.ref 3]) hO dX6_read_32 (cs_X6_readNumber (1 : Int32) (30 : Int32) s5) (by omega) lk_X6_39 np_X6_readNumber (rc_2 rfl) rfl (Nat.le_of_ble_eq_true rfl) (fun x6 s7 => ?_)
  refine S_put hO dX6_read_35 fl_X6_43 isSt_3.1 rfl (fun s8 => ?_)
  refine S_ (R_aload_n hO dX6_read_38 rfl) ?_
  refine S_ (R_bipush (v := (44 : Int32)) hO dX6_read_39 (by decide)) ?_
  refine S_callVV (rest := []) hO dX6_read_41 (cs_X6_readSign (44 : Int32) s8) (by omega) lk_X6_35 np_X6_readSign (rc_2 rfl) rfl (Nat.le_of_ble_eq_true rfl) (fun s10 => ?_)
  refine S_ (R_aload_n hO dX6_read_44 rfl) ?_
  refine S_getR hO dX6_read_45 fl_X6_12 sh_2 rfl ?_
  refine S_ (R_aload_n hO dX6_read_48 rfl) ?_
  refine S_ (R_iconst (v := (0 : Int32)) hO dX6_read_49 (by decide)) ?_
  refine S_ (R_bipush (v := (40 : Int32)) hO dX6_read_50 (by decide)) ?_
  refine S_callVI (rest := [.ref 3]) hO dX6_read_52 (cs_X6_readNumber (0 : Int32) (40 : Int32) s10) (by omega) lk_X6_39 np_X6_readNumber (rc_2 rfl) rfl (Nat.le_of_ble_eq_true rfl) (fun x11 s12 => ?_)
  refine S_put hO dX6_read_55 fl_X6_46 isSt_3.1 rfl (fun s13 => ?_)
  refine S_ (R_aload_n hO dX6_read_58 rfl) ?_
  refine S_ (R_bipush (v := (59 : Int32)) hO dX6_read_59 (by decide)) ?_
  refine S_callVV (rest := []) hO dX6_read_61 (cs_X6_readSign (59 : Int32) s13) (by omega) lk_X6_35 np_X6_readSign (rc_2 rfl) rfl (Nat.le_of_ble_eq_true rfl) (fun s15 => ?_)
  refine S_ (R_aload_n hO dX6_read_64 rfl) ?_
  refine S_callVV (rest := []) hO dX6_read_65 (cs_X6_readHouse s15) (by omega) lk_X6_49 np_X6_readHouse (rc_2 rfl) rfl (Nat.le_of_ble_eq_true rfl) (fun s17 => ?_)
  refine S_ (R_iconst (v := (1 : Int32)) hO dX6_read_68 (by decide)) ?_
  refine S_istore_n (L2 := fun x18 => [(1, .int x18), (0, .ref 2)]) hO dX6_read_69 (Nat.le_of_ble_eq_true rfl) (fun _ => rfl) (fun x18 => ?_)
  refine S_sub [1, 0] rfl ?_
  exact w_X6_read_70 hO hQ FU x18 s17
def f_X7_street (s0 : Mem) : Option (Int32 × Mem) := bd (f_X6_read s0) fun s2 => lt (st2 s2 2 1 (0 : Int32)) fun s3 => if (s3 2 3) = 0 then (bd (f_X5_take 8 3 s3) fun s6 => bd (f_X0_forget s6) fun s8 => some (s8 8 3, s8)) else lt (st2 s3 0 8 (s3 2 3)) fun s4 => some ((-1000100 : Int32) - (s4 2 2), s4)
theorem cs_X7_street (s0 : Mem) : CS 9 MX7_street [.ref 0] s0 ((f_X7_street s0).map wI) := by
  refine CS.of (by decide +kernel) (Nat.le_of_ble_eq_true rfl) (fun X Z hO hQ => ?_)
  show SIM X MX7_street wI Z 0 [(0, .ref 0)] [] s0 _
  unfold f_X7_street
  refine S_ (R_aload_n hO dX7_street_0 rfl) ?_
  refine S_getR hO dX7_street_1 fl_X7_18 sh_0 rfl ?_
  refine S_callVV (rest := []) hO dX7_street_4 (cs_X6_read s0) (by omega) lk_X7_118 np_X6_read (rc_2 rfl) rfl (Nat.le_of_ble_eq_true rfl) (fun s2 => ?_)
  refine S_ (R_aload_n hO dX7_street_7 rfl) ?_
  refine S_getR hO dX7_street_8 fl_X7_18 sh_0 rfl ?_
  refine S_ (R_iconst (v := (0 : Int32)) hO dX7_street_11 (by decide)) ?_
  refine S_put hO dX7_street_12 fl_X7_111 sh_2 rfl (fun s3 => ?_)
  refine S_ (R_aload_n hO dX7_street_15 rfl) ?_
  refine S_getR hO dX7_street_16 fl_X7_18 sh_0 rfl ?_
  refine S_getI hO dX7_street_19 fl_X7_121 sh_2 rfl ?_
  refine S_if_eq (tgt := 47) hO dX7_street_22 (by decide) ?_ ?_
  · refine S_ (R_aload_n hO dX7_street_25 rfl) ?_
    refine S_ (R_aload_n hO dX7_street_26 rfl) ?_
    refine S_getR hO dX7_street_27 fl_X7_18 sh_0 rfl ?_
    refine S_getI hO dX7_street_30 fl_X7_121 sh_2 rfl ?_
    refine S_put hO dX7_street_33 fl_X7_124 sh_0 rfl (fun s4 => ?_)
    refine S_ (R_ldc (v := (-1000100 : Int32)) hO dX7_street_36 kc_X7_127) ?_
    refine S_ (R_aload_n hO dX7_street_38 rfl) ?_
    refine S_getR hO dX7_street_39 fl_X7_18 sh_0 rfl ?_
    refine S_getI hO dX7_street_42 fl_X7_128 sh_2 rfl ?_
    refine S_ (R_isub hO dX7_street_45) ?_
    exact S_iret rfl hO hQ dX7_street_46 rfl
  · refine S_ (R_aload_n hO dX7_street_47 rfl) ?_
    refine S_getR hO dX7_street_48 fl_X7_25 sh_0 rfl ?_
    refine S_ (R_aload_n hO dX7_street_51 rfl) ?_
    refine S_getR hO dX7_street_52 fl_X7_18 sh_0 rfl ?_
    refine S_getR hO dX7_street_55 fl_X7_131 sh_2 rfl ?_
    refine S_callVV (rest := []) hO dX7_street_58 (cs_X5_take 8 isSt_8 3 isSt_3 s3) (by omega) lk_X7_134 np_X5_take (rc_St isSt_8 rfl) rfl (Nat.le_of_ble_eq_true rfl) (fun s6 => ?_)
    refine S_ (R_aload_n hO dX7_street_61 rfl) ?_
    refine S_getR hO dX7_street_62 fl_X7_36 sh_0 rfl ?_
    refine S_callVV (rest := []) hO dX7_street_65 (cs_X0_forget s6) (by omega) lk_X7_138 np_X0_forget (rc_13 rfl) rfl (Nat.le_of_ble_eq_true rfl) (fun s8 => ?_)
    refine S_ (R_aload_n hO dX7_street_68 rfl) ?_
    refine S_getR hO dX7_street_69 fl_X7_25 sh_0 rfl ?_
    refine S_getI hO dX7_street_72 fl_X7_141 isSt_8.1 rfl ?_
    exact S_iret rfl hO hQ dX7_street_75 rfl
