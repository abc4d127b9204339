/-! THE CLAIM OUT OF ONE WALK OF THE LAW'S BODY. Your part is whole_start (and what it stands on); all else here is the same for every law, but numbers. -/
def R_law : String := "TopStreetLaw"
def lw_P (b : Addr) (xs : List Int32) (args : Array Value) (s : State) : Prop := args = #[.ref b] ∧ s.IntsAt b xs ∧ xs.length ≤ 384 ∧ (Jvm.Cond.and given_1 narrow_1).before args s = true
def lw_Q (_ : Array Value) (s : State) (o : Outcome) (t : State) : Prop := o = .returned (some (.int 1)) ∧ Framed s o t [] 600000 7302250
def lw_Z (below : List Frame) (a : Array Value) (s : State) : State → Prop := fun t => ∃ o, t.status = .running ∧ Ended t below o ∧ lw_Q a s o t
/-- the law's own end, with 1 on the stack, nothing written that was there before, its room as the claim has it -/
theorem lw_ret {p : Program} {l : Launch} {e : Env} {s : State} {m : MethodId} {below : List Frame} {meth : Method} {c : Code} {b : Nat} (hx : p.tables.exec = Jvm.exec) (hb : c.code = code) (hr : meth.sig.returnType = ret) (hlocks : meth.locks = false) {pc : Nat} {H : Heap} {ls : Array Slot} (hdg : decode code pc = .ok (.ireturn, 1)) : W p l e room_1 s m #[Value.ref b] below meth c H [] 600000 7302250 (lw_Z below #[Value.ref b] s) (F0 m pc ls [.int 1]) := by
  intro T hT X
  obtain ⟨fs, hret, hrun, hended, hW, hframe⟩ := X.leave (v := some (.int 1)) (hlocks := hlocks) (fun h => by rw [hr] at h; cases h)
  have hmeth' : T.vm.method? m = some meth := X.method'
  refine ⟨T.setFrames fs, ?_, .returned (some (.int 1)), hrun, hended, rfl, ⟨_, rfl⟩, hW, hframe⟩
  jvm_step X.here [X.here.top, hx, hb, hdg, hmeth', hr, ret, narrow_b1]
  (try refine ⟨rfl, ?_⟩); (try refine ⟨rfl, ?_⟩)
  first | (intro acts; rw [hret _ acts rfl rfl rfl]) | rw [hret _ _ rfl rfl rfl]
  exact Steps.refl _
/-- what holds at the law's entry: the machine, the code, the tables' words (any of lw_tbl by 'hts w (by decide +kernel)'), the script of L ints xs at the cell b, what the Statement gives of the start (any of its parts by flat_of_before) -/
def lw_At (p : Program) (s : State) (m : MethodId) (meth : Method) (c : Code) (b L : Nat) (xs : Nat → Int32) : Prop :=
  p.tables.exec = Jvm.exec ∧ c.code = code ∧ meth.sig.returnType = ret ∧ c.maxLocals = 4 ∧ s.vm.findClass R_law = some m.cls ∧ (∀ w ∈ lw_tbl, w.before #[Value.ref b] s = true) ∧ va_X b L xs s s.heap ∧ b < s.heap.size ∧ meth.locks = false ∧ (Jvm.Cond.and given_1 narrow_1).before #[Value.ref b] s = true ∧ meth.name = "law"
theorem kk_X7_init : Cond.initialized MX7_init.1.cls ∈ TS ∧ Cond.code MX7_init.1 MX7_init.2.1 MX7_init.2.2.1 MX7_init.2.2.2 ∈ TS ∧ (MX7_init.1.cls ≠ "java/lang/invoke/MethodHandle" ∧ MX7_init.1.cls ≠ "java/lang/invoke/VarHandle") ∧ MX7_init.2.2.1 ≤ 40 := ⟨(TSi 66 (by decide +kernel) (by decide +kernel)), (TSi 87 (by decide +kernel) (by decide +kernel)), ⟨by decide +kernel, by decide +kernel⟩, by decide⟩
theorem ki_X7_init : MX7_init.1.name = "<init>" ∧ Cond.instanceMethod MX7_init.1 ∈ TS := ⟨rfl, (TSi 86 (by decide +kernel) (by decide +kernel))⟩
theorem kp_X7_init : (parseMethodDescriptor MX7_init.1.desc).map (fun d => d.parameters.length) = some 0 := by decide +kernel
theorem kk_X8_init : Cond.initialized MX8_init.1.cls ∈ TS ∧ Cond.code MX8_init.1 MX8_init.2.1 MX8_init.2.2.1 MX8_init.2.2.2 ∈ TS ∧ (MX8_init.1.cls ≠ "java/lang/invoke/MethodHandle" ∧ MX8_init.1.cls ≠ "java/lang/invoke/VarHandle") ∧ MX8_init.2.2.1 ≤ 40 := ⟨(TSi 74 (by decide +kernel) (by decide +kernel)), (TSi 888 (by decide +kernel) (by decide +kernel)), ⟨by decide +kernel, by decide +kernel⟩, by decide⟩
theorem ki_X8_init : MX8_init.1.name = "<init>" ∧ Cond.instanceMethod MX8_init.1 ∈ TS := ⟨rfl, (TSi 887 (by decide +kernel) (by decide +kernel))⟩
theorem kp_X8_init : (parseMethodDescriptor MX8_init.1.desc).map (fun d => d.parameters.length) = some 0 := by decide +kernel
/-- the array classes -/
theorem arr_prim {args : Array Value} {s : State} {ty : FieldType} (h : (Cond.arrayClass ty).before args s = true) (hp : ∀ C, ty ≠ .object C) : ∃ cA : ClassId, ArrOfT s cA ty ∧ va_RA s cA ty := by
  obtain ⟨cA, kA, comp, h1, h2, h3⟩ := Cond.arrayClass_spec h
  refine ⟨cA, fun n z => ⟨fun k h => (by cases h), kA, h2, comp, h3⟩, ?_⟩
  cases ty with
  | object C => exact absurd rfl (hp C)
  | _ => exact h1
theorem arr_obj {args : Array Value} {s : State} {C : String} (h : (Cond.arrayOver (.object C)).before args s = true) : ∃ cA : ClassId, ArrOfT s cA (.object C) ∧ va_RA s cA (.object C) := by
  obtain ⟨comp, cA, kA, h1, h2, h3, h4, h5⟩ := Cond.arrayOver_spec h
  exact ⟨cA, fun n z => ⟨fun k h => (by cases h), kA, h3, comp, h4⟩, kA, comp, h3, h4, h1, h5⟩
theorem lwi {w : Cond} (i : Nat) (h : lw_tbl[i]? = some w) : w ∈ lw_tbl := List.mem_of_getElem? h
set_option maxHeartbeats 4000000 in
set_option maxRecDepth 100000 in
/-- the context at the law's entry -/
theorem law_E {p : Program} {s : State} {m : MethodId} {meth : Method} {c : Code} {b L : Nat} {xs : Nat → Int32} (C0 : lw_At p s m meth c b L xs) : ∃ E : EE, E.1 = true ∧ E.2.1 = s.heap.size ∧ RepK E s := by
  obtain ⟨hx, hb, hr, hml, hown, hts, hX, hbl, hlocks, hgv, hnm⟩ := id C0
  have hsub : ∀ w ∈ TS, w.before #[Value.ref b] s = true := fun w hw => hts w (List.mem_filter.mp hw).1
  obtain ⟨c0, i0, hK0⟩ := u_known (C := RX0) (T := TX0) (N := 3) (n := 3) hsub uin_0 (hts (.instantiable RX0 3) (lwi 178 (by decide +kernel)))
  obtain ⟨c1, i1, hK1⟩ := u_known (C := RX1) (T := TX1) (N := 6) (n := 6) hsub uin_1 (hts (.instantiable RX1 6) (lwi 246 (by decide +kernel)))
  obtain ⟨c2, i2, hK2⟩ := u_known (C := RX2) (T := TX2) (N := 4) (n := 4) hsub uin_2 (hts (.instantiable RX2 4) (lwi 197 (by decide +kernel)))
  obtain ⟨c3, i3, hK3⟩ := u_known (C := RX3) (T := TX3) (N := 5) (n := 5) hsub uin_3 (hts (.instantiable RX3 5) (lwi 219 (by decide +kernel)))
  obtain ⟨c4, i4, hK4⟩ := u_known (C := RX4) (T := TX4) (N := 4) (n := 4) hsub uin_4 (hts (.instantiable RX4 4) (lwi 272 (by decide +kernel)))
  obtain ⟨c5, i5, hK5⟩ := u_known (C := RX5) (T := TX5) (N := 8) (n := 8) hsub uin_5 (hts (.instantiable RX5 8) (lwi 100 (by decide +kernel)))
  obtain ⟨c6, i6, hK6⟩ := u_known (C := RX6) (T := TX6) (N := 5) (n := 5) hsub uin_6 (hts (.instantiable RX6 5) (lwi 94 (by decide +kernel)))
  obtain ⟨c7, i7, hK7⟩ := u_known (C := RX7) (T := TX7) (N := 10) (n := 10) hsub uin_7 (hts (.instantiable RX7 10) (lwi 84 (by decide +kernel)))
  obtain ⟨c8, i8, hK8⟩ := u_known (C := RX8) (T := TX8) (N := 24) (n := 24) hsub uin_8 (hts (.instantiable RX8 24) (lwi 885 (by decide +kernel)))
  obtain ⟨dC, dI, hKc⟩ : ∃ (dC : Nat → ClassId) (dI : Nat → Nat → Nat), ∀ (k : Nat) (q : vw_C), cls0[k]? = some q → u_Kn s q.1 q.2.1 q.2.2 (dC k) (dI k) := by
    refine ⟨fun k => ([c0, c1, c2, c3, c4, c5, c6, c7, c8] : List ClassId).getD k 0, fun k => ([i0, i1, i2, i3, i4, i5, i6, i7, i8] : List (Nat → Nat)).getD k (fun _ => 0), ?_⟩
    intro k q hq
    match k, hq with
    | 0, hq => cases hq; exact hK0
    | 1, hq => cases hq; exact hK1
    | 2, hq => cases hq; exact hK2
    | 3, hq => cases hq; exact hK3
    | 4, hq => cases hq; exact hK4
    | 5, hq => cases hq; exact hK5
    | 6, hq => cases hq; exact hK6
    | 7, hq => cases hq; exact hK7
    | 8, hq => cases hq; exact hK8
    | k + 9, hq => simp [cls0] at hq
  obtain ⟨cI, aI, rI⟩ := arr_prim (hts (.arrayClass .int) (lwi 153 (by decide +kernel))) (fun C h => by cases h)
  obtain ⟨cZ, aZ, rZ⟩ := arr_prim (hts (.arrayClass .boolean) (lwi 963 (by decide +kernel))) (fun C h => by cases h)
  obtain ⟨cS, aS, rS⟩ := arr_obj (hts (.arrayOver (.object RX5)) (lwi 176 (by decide +kernel)))
  obtain ⟨cR, aR, rR⟩ := arr_obj (hts (.arrayOver (.object RX4)) (lwi 92 (by decide +kernel)))
  have hflat := flat_of_before _ hgv
  have hA : ∀ a : Nat, a < s.heap.size → ¬ (fun q : Nat => s.heap.size ≤ q) a := fun a h => Nat.not_le.mpr h
  have hZ := va_Zof (A := fun q : Nat => s.heap.size ≤ q) (hts (.laysStatic "java/lang/String" "COMPACT_STRINGS" "Z") (lwi 427 (by decide +kernel))) (hts (.initialized "java/lang/String") (lwi 76 (by decide +kernel))) (va_eqi (hflat (.eq (.static "java/lang/String" "COMPACT_STRINGS" "Z") (.int 1)) (by decide +kernel))) hA
  obtain ⟨adK, adV, hS1, hS2⟩ := vk_Sof (args := #[Value.ref b]) (s := s) (N := 1) (tm := fun _ => Term.string "TopStreet$Tape" 60) (len := [5]) (byt := [[119, 99, 115, 112, 107]]) (A := fun q : Nat => s.heap.size ≤ q)
    (fun i hi => by rw [show i = 0 by omega]; decide)
    (fun i hi => hflat (.exactly (.string "TopStreet$Tape" 60) "java/lang/String") (by decide +kernel))
    (fun i hi => hflat (.eq (.field (.string "TopStreet$Tape" 60) "java/lang/String" "coder" "B") (.int 0)) (by decide +kernel))
    (fun i hi => hflat (.arrayOf (.field (.string "TopStreet$Tape" 60) "java/lang/String" "value" "[B") .byte) (by decide +kernel))
    (fun i hi => by rw [show i = 0 by omega]; exact hflat (.eq (.length (.field (.string "TopStreet$Tape" 60) "java/lang/String" "value" "[B")) (.int 5)) (by decide +kernel))
    (fun i hi j hj => by
      rw [show i = 0 by omega] at hj ⊢
      have hj5 : j < 5 := hj
      rcases (show j = 0 ∨ j = 1 ∨ j = 2 ∨ j = 3 ∨ j = 4 by omega) with rfl | rfl | rfl | rfl | rfl
      · exact hflat (.eq (.elem (.field (.string "TopStreet$Tape" 60) "java/lang/String" "value" "[B") (.int 0)) (.int 119)) (by decide +kernel)
      · exact hflat (.eq (.elem (.field (.string "TopStreet$Tape" 60) "java/lang/String" "value" "[B") (.int 1)) (.int 99)) (by decide +kernel)
      · exact hflat (.eq (.elem (.field (.string "TopStreet$Tape" 60) "java/lang/String" "value" "[B") (.int 2)) (.int 115)) (by decide +kernel)
      · exact hflat (.eq (.elem (.field (.string "TopStreet$Tape" 60) "java/lang/String" "value" "[B") (.int 3)) (.int 112)) (by decide +kernel)
      · exact hflat (.eq (.elem (.field (.string "TopStreet$Tape" 60) "java/lang/String" "value" "[B") (.int 4)) (.int 107)) (by decide +kernel))
    (fun i j hi hj hij => absurd (show i = j by omega) hij) hA
  refine ⟨(true, s.heap.size, (dC, dI), (cI, cZ, cS, cR), adK 0, adV 0), rfl, rfl, ⟨hKc, fun k q hk => ?_⟩, fun q hq => ?_, ⟨hZ, ?_, ?_⟩, ?_, ?_⟩
  · match k, hk with
    | 0, hk => cases hk; exact ⟨aI, rI⟩
    | 1, hk => cases hk; exact ⟨aZ, rZ⟩
    | 2, hk => cases hk; exact ⟨aS, rS⟩
    | 3, hk => cases hk; exact ⟨aR, rR⟩
    | k + 4, hk => simp at hk
  · have hmem : (Cond.methodLinkNest q.1 q.2.1 q.2.2.1 q.2.2.2) ∈ lw_tbl := by
      have h0 : (nestL.all fun q => decide ((Cond.methodLinkNest q.1 q.2.1 q.2.2.1 q.2.2.2) ∈ lw_tbl)) = true := by decide +kernel
      have h1 := List.all_eq_true.mp h0 q hq
      simpa using h1
    exact va_Nw.of rfl (hts _ hmem)
  · exact ⟨fun i hi => by rw [show i = 0 by omega]; exact hS1.1 0 (by decide), fun i j hi hj _ => by omega⟩
  · exact vk_R.of (hts (.stringRef "TopStreet$Tape" 60 "wcspk") (lwi 413 (by decide +kernel))) (hS2 0 (by decide))
  · exact va_AO.of (hts (.arrayOver (.object RX5)) (lwi 176 (by decide +kernel)))
  · exact va_AO.of (hts (.arrayOver (.object RX4)) (lwi 92 (by decide +kernel)))
theorem R_use {X : CX} {M : MD} {pc : Nat} {L : AL} {st : List Value} {h : AH} {cs sl : Nat} {p : Program} {l : Launch} {e : Env} {Rm : Room} {s : State} {m : MethodId} {args : Array Value} {below : List Frame} {meth : Method} {c : Code} {Q : State → Prop} {E : EE} (hX : X = (p, l, e, Rm, s, m, args, below, meth, c, Q, E)) (k : R X M pc L st h cs sl) : ∀ (H : Heap) (locs : List Loc) (ls : Array Slot), lv_has ls M.2.2.1 (trL E L) → RepH E h H → va_S (mine E) s.heap H locs → W p l e Rm s m args below meth c H locs cs sl Q (F0 m pc ls (st.map (tr E))) := by
  subst hX
  exact k
set_option maxHeartbeats 4000000 in
set_option maxRecDepth 100000 in
/-- THE LAW, from its entry -/
theorem whole_start {p : Program} {e : Env} {s : State} {m : MethodId} {below : List Frame} {meth : Method} {c : Code} (l : Launch) (hflags : l.flags = flags0) {b L : Nat} {xs : Nat → Int32} (hL : L ≤ 384) (C0 : lw_At p s m meth c b L xs) : W p l e room_1 s m #[Value.ref b] below meth c s.heap [] 0 0 (lw_Z below #[Value.ref b] s) (entryFrame m ([Value.ref b] : List Value).toArray 4) := by
  obtain ⟨E, hE1, hE2, hRK⟩ := law_E C0
  obtain ⟨hx, hb, hr, hml, hown, hts, hX, hbl, hlocks, hgv, hnm⟩ := id C0
  have hsub : ∀ w ∈ TS, w.before #[Value.ref b] s = true := fun w hw => hts w (List.mem_filter.mp hw).1
  have hl := lv_entry ([.ref b]) (n := 4) (Nat.le_of_ble_eq_true rfl)
  rw [lg_entry_eq]
  generalize (lg_sl ([.ref b]) ++ List.replicate (4 - (lg_sl ([.ref b])).length) Slot.unset).toArray = ls at hl ⊢
  -- a room as the calls want it, widened at the end
  let X : CX := (p, l, e, room_1, s, m, #[Value.ref b], below, meth, c, lw_Z below #[Value.ref b] s, E)
  have hO : OKX X true 40 ML_law := ⟨hx, hb, hml, hown, hsub, hRK, hr, hlocks, Nat.le_of_eq hE2, hnm, ⟨Nat.le_of_ble_eq_true rfl, Nat.le_of_ble_eq_true rfl, by rw [if_pos hnm]; exact Nat.le_of_ble_eq_true rfl, by rw [if_pos hnm]; exact Nat.le_of_ble_eq_true rfl⟩, hE1⟩
  have hrm : room X 197 3769 := ⟨Nat.le_of_ble_eq_true rfl, Nat.le_of_ble_eq_true rfl⟩
  have hl : lv_has ls ML_law.2.2.1 (trL E [(0, .ref (1002 + b))]) := by
    have e0 : trL E [(0, .ref (1002 + b))] = [(0, .ref b)] := by
      show [(0, Value.ref (pa E (1002 + b)))] = _
      rw [pa_scr]
    rw [e0]
    exact hl
  have hP0 : RepH E [] s.heap := ⟨fun _ => by rw [hE2]; rfl, by decide, fun k q hk => by simp [conc] at hk⟩
  refine R_use (X := X) (st := []) rfl ?_ s.heap [] ls hl hP0 va_S.rf
  show R X ML_law 0 [(0, .ref (1002 + b))] [] hs_0 0 0
  refine Q_new (ci := 7) (N := 10) (T := TX7) (ty := tyX7) (n := 0) (fs := [.null, .null, .null, .null, .null, .null, .null, .null, .int 0, .int 0]) (h2 := hsT0) (c2 := 1) (s2 := 10) hO dL_law_0 ⟨(TSi 83 (by decide +kernel) (by decide +kernel)), (TSi 84 (by decide +kernel) (by decide +kernel)), (TSi 66 (by decide +kernel) (by decide +kernel))⟩ rfl (by decide) uin_7 tyX7_ok (by decide +kernel) (fun _ => rfl) (by decide +kernel) (by decide) rfl rfl rfl (room_le hrm (by decide) (by decide)) ?_
  refine R_dup hO dL_law_3 rfl ?_
  refine Q_init (d2 := 4) (mc := 182) (ms := 1775) (h2 := hsT1) (c2 := 183) (s2 := 1785) hO dL_law_4 ci_X7_init (by decide) rfl (Or.inl (TSi 85 (by decide +kernel) (by decide +kernel))) ki_X7_init kk_X7_init kp_X7_init (Nat.le_of_ble_eq_true rfl) rfl rfl (room_le hrm (by decide) (by decide)) ?_
  refine R_astore_n (L2 := [(1, .ref 0), (0, .ref (1002 + b))]) hO dL_law_7 (Nat.le_of_ble_eq_true rfl) rfl ?_
  refine Q_new (ci := 8) (N := 24) (T := TX8) (ty := tyX8) (n := 183) (fs := [.null, .null, .null, .int 0, .int 0, .null, .null, .null, .int 0, .int 0, .int 0, .int 0, .int 0, .int 0, .int 0, .null, .null, .int 0, .null, .null, .null, .null, .null, .int 0]) (h2 := hsM0) (c2 := 184) (s2 := 1809) hO dL_law_8 ⟨(TSi 884 (by decide +kernel) (by decide +kernel)), (TSi 885 (by decide +kernel) (by decide +kernel)), (TSi 74 (by decide +kernel) (by decide +kernel))⟩ rfl (by decide) uin_8 tyX8_ok (by decide +kernel) (fun _ => rfl) (by decide +kernel) (by decide) rfl rfl rfl (room_le hrm (by decide) (by decide)) ?_
  refine R_dup hO dL_law_11 rfl ?_
  refine Q_init (d2 := 2) (mc := 13) (ms := 1960) (h2 := hsM1) (c2 := 197) (s2 := 3769) hO dL_law_12 ci_X8_init (by decide) rfl (Or.inl (TSi 886 (by decide +kernel) (by decide +kernel))) ki_X8_init kk_X8_init kp_X8_init (Nat.le_of_ble_eq_true rfl) rfl rfl (room_le hrm (by decide) (by decide)) ?_
  refine R_astore_n (L2 := [(2, .ref 183), (1, .ref 0), (0, .ref (1002 + b))]) hO dL_law_15 (Nat.le_of_ble_eq_true rfl) rfl ?_
  rw [show hsM1 = view M0 from made_all]
  -- from here on nothing is made: the sizes are forgotten
  intro H locs ls hl hP hS
  let E2 : EE := (false, E.2)
  let X2 : CX := (p, l, e, room_1, s, m, #[Value.ref b], below, meth, c, lw_Z below #[Value.ref b] s, E2)
  have hO2 : OKX X2 false 40 ML_law := ⟨hx, hb, hml, hown, hsub, hRK, hr, hlocks, Nat.le_of_eq hE2, hnm, ⟨Nat.le_of_ble_eq_true rfl, Nat.le_of_ble_eq_true rfl, by rw [if_pos hnm]; exact Nat.le_of_ble_eq_true rfl, by rw [if_pos hnm]; exact Nat.le_of_ble_eq_true rfl⟩, rfl⟩
  have hP2 : RepH E2 (view M0) H := RepH.ns rfl hP.2.1 hP.2.2
  have hQ2 : LRET X2 (fun q => q.1 = some (.int 1)) := by
    refine ⟨fun q h => h, ?_⟩
    intro H9 locs9 ls9 pc9 dc9 hS9
    refine va_forget (fun q hq => by rw [← hE2]; exact hS9.2.2 q hq) ?_
    have c1 : cX X2 = 197 := if_pos hnm
    have c2 : sX X2 = 3769 := if_pos hnm
    rw [c1, c2]
    refine W.widen (k := 600000) (n := 7302250) (Nat.le_of_ble_eq_true rfl) (Nat.le_of_ble_eq_true rfl) ?_
    exact lw_ret hx hb hr hlocks dc9
  have hL2 : OKL X2 b L xs := ⟨hX, hbl, by
    show ¬ E.2.1 ≤ b
    rw [hE2]
    exact Nat.not_le.mpr hbl⟩
  obtain ⟨τ, hτ⟩ := pure_law L xs hL
  have K := w_L_law hO2 hQ2 b hL2 M0 _ hτ rfl
  have c1 : cX X2 = 197 := if_pos hnm
  have c2 : sX X2 = 3769 := if_pos hnm
  rw [c1, c2] at K
  exact K H locs ls hl hP2 hS
set_option maxHeartbeats 4000000 in
theorem lw_walk (l : Launch) (hflags : l.flags = flags0) (b : Addr) (xs : List Int32) : MetFree l x (headSpec (Jvm.Cond.code x code maxLocals ret :: tables_1) room_1) (lw_P b xs) (fun _ _ _ _ _ => True) lw_Q := by
  refine MetFree.of_bodyS (code := code) (maxLocals := maxLocals) (ret := ret) (by decide) ?_ ?_
  · intro args s m h hn
    obtain ⟨meth, c, h1, h2, h3, h4, h5, h6, -, -⟩ := Cond.code_spec hn (atoms_spec (ws := Jvm.Cond.code x code maxLocals ret :: tables_1) h _ List.mem_cons_self)
    exact ⟨meth, c, h1, h2, h3, h4, h5, h6⟩
  · intro p e s m args below meth c s₁ B hml0 hP _
    obtain ⟨rfl, hx, hbd, hgv⟩ := hP
    obtain ⟨scr, harrAt, hlist, hof, hsmall⟩ := hx
    obtain ⟨hcb, hkn, -, -⟩ := State.arrayAt?_spec harrAt
    have hown : s.vm.findClass R_law = some m.cls := findClass_of_methodNamed B.named
    have hts0 : ∀ c ∈ (Jvm.Cond.code x code maxLocals ret :: tables_1), c.before #[Value.ref b] s = true := atoms_spec (ws := Jvm.Cond.code x code maxLocals ret :: tables_1) B.pre
    have hts : ∀ w ∈ lw_tbl, w.before #[Value.ref b] s = true := k2_hts_sels lw_privs (fun w hw => hts0 w (List.mem_cons_of_mem _ hw)) lw_privs_ok
    have hml : c.maxLocals = 4 := B.maxLocals_eq (hts0 _ List.mem_cons_self)
    have X₀ : Stand p l e room_1 s m #[Value.ref b] below meth c s₁ [] 0 0 := Stand.of_body B
    have hh0 : s₁.heap = s.heap := by rw [B.state]; rfl
    have hsz : scr.slots.size = xs.length := by rw [← Array.length_toList, hlist, List.length_map]
    have hval : ∀ j : Nat, j < xs.length → scr.slots[j]? = some (.int (xs.getD j 0)) := fun j hj => by
      rw [← Array.getElem?_toList, hlist]
      simp [hj]
    have hbl : b < s.heap.size := (Array.getElem?_eq_some_iff.mp hcb).1
    have hX : va_X b xs.length (fun j => xs.getD j 0) s s.heap := ⟨scr, hcb, hof, hkn, hsz, hval⟩
    have K : W p l e room_1 s m #[Value.ref b] below meth c s₁.heap [] 0 0 (lw_Z below #[Value.ref b] s) (entryFrame m ([Value.ref b] : List Value).toArray 4) := by
      rw [hh0]
      exact whole_start l hflags hbd ⟨B.exec, B.bytes, B.returns, hml, hown, hts, hX, hbl, B.notSynchronized, hgv, (name_of_methodNamed B.named B.method).1⟩
    obtain ⟨t, a1, o, b1, b2, b3⟩ := K s₁ rfl X₀
    exact ⟨t, o, a1, b1, b2, b3⟩
theorem lw_pre_spec {args : Array Value} {s : State} (h : (Jvm.Cond.and given_1 narrow_1).before args s = true) (hr : rest_1_c.before args s = true) : ∃ (b : Addr) (xs : List Int32), lw_P b xs args s := by
  have hs := flat_of_before _ h
  have hq := flat_of_before _ hr
  have hc : (Cond.count 1).before args s = true := hs _ (by decide +kernel)
  have harr : (Cond.arrayOf (.arg 0) .int).before args s = true := hs _ (by decide +kernel)
  have hle : (Cond.le (.length (.arg 0)) (.int 384)).before args s = true := hs _ (by decide +kernel)
  have hlen : (Cond.isInt (.length (.arg 0))).before args s = true := hq _ (by decide +kernel)
  have hall : (Cond.all (.arg 0) (.isInt (.elem (.arg 0) (.index 0)))).before args s = true := hq _ (by decide +kernel)
  obtain ⟨b, xs, hb, hx⟩ := State.ints_of_pre rfl harr hlen hall
  have hsm : xs.length < 2 ^ 31 := hx.choose_spec.2.2.2
  have hev : (Term.length (.arg 0)).eval args s none [] s = some (.int xs.length.toInt32) := hx.length_eval hb
  have hv := Cond.le_ints hev (show (Term.int 384).eval args s none [] s = some (.int 384) from rfl)
  have hd : xs.length.toInt32 ≤ 384 := by
    simpa [Cond.before, Cond.holds, hv] using hle
  have hN : xs.length ≤ 384 := (Int32.ofNat_le_ofNat hsm (by decide)).mp (show Int32.ofNat xs.length ≤ Int32.ofNat 384 from hd)
  exact ⟨b, xs, Cond.one_arg hc (show args[0]? = some (.ref b) from hb), hx, hN, h⟩
theorem lw_comes (l : Launch) (hflags : l.flags = flags0) : Comes l x (Jvm.Cond.code x code maxLocals ret :: tables_1) room_1 (fun tb e args s => Calls_1 tb e args s ∧ rest_1 tb e args s ∧ Pre_1 tb e args s)
    (fun _ _ args s o t => lw_Q args s o t) := by
  intro p e ha hc hk s m args below hf hfit hheap happ hpre
  obtain ⟨b, xs, hP⟩ := lw_pre_spec hpre.2.2 hpre.2.1
  obtain ⟨k, o, h1, h2, h3, hQ⟩ := lw_walk l hflags b xs p e ha hc hk s m args below hf ((Spec.applies_iff_loose hf).mp happ).1 hP trivial
  exact ⟨k, o, h1, h2, h3, hQ⟩
theorem lw_frame {s t : State} {o : Outcome} {args : Array Value} (h : Framed s o t [] 600000 7302250) :
    Framed s o t (fieldLocs frame_1_writes args s ++ arrayLocs frame_1_arrays args s ++ staticLocs frame_1_statics s) 600000 7302250 := h
theorem lw_limb (L : Cond) (hL : ∀ (args : Array Value) (s t : State), L.after args s (.returned (some (.int 1))) t = true) :
    ArmFor flags0 classFile x code maxLocals ret World_1 tables_1 room_1 Calls_1 rest_1 Pre_1
      (fun tb e a s o t => postC L tb e a s o t ∧ Framed s o t (fieldLocs frame_1_writes a s ++ arrayLocs frame_1_arrays a s ++ staticLocs frame_1_statics s) 600000 7302250) := by
  intro l hflags _ _ p e ha hc hk s m args below hf hfit hheap happ hpre
  obtain ⟨k, o, h1, h2, h3, rfl, hF⟩ := lw_comes l hflags p e ha hc hk s m args below hf hfit hheap happ hpre
  exact ⟨k, _, h1, h2, h3, hL args s _, lw_frame hF⟩
theorem i_vc : Claimed_1_1 ∧ Claimed_1_2 := ⟨lw_limb limb_1_1 (fun args s t => by simp [limb_1_1, Cond.after, Cond.holds, Cond.value]), lw_limb limb_1_2 (fun args s t => Cond.after_iff.mpr (by
  first | (rw [show limb_1_2 = Cond.eq .result (.int 1) from rfl, Cond.eq_ints (x := 1) (y := 1) rfl rfl]; simp; done) | (simp [limb_1_2, Cond.value, Term.eval]; done)))⟩
