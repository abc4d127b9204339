/-! THE BASE: an abstract heap of numbered places over the kit's worlds; one judgement R for a walk inside a method, one contract C for a method. A place k lies at the address base + k. -/
def TS : List Cond := lw_tbl.filter goodWord
theorem TS_good : GoodIn TS TS := fun _ h => ⟨h, good_of_word (List.mem_filter.mp h).2⟩
/-- a word of the tables, by its place -/
theorem TSi {w : Cond} (i : Nat) (h : lw_tbl[i]? = some w) (g : goodWord w = true) : w ∈ TS := List.mem_filter.mpr ⟨List.mem_of_getElem? h, g⟩
abbrev AH : Type := List (Nat × List Value)
abbrev AL : Type := List (Nat × Value)
/-- flag (sizes are known), base, classes, array classes, the literal's address and its bytes' -/
abbrev EE : Type := Bool × Nat × va_G × (ClassId × ClassId × ClassId × ClassId) × Nat × Nat
abbrev cls0 : List vw_C := [(RX0, TX0, 3), (RX1, TX1, 6), (RX2, TX2, 4), (RX3, TX3, 5), (RX4, TX4, 4), (RX5, TX5, 8), (RX6, TX6, 5), (RX7, TX7, 10), (RX8, TX8, 24)]
/-- a place below 1000 is a cell of ours; 1000 is the literal, 1001 its bytes; from 1002 on: an address as it is -/
def pa (E : EE) (k : Nat) : Nat := if k < 1000 then E.2.1 + k else if k = 1000 then E.2.2.2.2.1 else if k = 1001 then E.2.2.2.2.2 else k - 1002
def tr (b : EE) (v : Value) : Value := match v with
  | .ref k => .ref (pa b k)
  | w => w
def iv (v : Value) : Int32 := match v with
  | .int x => x
  | _ => 0
def rv (b : EE) (v : Value) : Option Nat := match v with
  | .ref k => some (pa b k)
  | _ => none
def cE (E : EE) (c : Nat × List Value) : va_E :=
  if c.1 < 20 then .inr (c.1, c.2.map (tr E))
  else if c.1 = 20 then .inl (E.2.2.2.1.1, c.2.length, .inl (fun j => iv (c.2.getD j .null)))
  else if c.1 = 21 then .inl (E.2.2.2.1.2.1, c.2.length, .inl (fun j => iv (c.2.getD j .null)))
  else if c.1 = 22 then .inl (E.2.2.2.1.2.2.1, c.2.length, .inr (.inr (.inr (.inr (fun j => rv E (c.2.getD j .null))))))
  else .inl (E.2.2.2.1.2.2.2, c.2.length, .inr (.inr (.inr (.inr (fun j => rv E (c.2.getD j .null))))))
def conc (E : EE) (h : AH) : va_W := h.mapIdx (fun k c => (E.2.1 + k, cE E c))
abbrev tysE (E : EE) : List (ClassId × FieldType) := [(E.2.2.2.1.1, .int), (E.2.2.2.1.2.1, .boolean), (E.2.2.2.1.2.2.1, .object RX5), (E.2.2.2.1.2.2.2, .object RX4)]
def mine (E : EE) : Nat → Prop := fun q => E.2.1 ≤ q
def RepH (E : EE) (h : AH) (H : Heap) : Prop := (E.1 = true → H.size = E.2.1 + h.length) ∧ h.length ≤ 1000 ∧ va_P E.2.2.1 cls0 (conc E h) H
theorem conc_at {E : EE} {h : AH} {k : Nat} {c : Nat × List Value} (hk : h[k]? = some c) : (conc E h)[k]? = some (E.2.1 + k, cE E c) := by
  unfold conc
  rw [List.getElem?_mapIdx, hk]
  rfl
theorem conc_D {E : EE} (h : AH) : va_D (mine E) (conc E h) := by
  refine ⟨fun i j p q hi hj e => ?_, fun k q hk => ?_⟩
  · unfold conc at hi hj
    rw [List.getElem?_mapIdx] at hi hj
    cases h1 : h[i]? with
    | none => rw [h1] at hi; cases hi
    | some c1 =>
      cases h2 : h[j]? with
      | none => rw [h2] at hj; cases hj
      | some c2 =>
        rw [h1] at hi
        rw [h2] at hj
        cases hi
        cases hj
        exact Nat.add_left_cancel e
  · unfold conc at hk
    rw [List.getElem?_mapIdx] at hk
    cases h1 : h[k]? with
    | none => rw [h1] at hk; cases hk
    | some c1 =>
      rw [h1] at hk
      cases hk
      exact Nat.le_add_right _ _
theorem conc_set {E : EE} (h : AH) (k : Nat) (c : Nat × List Value) : (conc E h).set k (E.2.1 + k, cE E c) = conc E (h.set k c) := by
  unfold conc
  apply List.ext_getElem?
  intro i
  simp only [List.getElem?_set, List.getElem?_mapIdx, List.length_mapIdx]
  by_cases e : k = i
  · subst e
    by_cases hl : k < h.length
    · simp [hl]
    · simp [hl]
  · simp [e]
theorem conc_push {E : EE} (h : AH) (c : Nat × List Value) : conc E h ++ [(E.2.1 + h.length, cE E c)] = conc E (h ++ [c]) := by
  unfold conc
  rw [List.mapIdx_append]
  simp
theorem pa_lt {b : EE} {k : Nat} (h : k < 1000) : pa b k = b.2.1 + k := if_pos h
theorem pa_at {h : AH} {b : EE} {k : Nat} {c : Nat × List Value} (hl : h.length ≤ 1000) (hk : h[k]? = some c) : pa b k = b.2.1 + k := pa_lt (Nat.lt_of_lt_of_le (List.getElem?_eq_some_iff.mp hk).1 hl)
theorem tr_cat (b : EE) (v : Value) : (tr b v).category = v.category := by cases v <;> rfl
theorem tr_int (b : EE) (x : Int32) : tr b (.int x) = .int x := rfl
theorem tr_long (b : EE) (x : Int64) : tr b (.long x) = .long x := rfl
theorem rv_tr (b : EE) {v : Value} (h : v = .null ∨ ∃ k, v = .ref k) : va_rf (rv b v) = tr b v := by
  rcases h with rfl | ⟨k, rfl⟩ <;> rfl
/-- the locals -/
def lk (L : AL) (i : Nat) : Option Value := match L with
  | [] => none
  | q :: t => if q.1 = i then some q.2 else lk t i
def trL (b : EE) (L : AL) : AL := L.map fun q => (q.1, tr b q.2)
theorem lk_has {ls : Array Slot} {b : EE} {n i : Nat} {L : AL} {v : Value} (h : lv_has ls n (trL b L)) (hk : lk L i = some v) : ls[i]? = some (.val (tr b v)) := by
  have key : ∀ L : AL, lk L i = some v → (i, tr b v) ∈ trL b L := by
    intro L
    induction L with
    | nil => intro hk; cases hk
    | cons q t ih =>
      intro hk
      unfold lk at hk
      by_cases e : q.1 = i
      · rw [if_pos e] at hk
        cases hk
        subst e
        exact List.mem_cons_self
      · rw [if_neg e] at hk
        exact List.mem_cons_of_mem _ (ih hk)
  exact h.2.2 _ (key L hk)
abbrev sto1 (i : Nat) (v : Value) (L : AL) : AL := (i, v) :: L.filter (fun q => !(q.1 == i) && !(q.1 + 1 == i && q.2.category == 2))
abbrev sto2 (i : Nat) (v : Value) (L : AL) : AL := (i, v) :: L.filter (fun q => !(q.1 == i) && (!(q.1 == i + 1) && !(q.1 + 1 == i && q.2.category == 2)))
theorem sto1_tr (b : EE) (i : Nat) (v : Value) (L : AL) : (i, tr b v) :: (trL b L).filter (fun q => !(q.1 == i) && !(q.1 + 1 == i && q.2.category == 2)) = trL b (sto1 i v L) := by
  unfold trL sto1
  rw [List.map_cons, List.filter_map]
  congr 3
  funext q
  simp [tr_cat]
theorem sto2_tr (b : EE) (i : Nat) (v : Value) (L : AL) : (i, tr b v) :: (trL b L).filter (fun q => !(q.1 == i) && (!(q.1 == i + 1) && !(q.1 + 1 == i && q.2.category == 2))) = trL b (sto2 i v L) := by
  unfold trL sto2
  rw [List.map_cons, List.filter_map]
  congr 3
  funext q
  simp [tr_cat]
theorem lv_args_tr (b : EE) : ∀ (vs : List Value) (i : Nat), lv_args i (vs.map (tr b)) = trL b (lv_args i vs) := by
  intro vs
  induction vs with
  | nil => intro i; rfl
  | cons v vs ih =>
    intro i
    show (i, tr b v) :: lv_args (if (tr b v).category = 2 then i + 2 else i + 1) (vs.map (tr b)) = _
    rw [tr_cat, ih]
    rfl
/-- what holds of the tables and of the cells below the base -/
abbrev NW : Type := String × Nat × MethodName × String
def nestL : List NW := [(RX7, 17, yX6_init, RX7), (RX7, 24, yX5_init, RX7), (RX7, 42, yX2_init, RX7), (RX7, 56, yX1_init, RX7), (RX7, 61, yX4_init, RX7), (RX7, 237, yX2_play, RX7), (RX0, 17, yX5_init, RX7), (RX2, 11, yX5_init, RX7), (RX3, 24, yX5_init, RX7), (RX3, 46, yX7_within, RX7), (RX6, 11, yX5_init, RX7), (RX6, 72, yX7_within, RX7)]
def SO (E : EE) (U : State) (H : Heap) : Prop := va_Z "java/lang/String" "COMPACT_STRINGS" "Z" (.int 1) (mine E) U H ∧ vk_S 1 [5] [[119, 99, 115, 112, 107]] (fun _ => E.2.2.2.2.1) (fun _ => E.2.2.2.2.2) (mine E) U H ∧ vk_R RX6 60 "wcspk" E.2.2.2.2.1 U
def RepK (E : EE) (U : State) : Prop := va_K E.2.2.1 cls0 (tysE E) U ∧ (∀ q ∈ nestL, va_Nw (.methodLinkNest q.1 q.2.1 q.2.2.1 q.2.2.2) U) ∧ SO E U U.heap ∧ va_AO RX5 U ∧ va_AO RX4 U
theorem RepK.go {E : EE} {s U : State} (h : RepK E s) (hW : s.WarmedH U.vm) (hk : ∀ q : Nat, q < s.heap.size → ¬ mine E q → U.heap[q]? = s.heap[q]?) : RepK E U := by
  obtain ⟨h1, h2, ⟨h3, h4, h5⟩, h6, h7⟩ := h
  exact ⟨va_K.moved hW.alike h1, fun q hq => va_Nw.warmM hW (h2 q hq), ⟨(va_Z.moved hW.alike h3).kept hk, (vk_S.moved hW.alike h4).kept hk, h5.warm hW⟩, va_AO.moved hW.alike h6, va_AO.moved hW.alike h7⟩
theorem RepK.calling {E : EE} {U : State} {g : JFrame} {mk : MethodId} {a : Array Value} (h : RepK E U) : RepK E (U.calling g mk a) := by
  obtain ⟨h1, h2, ⟨h3, h4, h5⟩, h6, h7⟩ := h
  exact ⟨va_K.moved (u := U) (U := U.calling g mk a) (Vm.Alike.refl U.vm) h1, fun q hq => va_Nw.same rfl rfl (h2 q hq), ⟨va_Z.moved (u := U) (U := U.calling g mk a) (Vm.Alike.refl U.vm) h3, vk_S.moved (u := U) (U := U.calling g mk a) (Vm.Alike.refl U.vm) h4, vk_R.same (u := U) (U := U.calling g mk a) rfl h5⟩, va_AO.moved (u := U) (U := U.calling g mk a) (Vm.Alike.refl U.vm) h6, va_AO.moved (u := U) (U := U.calling g mk a) (Vm.Alike.refl U.vm) h7⟩
/-- a method: its name, code, locals, return type -/
abbrev MD : Type := MethodName × ByteArray × Nat × Option FieldType
abbrev wsM (M : MD) : List Cond := .code M.1 M.2.1 M.2.2.1 M.2.2.2 :: TS
abbrev rmM (d mc ms : Nat) : Room := { frames := d, cells := mc, slots := ms, locals := 60 * d }
def PcE (E : EE) (args : List Value) (h : AH) : Array Value → State → Prop := fun v U => v = (args.map (tr E)).toArray ∧ RepH E h U.heap ∧ RepK E U ∧ E.2.1 ≤ U.heap.size
def QcE (E : EE) (Q : Option Value → AH → Prop) : Array Value → State → Outcome → State → Prop := fun _ st o t => ∃ v h', o = .returned (v.map (tr E)) ∧ Q v h' ∧ RepH E h' t.heap ∧ va_F (mine E) st t
theorem PcE.blind (E : EE) (args : List Value) (h : AH) : FrameBlind (PcE E args h) := fun _ _ _ _ q => ⟨q.1, q.2.1, q.2.2.1.calling, q.2.2.2⟩
/-- the contract -/
def C (z : Bool) (d : Nat) (M : MD) (mc ms : Nat) (args : List Value) (h : AH) (Q : Option Value → AH → Prop) : Prop :=
  ∀ (l : Launch) (E : EE), E.1 = z → Met l M.1 (wsM M) (rmM d mc ms) (PcE E args h) (QcE E Q) mc ms (mine E)
abbrev CX : Type := Program × Launch × Env × Room × State × MethodId × Array Value × List Frame × Method × Code × (State → Prop) × EE
def R (X : CX) (M : MD) (pc : Nat) (L : AL) (st : List Value) (h : AH) (cs sl : Nat) : Prop := match X with
  | (p, l, e, Rm, s, m, args, below, meth, c, Q, E) => ∀ (H : Heap) (locs : List Loc) (ls : Array Slot), lv_has ls M.2.2.1 (trL E L) → RepH E h H → va_S (mine E) s.heap H locs → W p l e Rm s m args below meth c H locs cs sl Q (F0 m pc ls (st.map (tr E)))
/-- the cells, slots that stand made while a method runs: the law's own, else none -/
def cX (X : CX) : Nat := if X.2.2.2.2.2.2.2.2.1.name = "law" then 197 else 0
def sX (X : CX) : Nat := if X.2.2.2.2.2.2.2.2.1.name = "law" then 3769 else 0
def OKX (X : CX) (z : Bool) (d : Nat) (M : MD) : Prop := match X with
  | (p, _, _, Rm, s, m, args, _, meth, c, _, E) => p.tables.exec = Jvm.exec ∧ c.code = M.2.1 ∧ c.maxLocals = M.2.2.1 ∧ s.vm.findClass M.1.cls = some m.cls ∧ (∀ w ∈ TS, w.before args s = true) ∧ RepK E s ∧ meth.sig.returnType = M.2.2.2 ∧ meth.locks = false ∧ E.2.1 ≤ s.heap.size ∧ meth.name = M.1.name ∧ (d ≤ Rm.frames ∧ 60 * d ≤ Rm.locals ∧ (if meth.name = "law" then 197 else 0) ≤ Rm.cells ∧ (if meth.name = "law" then 3769 else 0) ≤ Rm.slots) ∧ E.1 = z
def OKQ (X : CX) (mc ms : Nat) (Qp : Option Value → AH → Prop) : Prop := match X with
  | (_, _, _, Rm, s, _, args, below, _, _, Q, E) => Q = MQ below (QcE E Qp) args s mc ms (mine E) ∧ mc ≤ Rm.cells ∧ ms ≤ Rm.slots
theorem OKX.room {X : CX} {z : Bool} {d : Nat} {M : MD} (hO : OKX X z d M) : cX X ≤ X.2.2.2.1.cells ∧ sX X ≤ X.2.2.2.1.slots := by
  obtain ⟨p, l, e, Rm, s, m, args, below, meth, c, Q, E⟩ := X
  exact hO.2.2.2.2.2.2.2.2.2.2.1.2.2
theorem OKX.none {X : CX} {z : Bool} {d : Nat} {M : MD} (hO : OKX X z d M) (h : M.1.name ≠ "law") : cX X = 0 ∧ sX X = 0 := by
  obtain ⟨p, l, e, Rm, s, m, args, below, meth, c, Q, E⟩ := X
  have hn : meth.name = M.1.name := hO.2.2.2.2.2.2.2.2.2.1
  have hno : ¬ meth.name = "law" := by rw [hn]; exact h
  exact ⟨if_neg hno, if_neg hno⟩
set_option maxHeartbeats 1000000 in
theorem C.of {z : Bool} {d : Nat} {M : MD} {mc ms : Nat} {args : List Value} {h : AH} {Qp : Option Value → AH → Prop} (hy : plainName M.1.cls = true ∧ M.1.name ≠ "law") (hn : (lg_sl args).length ≤ M.2.2.1)
    (k : ∀ X : CX, OKX X z d M → OKQ X mc ms Qp → R X M 0 (lv_args 0 args) [] h 0 0) : C z d M mc ms args h Qp := by
  intro l E hz
  refine Met.ofW (cc := M.2.1) (maxL := M.2.2.1) (ret := M.2.2.2) hy.1 rfl ?_
  intro p e s m ar below meth c s₁ B hml hv
  obtain ⟨rfl, hR, hK, hE⟩ := hv
  have hts := atoms_spec (ws := wsM M) B.pre
  have hnm := (name_of_methodNamed B.named B.method).1
  have hno : ¬ meth.name = "law" := by rw [hnm]; exact hy.2
  have K := k (p, l, e, (headSpec (wsM M) (rmM d mc ms)).room, s, m, (args.map (tr E)).toArray, below, meth, c, MQ below (QcE E Qp) (args.map (tr E)).toArray s mc ms (mine E), E) ⟨B.exec, B.bytes, hml, findClass_of_methodNamed B.named, fun w hw => hts w (List.mem_cons_of_mem _ hw), hK, B.returns, B.notSynchronized, hE, hnm, ⟨Nat.le_refl _, Nat.le_refl _, by rw [if_neg hno]; exact Nat.zero_le _, by rw [if_neg hno]; exact Nat.zero_le _⟩, hz⟩ ⟨rfl, Nat.le_refl _, Nat.le_refl _⟩
  rw [lg_entry_eq]
  have hn' : (lg_sl (args.map (tr E))).length ≤ M.2.2.1 := by
    have e : ∀ vs : List Value, (lg_sl (vs.map (tr E))).length = (lg_sl vs).length := by
      intro vs
      induction vs with
      | nil => rfl
      | cons v vs ih =>
        simp only [lg_sl, List.map_cons, List.flatMap_cons, List.length_append] at ih ⊢
        rw [ih, tr_cat]
        cases v <;> rfl
    rw [e]; exact hn
  have hl := lv_entry (args.map (tr E)) (n := M.2.2.1) hn'
  rw [lv_args_tr] at hl
  exact K s.heap [] _ hl hR va_S.rf
