/-! HEAP AND CALLS: the rules of R for fields, arrays, calls -/
def FL (own : String) (idx ci k : Nat) (ty : FieldType) (fin : Bool) : Prop := ∃ (C : String) (T : u_T) (N : Nat) (ty0 : Nat → FieldType), cls0[ci]? = some (C, T, N) ∧ k < N ∧ (∀ w ∈ u_ws C T N, w ∈ TS) ∧ (∀ j, j < N → parseFieldDescriptor (T j).2.2.1 = some (ty0 j)) ∧ (∀ a, a < N → ∀ b, b < N → a ≠ b → (T a).2.1 ≠ (T b).2.1) ∧ Cond.fieldLink own idx (T k).1 (T k).2.1 (T k).2.2.1 ∈ TS ∧ ty0 k = ty ∧ (T k).2.2.2 = fin ∧ ci < 20 ∧ (T k).1 = C
theorem tr_catsum (b : EE) (st : List Value) : ((st.map (tr b)).map fun v => v.category).sum = (st.map fun v => v.category).sum := by
  rw [List.map_map]; congr 1; apply List.map_congr_left; intro v _; exact tr_cat _ v
theorem cE_obj {E : EE} {ci : Nat} {fs : List Value} (h : ci < 20) : cE E (ci, fs) = .inr (ci, fs.map (tr E)) := if_pos h
theorem cE_int {E : EE} {fs : List Value} : cE E (20, fs) = .inl (E.2.2.2.1.1, fs.length, .inl (fun j => iv (fs.getD j .null))) := rfl
theorem cE_bool {E : EE} {fs : List Value} : cE E (21, fs) = .inl (E.2.2.2.1.2.1, fs.length, .inl (fun j => iv (fs.getD j .null))) := rfl
theorem cE_st {E : EE} {fs : List Value} : cE E (22, fs) = .inl (E.2.2.2.1.2.2.1, fs.length, .inr (.inr (.inr (.inr (fun j => rv E (fs.getD j .null)))))) := rfl
theorem cE_row {E : EE} {fs : List Value} : cE E (23, fs) = .inl (E.2.2.2.1.2.2.2, fs.length, .inr (.inr (.inr (.inr (fun j => rv E (fs.getD j .null)))))) := rfl
theorem goodIn_c {big ws : List Cond} {w : Cond} (h1 : w ∈ big ∧ ((w.onTables && w.keeps) = true ∨ ∃ ty, w = .arrayClass ty)) (h2 : GoodIn big ws) : GoodIn big (w :: ws) := fun v hv => (List.mem_cons.mp hv).elim (fun e => e ▸ h1) (h2 v)
theorem RepH.ns {E : EE} {h : AH} {H : Heap} (hz : E.1 = false) (h1 : h.length ≤ 1000) (h2 : va_P E.2.2.1 cls0 (conc E h) H) : RepH E h H := ⟨fun q => absurd (hz.symm.trans q) (by decide), h1, h2⟩
section HEAP
variable {X : CX} {z : Bool} {d : Nat} {M : MD} {pc : Nat} {L : AL} {st : List Value} {h : AH} {cs sl : Nat}
theorem R_getf {idx ci k a : Nat} {ty : FieldType} {fin : Bool} {fs : List Value} {v : Value} (hO : OKX X z d M) (dc : decode M.2.1 pc = .ok (.getfield idx, 3)) (fl : FL M.1.cls idx ci k ty fin) (ha : h[a]? = some (ci, fs)) (hv : fs[k]? = some v) (kk : R X M (pc + 3) L (v :: st) h cs sl) : R X M pc L (.ref a :: st) h cs sl := by
  obtain ⟨p, l, e, Rm, s, m, args, below, meth, c, Q, E⟩ := X
  obtain ⟨hx, hb, hml, hown, hts, hK, hr, hlk, hE, hnm, hrm, hz⟩ := hO
  obtain ⟨C, T, N, ty0, f1, f2, f3, f4, f5, f6, f7, f8, f9, -⟩ := fl
  intro H locs ls hl hP hS
  show W _ _ _ _ _ _ _ _ _ _ _ _ _ _ _ (F0 m pc ls (.ref (pa E a) :: st.map (tr E)))
  rw [pa_at hP.2.1 ha]
  have hq := conc_at (E := E) ha
  rw [cE_obj f9] at hq
  exact va_get hx hb hts f3 hown hK.1 hP.2.2 a hq f1 k f2 (hts _ f6) (fun _ h9 => h9) (v := tr E v) (by rw [List.getElem?_map, hv]; rfl) dc (kk H locs ls hl hP hS)
theorem R_putf {idx ci k a : Nat} {ty : FieldType} {fs : List Value} {v : Value} (hO : OKX X false d M) (dc : decode M.2.1 pc = .ok (.putfield idx, 3)) (fl : FL M.1.cls idx ci k ty false) (ha : h[a]? = some (ci, fs)) (hlen : k < fs.length) (hn : narrow ty v = v) (hf : fits ty v = true) (hv : ∀ b, tr b v = v) (kk : R X M (pc + 3) L st (h.set a (ci, fs.set k v)) cs sl) : R X M pc L (v :: .ref a :: st) h cs sl := by
  obtain ⟨p, l, e, Rm, s, m, args, below, meth, c, Q, E⟩ := X
  obtain ⟨hx, hb, hml, hown, hts, hK, hr, hlk, hE, hnm, hrm, hz⟩ := hO
  obtain ⟨C, T, N, ty0, f1, f2, f3, f4, f5, f6, f7, f8, f9, -⟩ := fl
  intro H locs ls hl hP hS
  show W _ _ _ _ _ _ _ _ _ _ _ _ _ _ _ (F0 m pc ls (tr E v :: .ref (pa E a) :: st.map (tr E)))
  rw [pa_at hP.2.1 ha, hv]
  have hq := conc_at (E := E) ha
  rw [cE_obj f9] at hq
  refine va_put hx hb hts f3 ty0 f4 f5 hown hK.1 hP.2.2 (conc_D h) hS a hq f1 k f2 (hts _ f6) (fun _ h9 => h9) f8 (by rw [f4 k f2, f7]) hn hf (by rw [List.length_map]; exact hlen) dc (fun H1 locs1 hP1 hD1 hS1 => ?_)
  refine kk H1 locs1 ls hl (RepH.ns hz (by rw [List.length_set]; exact hP.2.1) ?_) hS1
  have e : (fs.map (tr E)).set k v = (fs.set k v).map (tr E) := by rw [List.map_set, hv]
  rw [e, ← cE_obj (E := E) f9, conc_set] at hP1
  exact hP1
theorem R_iald {a : Nat} {i : Int32} {fs : List Value} {x : Int32} (hO : OKX X z d M) (dc : decode M.2.1 pc = .ok (.iaload, 1)) (ha : h[a]? = some (20, fs)) (hi : ¬ (i < 0 ∨ fs.length ≤ i.toNatClampNeg)) (hv : fs[i.toNatClampNeg]? = some (.int x)) (kk : R X M (pc + 1) L (.int x :: st) h cs sl) : R X M pc L (.int i :: .ref a :: st) h cs sl := by
  obtain ⟨p, l, e, Rm, s, m, args, below, meth, c, Q, E⟩ := X
  obtain ⟨hx, hb, hml, hown, hts, hK, hr, hlk, hE, hnm, hrm, hz⟩ := hO
  intro H locs ls hl hP hS
  show W _ _ _ _ _ _ _ _ _ _ _ _ _ _ _ (F0 m pc ls (.int i :: .ref (pa E a) :: st.map (tr E)))
  rw [pa_at hP.2.1 ha]
  have hq := conc_at (E := E) ha
  rw [cE_int] at hq
  refine va_iald hx hb hK.1 hP.2.2 a 0 hq rfl hi dc ?_
  have e : iv (fs.getD i.toNatClampNeg .null) = x := by rw [List.getD_eq_getElem?_getD, hv]; rfl
  rw [e]
  exact kk H locs ls hl hP hS
theorem R_zald {a : Nat} {i : Int32} {fs : List Value} {x : Int32} (hO : OKX X z d M) (dc : decode M.2.1 pc = .ok (.baload, 1)) (ha : h[a]? = some (21, fs)) (hi : ¬ (i < 0 ∨ fs.length ≤ i.toNatClampNeg)) (hv : fs[i.toNatClampNeg]? = some (.int x)) (kk : R X M (pc + 1) L (.int x :: st) h cs sl) : R X M pc L (.int i :: .ref a :: st) h cs sl := by
  obtain ⟨p, l, e, Rm, s, m, args, below, meth, c, Q, E⟩ := X
  obtain ⟨hx, hb, hml, hown, hts, hK, hr, hlk, hE, hnm, hrm, hz⟩ := hO
  intro H locs ls hl hP hS
  show W _ _ _ _ _ _ _ _ _ _ _ _ _ _ _ (F0 m pc ls (.int i :: .ref (pa E a) :: st.map (tr E)))
  rw [pa_at hP.2.1 ha]
  have hq := conc_at (E := E) ha
  rw [cE_bool] at hq
  refine va_zald hx hb hK.1 hP.2.2 a 1 hq rfl hi dc ?_
  have e : iv (fs.getD i.toNatClampNeg .null) = x := by rw [List.getD_eq_getElem?_getD, hv]; rfl
  rw [e]
  exact kk H locs ls hl hP hS
theorem iv_upd {fs : List Value} {i : Nat} {x : Int32} (hi : i < fs.length) : upd (fun j => iv (fs.getD j .null)) i x = fun j => iv ((fs.set i (.int x)).getD j .null) := by
  funext j
  show (if j = i then x else iv (fs.getD j .null)) = iv ((fs.set i (.int x)).getD j .null)
  rw [List.getD_eq_getElem?_getD, List.getD_eq_getElem?_getD, List.getElem?_set]
  by_cases e : j = i
  · subst e
    rw [if_pos rfl, if_pos rfl, if_pos hi]
    rfl
  · rw [if_neg e, if_neg (fun q => e q.symm)]
theorem R_iast {a : Nat} {i : Int32} {fs : List Value} {x : Int32} (hO : OKX X false d M) (dc : decode M.2.1 pc = .ok (.iastore, 1)) (ha : h[a]? = some (20, fs)) (hi : ¬ (i < 0 ∨ fs.length ≤ i.toNatClampNeg)) (kk : R X M (pc + 1) L st (h.set a (20, fs.set i.toNatClampNeg (.int x))) cs sl) : R X M pc L (.int x :: .int i :: .ref a :: st) h cs sl := by
  obtain ⟨p, l, e, Rm, s, m, args, below, meth, c, Q, E⟩ := X
  obtain ⟨hx, hb, hml, hown, hts, hK, hr, hlk, hE, hnm, hrm, hz⟩ := hO
  intro H locs ls hl hP hS
  show W _ _ _ _ _ _ _ _ _ _ _ _ _ _ _ (F0 m pc ls (.int x :: .int i :: .ref (pa E a) :: st.map (tr E)))
  rw [pa_at hP.2.1 ha]
  have hq := conc_at (E := E) ha
  rw [cE_int] at hq
  refine va_iast hx hb hK.1 hP.2.2 (conc_D h) hS a 0 hq rfl hi dc (fun H1 locs1 hP1 hD1 hS1 => ?_)
  refine kk H1 locs1 ls hl (RepH.ns hz (by rw [List.length_set]; exact hP.2.1) ?_) hS1
  have hi' : i.toNatClampNeg < fs.length := Nat.not_le.mp fun q => hi (Or.inr q)
  rw [iv_upd hi', ← List.length_set (as := fs) (i := i.toNatClampNeg) (a := Value.int x), ← cE_int (E := E), conc_set] at hP1
  exact hP1
theorem R_zast {a : Nat} {i : Int32} {fs : List Value} (hO : OKX X false d M) (dc : decode M.2.1 pc = .ok (.bastore, 1)) (ha : h[a]? = some (21, fs)) (hi : ¬ (i < 0 ∨ fs.length ≤ i.toNatClampNeg)) (kk : R X M (pc + 1) L st (h.set a (21, fs.set i.toNatClampNeg (.int 1))) cs sl) : R X M pc L (.int 1 :: .int i :: .ref a :: st) h cs sl := by
  obtain ⟨p, l, e, Rm, s, m, args, below, meth, c, Q, E⟩ := X
  obtain ⟨hx, hb, hml, hown, hts, hK, hr, hlk, hE, hnm, hrm, hz⟩ := hO
  intro H locs ls hl hP hS
  show W _ _ _ _ _ _ _ _ _ _ _ _ _ _ _ (F0 m pc ls (.int 1 :: .int i :: .ref (pa E a) :: st.map (tr E)))
  rw [pa_at hP.2.1 ha]
  have hq := conc_at (E := E) ha
  rw [cE_bool] at hq
  refine va_zast hx hb hK.1 hP.2.2 (conc_D h) hS a 1 hq rfl hi dc (fun H1 locs1 hP1 hD1 hS1 => ?_)
  refine kk H1 locs1 ls hl (RepH.ns hz (by rw [List.length_set]; exact hP.2.1) ?_) hS1
  have hi' : i.toNatClampNeg < fs.length := Nat.not_le.mp fun q => hi (Or.inr q)
  rw [show vp_nar .boolean 1 = 1 from rfl, iv_upd hi', ← List.length_set (as := fs) (i := i.toNatClampNeg) (a := Value.int 1), ← cE_bool (E := E), conc_set] at hP1
  exact hP1
theorem R_aald {a c2 : Nat} {i : Int32} {fs : List Value} {q : Nat} (hO : OKX X z d M) (dc : decode M.2.1 pc = .ok (.aaload, 1)) (hc2 : c2 = 22 ∨ c2 = 23) (ha : h[a]? = some (c2, fs)) (hi : ¬ (i < 0 ∨ fs.length ≤ i.toNatClampNeg)) (hv : fs[i.toNatClampNeg]? = some (.ref q)) (kk : R X M (pc + 1) L (.ref q :: st) h cs sl) : R X M pc L (.int i :: .ref a :: st) h cs sl := by
  obtain ⟨p, l, e, Rm, s, m, args, below, meth, c, Q, E⟩ := X
  obtain ⟨hx, hb, hml, hown, hts, hK, hr, hlk, hE, hnm, hrm, hz⟩ := hO
  intro H locs ls hl hP hS
  show W _ _ _ _ _ _ _ _ _ _ _ _ _ _ _ (F0 m pc ls (.int i :: .ref (pa E a) :: st.map (tr E)))
  rw [pa_at hP.2.1 ha]
  have hq := conc_at (E := E) ha
  have e : va_rf (rv E (fs.getD i.toNatClampNeg .null)) = tr E (.ref q) := by rw [List.getD_eq_getElem?_getD, hv]; rfl
  rcases hc2 with rfl | rfl
  · rw [cE_st] at hq
    refine va_aldq hx hb hK.1 hP.2.2 a 2 hq rfl hi dc ?_
    rw [e]
    exact kk H locs ls hl hP hS
  · rw [cE_row] at hq
    refine va_aldq hx hb hK.1 hP.2.2 a 3 hq rfl hi dc ?_
    rw [e]
    exact kk H locs ls hl hP hS
theorem cpy_iv {fs gs : List Value} {sp dp n : Nat} (h4 : sp + n ≤ fs.length) (h5 : dp + n ≤ gs.length) : va_cpy (fun j => iv (fs.getD j .null)) (fun j => iv (gs.getD j .null)) sp dp n = fun j => iv ((gs.take dp ++ (fs.drop sp).take n ++ gs.drop (dp + n)).getD j .null) := by
  funext j
  show (if dp ≤ j ∧ j < dp + n then iv (fs.getD (sp + (j - dp)) .null) else iv (gs.getD j .null)) = iv ((gs.take dp ++ (fs.drop sp).take n ++ gs.drop (dp + n)).getD j .null)
  rw [List.getD_eq_getElem?_getD, List.getD_eq_getElem?_getD, List.getD_eq_getElem?_getD]
  by_cases c1 : j < dp
  · rw [if_neg (by omega), List.append_assoc, List.getElem?_append_left (by rw [List.length_take]; omega), List.getElem?_take, if_pos c1]
  · by_cases c2 : j < dp + n
    · rw [if_pos ⟨by omega, c2⟩, List.append_assoc, List.getElem?_append_right (by rw [List.length_take]; omega), List.getElem?_append_left (by rw [List.length_take, List.length_take, List.length_drop]; omega), List.length_take, List.getElem?_take, if_pos (by omega), List.getElem?_drop]
      congr 3
      omega
    · rw [if_neg (by omega), List.getElem?_append_right (by rw [List.length_append, List.length_take, List.length_take, List.length_drop]; omega), List.length_append, List.length_take, List.length_take, List.length_drop, List.getElem?_drop]
      congr 3
      omega
set_option maxHeartbeats 1000000 in
theorem R_copy {idx a b : Nat} {sp dp n : Int32} {fs gs : List Value} (hO : OKX X false d M) (dc : decode M.2.1 pc = .ok (.invokestatic idx, 3)) (hd : 0 < d) (hlink : Cond.methodLink M.1.cls idx arraycopyName ∈ TS) (hw : Cond.native arraycopyName ∈ TS ∧ Cond.static arraycopyName ∈ TS ∧ Cond.initialized "java/lang/System" ∈ TS) (ha : h[a]? = some (20, fs)) (hb2 : h[b]? = some (20, gs))
    (h1 : ¬ sp < 0) (h2 : ¬ dp < 0) (h3 : ¬ n < 0) (h4 : sp.toNatClampNeg + n.toNatClampNeg ≤ fs.length) (h5 : dp.toNatClampNeg + n.toNatClampNeg ≤ gs.length) (hs : (st.map fun v => v.category).sum ≤ 8)
    (kk : R X M (pc + 3) L st (h.set b (20, gs.take dp.toNatClampNeg ++ (fs.drop sp.toNatClampNeg).take n.toNatClampNeg ++ gs.drop (dp.toNatClampNeg + n.toNatClampNeg))) cs sl) : R X M pc L (.int n :: .int dp :: .ref b :: .int sp :: .ref a :: st) h cs sl := by
  obtain ⟨p, l, e, Rm, s, m, args, below, meth, c, Q, E⟩ := X
  obtain ⟨hx, hb, hml, hown, hts, hK, hr, hlk, hE, hnm, hrm, hz⟩ := hO
  intro H locs ls hl hP hS
  show W _ _ _ _ _ _ _ _ _ _ _ _ _ _ _ (F0 m pc ls (.int n :: .int dp :: .ref (pa E b) :: .int sp :: .ref (pa E a) :: st.map (tr E)))
  rw [pa_at hP.2.1 ha, pa_at hP.2.1 hb2]
  have hq := conc_at (E := E) ha
  have hq2 := conc_at (E := E) hb2
  rw [cE_int] at hq hq2
  have hnf : nativeFrameWords "java/lang/System" "arraycopy" 5 ≤ 20 := by decide +kernel
  refine va_copyi hx hb (by rw [hml]; exact hl.1.symm) hown (hts _ hlink) (hts _ hw.1) (hts _ hw.2.1) (hts _ hw.2.2) hK.1 hP.2.2 (conc_D h) hS a b 0 0 hq hq2 rfl rfl rfl h1 h2 h3 h4 h5 (fun _ _ => rfl) (by omega) (by rw [tr_catsum]; omega) dc (fun H1 locs1 hP1 hD1 hS1 => ?_)
  refine kk H1 locs1 ls hl (RepH.ns hz (by rw [List.length_set]; exact hP.2.1) ?_) hS1
  have el : gs.length = (gs.take dp.toNatClampNeg ++ (fs.drop sp.toNatClampNeg).take n.toNatClampNeg ++ gs.drop (dp.toNatClampNeg + n.toNatClampNeg)).length := by
    rw [List.length_append, List.length_append, List.length_take, List.length_take, List.length_drop, List.length_drop]
    omega
  rw [cpy_iv h4 h5, el, ← cE_int (E := E), conc_set] at hP1
  exact hP1
/-- what a call site's words are -/
def LKV (own : String) (idx : Nat) (N : MD) : Prop := Cond.methodLink own idx N.1 ∈ TS ∧ Cond.instanceMethod N.1 ∈ TS ∧ Cond.selects N.1.cls N.1 N.1 ∈ TS ∧ Cond.initialized N.1.cls ∈ TS ∧ Cond.code N.1 N.2.1 N.2.2.1 N.2.2.2 ∈ TS ∧ (N.1.cls ≠ "java/lang/invoke/MethodHandle" ∧ N.1.cls ≠ "java/lang/invoke/VarHandle") ∧ N.2.2.1 ≤ 40
def LKS (own : String) (idx : Nat) (N : MD) : Prop := Cond.methodLink own idx N.1 ∈ TS ∧ Cond.static N.1 ∈ TS ∧ Cond.initialized N.1.cls ∈ TS ∧ Cond.code N.1 N.2.1 N.2.2.1 N.2.2.2 ∈ TS ∧ (N.1.cls ≠ "java/lang/invoke/MethodHandle" ∧ N.1.cls ≠ "java/lang/invoke/VarHandle") ∧ N.2.2.1 ≤ 40
def LKN (own : String) (idx : Nat) (N : MD) : Prop := (own, idx, N.1, RX7) ∈ nestL ∧ Cond.static N.1 ∈ TS ∧ Cond.initialized N.1.cls ∈ TS ∧ Cond.code N.1 N.2.1 N.2.2.1 N.2.2.2 ∈ TS ∧ (N.1.cls ≠ "java/lang/invoke/MethodHandle" ∧ N.1.cls ≠ "java/lang/invoke/VarHandle") ∧ N.2.2.1 ≤ 40
theorem GIc {N : MD} (h : Cond.code N.1 N.2.1 N.2.2.1 N.2.2.2 ∈ TS) : GoodIn TS (wsM N) := by
  intro w hw
  rcases List.mem_cons.mp hw with rfl | hw
  · exact TS_good _ h
  · exact TS_good _ hw
theorem R_back {mc ms : Nat} {rest : List Value} {a : Array Value} {Qp : Option Value → AH → Prop} {p : Program} {l : Launch} {e : Env} {Rm : Room} {s : State} {m : MethodId} {args : Array Value} {below : List Frame} {meth : Method} {c : Code} {Q : State → Prop} {E : EE} {H : Heap} {locs : List Loc} {ls : Array Slot} {st0 : List Value}
    (hr : va_Run p l e Rm s m args below meth c H locs cs sl mc ms (F0 m pc ls st0) (rest.map (tr E)) (QcE E Qp a) (mine E)) (hS : va_S (mine E) s.heap H locs)
    (kk : ∀ (v : Option Value) (h' : AH) (H1 : Heap) (locs1 : List Loc), Qp v h' → RepH E h' H1 → va_S (mine E) s.heap H1 locs1 → W p l e Rm s m args below meth c H1 locs1 (cs + mc) (sl + ms) Q (F0 m (pc + 3) ls ((v.toList ++ rest).map (tr E)))) : W p l e Rm s m args below meth c H locs cs sl Q (F0 m pc ls st0) := by
  intro T hT X
  obtain ⟨v, st₀, t, T', L, h0, X', hL, e1, e2, ⟨v2, h', hv, hq, hP', hz, hk⟩, stp⟩ := hr T hT X
  cases hv
  rw [h0] at hz hk
  obtain ⟨t2, a1, b1⟩ := kk v2 h' T'.heap (locs ++ L) hq (by rw [e1]; exact hP')
    ⟨Nat.le_trans hS.1 (by rw [e1]; exact hz), fun q h1 h2 => by rw [e1, hk q (Nat.lt_of_lt_of_le h1 hS.1) h2]; exact hS.2.1 q h1 h2, fun q hq => by
      rcases List.mem_append.mp hq with h | h
      · exact hS.2.2 q h
      · exact hL q h⟩ T' rfl X'
  refine ⟨t2, stp t2 ?_, b1⟩
  have e3 : (v2.map (tr E)).toList ++ rest.map (tr E) = (v2.toList ++ rest).map (tr E) := by
    cases v2 <;> rfl
  show Steps _ _ _ (T'.setTop { F0 m pc ls st0 with pc := pc + 3, stack := _ }) t2
  rw [e3]
  exact a1
set_option maxHeartbeats 1000000 in
theorem R_callV {N : MD} {d2 mc ms idx a ci : Nat} {As rest fs : List Value} {Qp : Option Value → AH → Prop} {q : vw_C} (hO : OKX X z d M) (dc : decode M.2.1 pc = .ok (.invokevirtual idx, 3)) (hM : C z d2 N mc ms (.ref a :: As) h Qp) (hd : d2 < d) (lkv : LKV M.1.cls idx N) (hp : (parseMethodDescriptor N.1.desc).map (fun d => d.parameters.length) = some As.length) (hst : st = As.reverse ++ .ref a :: rest) (hs : (rest.map fun v => v.category).sum ≤ 8)
    (ha : h[a]? = some (ci, fs)) (hc : cls0[ci]? = some q) (hq : q.1 = N.1.cls) (hci : ci < 20) (hcs : ∃ (p : CX), p = X ∧ cs + mc ≤ p.2.2.2.1.cells ∧ sl + ms ≤ p.2.2.2.1.slots)
    (kk : ∀ (v : Option Value) (h' : AH), Qp v h' → R X M (pc + 3) L (v.toList ++ rest) h' (cs + mc) (sl + ms)) : R X M pc L st h cs sl := by
  obtain ⟨p, l, e, Rm, s, m, args, below, meth, c, Q, E⟩ := X
  obtain ⟨hx, hb, hml, hown, hts, hK, hr, hlk, hE, hnm, hrm, hz⟩ := hO
  obtain ⟨w1, w2, w3, w4, w5, w6, w7⟩ := lkv
  obtain ⟨p9, rfl, hcs⟩ := hcs
  subst hst
  intro H locs ls hl hP hS
  have hqa := conc_at (E := E) ha
  rw [cE_obj hci] at hqa
  have hg : GoodIn TS (wsV M.1.cls idx N.1.cls N.1 (wsM N)) := goodIn_c (TS_good _ w1) (goodIn_c (TS_good _ w2) (goodIn_c (TS_good _ w3) (goodIn_c (TS_good _ w4) (GIc w5))))
  have hrecv := va_recv hK.1 hP.2.2 hc hqa
  rw [hq] at hrecv
  have hst2 : ((As.reverse ++ Value.ref a :: rest).map (tr E)) = (As.map (tr E)).reverse ++ .ref (E.2.1 + a) :: rest.map (tr E) := by
    rw [List.map_append, List.map_reverse, List.map_cons]
    show _ ++ Value.ref (pa E a) :: _ = _
    rw [pa_at hP.2.1 ha]
  have hst3 : ((Value.ref a :: As).map (tr E)) = .ref (E.2.1 + a) :: As.map (tr E) := by
    rw [List.map_cons]
    show Value.ref (pa E a) :: _ = _
    rw [pa_at hP.2.1 ha]
  rw [hst2]
  refine R_back (va_runV (As := As.map (tr E)) ⟨hx, hb, hml, hown, hts⟩ (hM l E hz) (cwV As.length hts hg rfl rfl rfl ⟨rfl, w6.1, w6.2, hp⟩ ⟨by show d2 + 1 ≤ _; omega, by show 8 + (N.2.2.1 + 11) + 60 * d2 ≤ _; omega⟩) ⟨PcE.blind _ _ _, hrecv, fun U hU hW => ⟨by rw [hst3], by rw [hU]; exact hP, RepK.go hK hW (fun q h1 h2 => by rw [hU]; exact hS.2.1 q h1 h2), by rw [hU]; exact Nat.le_trans hE hS.1⟩⟩ rfl (by rw [List.length_map]) hl.1 rfl (lv_room (by rw [tr_catsum]; exact hs)) dc hcs) hS (fun v h' H1 locs1 hq1 hP1 hS1 => kk v h' hq1 H1 locs1 ls hl hP1 hS1)
set_option maxHeartbeats 1000000 in
theorem R_callS {N : MD} {d2 mc ms idx : Nat} {As rest : List Value} {Qp : Option Value → AH → Prop} (hO : OKX X z d M) (dc : decode M.2.1 pc = .ok (.invokestatic idx, 3)) (hM : C z d2 N mc ms As h Qp) (hd : d2 < d) (lkv : LKS M.1.cls idx N) (hp : (parseMethodDescriptor N.1.desc).map (fun d => d.parameters.length) = some As.length) (hst : st = As.reverse ++ rest) (hs : (rest.map fun v => v.category).sum ≤ 8)
    (hcs : ∃ (p : CX), p = X ∧ cs + mc ≤ p.2.2.2.1.cells ∧ sl + ms ≤ p.2.2.2.1.slots)
    (kk : ∀ (v : Option Value) (h' : AH), Qp v h' → R X M (pc + 3) L (v.toList ++ rest) h' (cs + mc) (sl + ms)) : R X M pc L st h cs sl := by
  obtain ⟨p, l, e, Rm, s, m, args, below, meth, c, Q, E⟩ := X
  obtain ⟨hx, hb, hml, hown, hts, hK, hr, hlk, hE, hnm, hrm, hz⟩ := hO
  obtain ⟨w1, w2, w4, w5, w6, w7⟩ := lkv
  obtain ⟨p9, rfl, hcs⟩ := hcs
  subst hst
  intro H locs ls hl hP hS
  have hg : GoodIn TS (va_wsS M.1.cls idx N.1 (wsM N)) := goodIn_c (TS_good _ w1) (goodIn_c (TS_good _ w2) (goodIn_c (TS_good _ w4) (GIc w5)))
  rw [List.map_append, List.map_reverse]
  refine R_back (va_runS (As := As.map (tr E)) ⟨hx, hb, hml, hown, hts⟩ (hM l E hz) (va_cwS As.length hts hg rfl rfl rfl ⟨w6.1, w6.2, hp⟩ ⟨by show d2 + 1 ≤ _; omega, by show 8 + (N.2.2.1 + 11) + 60 * d2 ≤ _; omega⟩) ⟨PcE.blind _ _ _, fun U hU hW => ⟨rfl, by rw [hU]; exact hP, RepK.go hK hW (fun q h1 h2 => by rw [hU]; exact hS.2.1 q h1 h2), by rw [hU]; exact Nat.le_trans hE hS.1⟩⟩ rfl (by rw [List.length_map]) hl.1 rfl (lv_room (by rw [tr_catsum]; exact hs)) dc hcs) hS (fun v h' H1 locs1 hq1 hP1 hS1 => kk v h' hq1 H1 locs1 ls hl hP1 hS1)
set_option maxHeartbeats 1000000 in
theorem R_callSN {N : MD} {d2 mc ms idx : Nat} {As rest : List Value} {Qp : Option Value → AH → Prop} (hO : OKX X z d M) (dc : decode M.2.1 pc = .ok (.invokestatic idx, 3)) (hM : C z d2 N mc ms As h Qp) (hd : d2 < d) (lkv : LKN M.1.cls idx N) (hp : (parseMethodDescriptor N.1.desc).map (fun d => d.parameters.length) = some As.length) (hst : st = As.reverse ++ rest) (hs : (rest.map fun v => v.category).sum ≤ 8)
    (hcs : ∃ (p : CX), p = X ∧ cs + mc ≤ p.2.2.2.1.cells ∧ sl + ms ≤ p.2.2.2.1.slots)
    (kk : ∀ (v : Option Value) (h' : AH), Qp v h' → R X M (pc + 3) L (v.toList ++ rest) h' (cs + mc) (sl + ms)) : R X M pc L st h cs sl := by
  obtain ⟨p, l, e, Rm, s, m, args, below, meth, c, Q, E⟩ := X
  obtain ⟨hx, hb, hml, hown, hts, hK, hr, hlk, hE, hnm, hrm, hz⟩ := hO
  obtain ⟨w1, w2, w4, w5, w6, w7⟩ := lkv
  obtain ⟨p9, rfl, hcs⟩ := hcs
  subst hst
  intro H locs ls hl hP hS
  rw [List.map_append, List.map_reverse]
  refine R_back (va_runSN (As := As.map (tr E)) ⟨hx, hb, hml, hown, hts⟩ (hM l E hz) ⟨va_cnB As.length hts (GIc w5) rfl rfl rfl (hK.2.1 _ w1) (hts _ w4) ⟨w6.1, w6.2, hp⟩ ⟨by show d2 + 1 ≤ _; omega, by show 8 + (N.2.2.1 + 11) + 60 * d2 ≤ _; omega⟩, hts _ w2, trivial⟩ ⟨PcE.blind _ _ _, fun U hU hW => ⟨rfl, by rw [hU]; exact hP, RepK.go hK hW (fun q h1 h2 => by rw [hU]; exact hS.2.1 q h1 h2), by rw [hU]; exact Nat.le_trans hE hS.1⟩⟩ rfl (by rw [List.length_map]) hl.1 rfl (lv_room (by rw [tr_catsum]; exact hs)) dc hcs) hS (fun v h' H1 locs1 hq1 hP1 hS1 => kk v h' hq1 H1 locs1 ls hl hP1 hS1)
end HEAP
