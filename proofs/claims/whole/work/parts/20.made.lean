/-! MAKING: the rules of R by which cells come (sizes known) -/
theorem RepH.push {E : EE} {h : AH} {H H1 : Heap} {c : Nat × List Value} (hz : E.1 = true) (hP : RepH E h H) (hl : h.length < 1000) (hc : va_at E.2.2.1 cls0 (E.2.1 + h.length, cE E c) H1) (z1 : H1.size = H.size + 1) (o1 : ∀ q, q < H.size → H1[q]? = H[q]?) : RepH E (h ++ [c]) H1 := by
  refine ⟨fun _ => by rw [z1, hP.1 hz, List.length_append]; rfl, by rw [List.length_append]; exact hl, ?_⟩
  rw [← conc_push]
  refine (hP.2.2.kept (fun k x hx => o1 x.1 ((hP.2.2 k x hx).lt))).app (fun k x hx => ?_)
  have hk : k < 1 := (List.getElem?_eq_some_iff.mp hx).1
  rw [show k = 0 by omega] at hx
  cases hx
  exact hc
theorem va_S.grow {A : Nat → Prop} {H0 H H1 : Heap} {locs : List Loc} (h : va_S A H0 H locs) (z1 : H1.size = H.size + 1) (o1 : ∀ q, q < H.size → H1[q]? = H[q]?) : va_S A H0 H1 locs := ⟨Nat.le_trans h.1 (by omega), fun x h1 h2 => (o1 x (Nat.lt_of_lt_of_le h1 h.1)).trans (h.2.1 x h1 h2), h.2.2⟩
theorem RepH.setq {E : EE} {h : AH} {H H1 : Heap} {a : Nat} {c0 c : Nat × List Value} (hP : RepH E h H) (ha : h[a]? = some c0) (he : va_at E.2.2.1 cls0 (E.2.1 + a, cE E c) H1) (z : H1.size = H.size) (oq : ∀ q : Nat, q ≠ E.2.1 + a → H1[q]? = H[q]?) : RepH E (h.set a c) H1 := by
  refine ⟨fun hz => by rw [z, hP.1 hz, List.length_set], by rw [List.length_set]; exact hP.2.1, ?_⟩
  rw [← conc_set]
  exact hP.2.2.set (conc_D h) (conc_at ha) he oq
section MADE
variable {X : CX} {d : Nat} {M : MD} {pc : Nat} {L : AL} {st : List Value} {h : AH} {cs sl : Nat}
def room (X : CX) (cs sl : Nat) : Prop := cs ≤ X.2.2.2.1.cells ∧ sl ≤ X.2.2.2.1.slots
theorem room_le {cs sl c2 s2 : Nat} (h : room X c2 s2) (h1 : cs ≤ c2) (h2 : sl ≤ s2) : room X cs sl := ⟨Nat.le_trans h1 h.1, Nat.le_trans h2 h.2⟩
theorem R_new {idx ci N : Nat} {C : String} {T : u_T} {ty : Nat → FieldType} {fs : List Value} (hO : OKX X true d M) (dc : decode M.2.1 pc = .ok (.new idx, 3)) (hw : Cond.classLink M.1.cls idx C ∈ TS ∧ Cond.instantiable C N ∈ TS ∧ Cond.initialized C ∈ TS) (hc : cls0[ci]? = some (C, T, N)) (hci : ci < 20) (hin : ∀ w ∈ u_ws C T N, w ∈ TS) (hty : ∀ k, k < N → parseFieldDescriptor (T k).2.2.1 = some (ty k)) (hfs : ∀ j, j < N → defaultValue (ty j) = vp_V fs j) (htr : ∀ b, fs.map (tr b) = fs) (hl : h.length < 1000) (hr : room X (cs + 1) (sl + N))
    (k : R X M (pc + 3) L (.ref h.length :: st) (h ++ [(ci, fs)]) (cs + 1) (sl + N)) : R X M pc L st h cs sl := by
  obtain ⟨p, l, e, Rm, s, m, args, below, meth, c, Q, E⟩ := X
  obtain ⟨hx, hb, hml, hown, hts, hK, hrt, hlk, hE, hnm, hrm, hz⟩ := hO
  intro H locs ls hl2 hP hS
  have hKn := hK.1.1 ci _ hc
  refine W.newcK hx hb hown (hts _ hw.1) (hts _ hw.2.1) (hts _ hw.2.2) rfl dc hr.1 hr.2 hKn.2.1 rfl fun H1 kC hkC e1 z1 o1 => ?_
  have hsz : H.size = E.2.1 + h.length := hP.1 hz
  have hst : (Value.ref H.size :: st.map (tr E)) = (Value.ref h.length :: st).map (tr E) := by
    rw [List.map_cons]
    show _ = Value.ref (pa E h.length) :: _
    rw [pa_lt hl, hsz]
  show W _ _ _ _ _ _ _ _ _ _ _ _ _ _ _ (F0 m (pc + 3) ls (Value.ref H.size :: st.map (tr E)))
  rw [hst]
  refine k H1 locs ls hl2 (RepH.push hz hP hl ?_ z1 o1) (hS.grow z1 o1)
  rw [cE_obj hci, htr, ← hsz]
  exact ⟨_, hc, (u_born ty hts hin hKn hkC e1 hty).to hfs⟩
theorem R_newi {N : Nat} {n : Int32} (hO : OKX X true d M) (dc : decode M.2.1 pc = .ok (.newarray .int, 2)) (hn : ¬ n < 0) (hN : n.toNatClampNeg = N) (hb8 : N * 4 ≤ 536870912) (hl : h.length < 1000) (hr : room X (cs + 1) (sl + N))
    (k : R X M (pc + 2) L (.ref h.length :: st) (h ++ [(20, List.replicate N (.int 0))]) (cs + 1) (sl + N)) : R X M pc L (.int n :: st) h cs sl := by
  obtain ⟨p, l, e, Rm, s, m, args, below, meth, c, Q, E⟩ := X
  obtain ⟨hx, hb, hml, hown, hts, hK, hrt, hlk, hE, hnm, hrm, hz⟩ := hO
  intro H locs ls hl2 hP hS
  refine va_newaK hx hb (atype := .int) (hts _ (TSi 153 (by decide +kernel) (by decide +kernel))) rfl dc rfl hn hN hb8 hr.1 hr.2 rfl fun H1 cA e1 z1 o1 hAr hNm => ?_
  have hsz : H.size = E.2.1 + h.length := hP.1 hz
  have hst : (Value.ref H.size :: st.map (tr E)) = (Value.ref h.length :: st).map (tr E) := by
    rw [List.map_cons]
    show _ = Value.ref (pa E h.length) :: _
    rw [pa_lt hl, hsz]
  show W _ _ _ _ _ _ _ _ _ _ _ _ _ _ _ (F0 m (pc + 2) ls (Value.ref H.size :: st.map (tr E)))
  rw [hst]
  refine k H1 locs ls hl2 (RepH.push hz hP hl ?_ z1 o1) (hS.grow z1 o1)
  have hcA : cA = E.2.2.2.1.1 := Option.some.inj (hNm.symm.trans (hK.1.2 0 _ rfl).2)
  rw [cE_int, ← hsz]
  show H1[H.size]? = some (vp_cell _ _)
  rw [e1, hcA, vp_cell_i, List.length_replicate]
  congr 2
  funext j
  rw [List.getD_eq_getElem?_getD, List.getElem?_replicate]
  by_cases hj : j < N
  · rw [if_pos hj]; rfl
  · rw [if_neg hj]; rfl
theorem R_newz {N : Nat} {n : Int32} (hO : OKX X true d M) (dc : decode M.2.1 pc = .ok (.newarray .boolean, 2)) (hn : ¬ n < 0) (hN : n.toNatClampNeg = N) (hb8 : N * 1 ≤ 536870912) (hl : h.length < 1000) (hr : room X (cs + 1) (sl + N))
    (k : R X M (pc + 2) L (.ref h.length :: st) (h ++ [(21, List.replicate N (.int 0))]) (cs + 1) (sl + N)) : R X M pc L (.int n :: st) h cs sl := by
  obtain ⟨p, l, e, Rm, s, m, args, below, meth, c, Q, E⟩ := X
  obtain ⟨hx, hb, hml, hown, hts, hK, hrt, hlk, hE, hnm, hrm, hz⟩ := hO
  intro H locs ls hl2 hP hS
  refine va_newaK hx hb (atype := .boolean) (hts _ (TSi 963 (by decide +kernel) (by decide +kernel))) rfl dc rfl hn hN hb8 hr.1 hr.2 rfl fun H1 cA e1 z1 o1 hAr hNm => ?_
  have hsz : H.size = E.2.1 + h.length := hP.1 hz
  have hst : (Value.ref H.size :: st.map (tr E)) = (Value.ref h.length :: st).map (tr E) := by
    rw [List.map_cons]
    show _ = Value.ref (pa E h.length) :: _
    rw [pa_lt hl, hsz]
  show W _ _ _ _ _ _ _ _ _ _ _ _ _ _ _ (F0 m (pc + 2) ls (Value.ref H.size :: st.map (tr E)))
  rw [hst]
  refine k H1 locs ls hl2 (RepH.push hz hP hl ?_ z1 o1) (hS.grow z1 o1)
  have hcA : cA = E.2.2.2.1.2.1 := Option.some.inj (hNm.symm.trans (hK.1.2 1 _ rfl).2)
  rw [cE_bool, ← hsz]
  show H1[H.size]? = some (vp_cell _ _)
  rw [e1, hcA, vp_cell_i, List.length_replicate]
  congr 2
  funext j
  rw [List.getD_eq_getElem?_getD, List.getElem?_replicate]
  by_cases hj : j < N
  · rw [if_pos hj]; rfl
  · rw [if_neg hj]; rfl
theorem R_newq {idx N c2 t0 : Nat} {C : String} {n : Int32} (hO : OKX X true d M) (dc : decode M.2.1 pc = .ok (.anewarray idx, 3)) (hc2 : (c2 = 22 ∧ C = RX5 ∧ t0 = 2) ∨ (c2 = 23 ∧ C = RX4 ∧ t0 = 3)) (hw : Cond.classLink M.1.cls idx C ∈ TS) (hn : ¬ n < 0) (hN : n.toNatClampNeg = N) (hb8 : N * 4 ≤ 536870912) (hl : h.length < 1000) (hr : room X (cs + 1) (sl + N))
    (k : R X M (pc + 3) L (.ref h.length :: st) (h ++ [(c2, List.replicate N .null)]) (cs + 1) (sl + N)) : R X M pc L (.int n :: st) h cs sl := by
  obtain ⟨p, l, e, Rm, s, m, args, below, meth, c, Q, E⟩ := X
  obtain ⟨hx, hb, hml, hown, hts, hK, hrt, hlk, hE, hnm, hrm, hz⟩ := hO
  intro H locs ls hl2 hP hS
  subst hN
  have hAO : va_AO C s := by
    rcases hc2 with ⟨-, rfl, -⟩ | ⟨-, rfl, -⟩
    · exact hK.2.2.2.1
    · exact hK.2.2.2.2
  refine W.anew hx hb hown (hts _ hw) (va_AO.use hAO) rfl dc rfl hn hb8 hr.1 hr.2 fun cA kA comp f1 f2 f3 f4 => ?_
  generalize hH1 : H.push ({ cls := cA, slots := Array.replicate n.toNatClampNeg .null, vm := .none } : Cell) = H1
  have z1 : H1.size = H.size + 1 := by rw [← hH1, Array.size_push]
  have e1 : H1[H.size]? = some (arrV cA n.toNatClampNeg (fun _ => .null)) := by rw [← hH1, Array.getElem?_push_size, ← arrV_new]
  have o1 : ∀ q : Nat, q < H.size → H1[q]? = H[q]? := fun q hq => by rw [← hH1, Array.getElem?_push, if_neg (Nat.ne_of_lt hq)]
  have hsz : H.size = E.2.1 + h.length := hP.1 hz
  have hst : (Value.ref H.size :: st.map (tr E)) = (Value.ref h.length :: st).map (tr E) := by
    rw [List.map_cons]
    show _ = Value.ref (pa E h.length) :: _
    rw [pa_lt hl, hsz]
  show W _ _ _ _ _ _ _ _ _ _ _ _ _ _ _ (F0 m (pc + 3) ls (Value.ref H.size :: st.map (tr E)))
  rw [hst]
  refine k H1 locs ls hl2 (RepH.push hz hP hl ?_ z1 o1) (hS.grow z1 o1)
  have hnull : ∀ (a : ClassId), vp_cell a ((List.replicate n.toNatClampNeg Value.null).length, .inr (.inr (.inr (.inr (fun j => rv E ((List.replicate n.toNatClampNeg Value.null).getD j .null)))))) = arrV a n.toNatClampNeg (fun _ => .null) := by
    intro a
    rw [vp_cell_q, List.length_replicate]
    congr 1
    funext j
    rw [List.getD_eq_getElem?_getD, List.getElem?_replicate]
    by_cases hj : j < n.toNatClampNeg
    · rw [if_pos hj]; rfl
    · rw [if_neg hj]; rfl
  rcases hc2 with ⟨rfl, rfl, rfl⟩ | ⟨rfl, rfl, rfl⟩
  · have hcA : cA = E.2.2.2.1.2.2.1 := by
      obtain ⟨kA', comp', -, -, -, g4⟩ := (hK.1.2 2 _ rfl).2
      exact Option.some.inj (f1.symm.trans g4)
    rw [cE_st, ← hsz]
    show H1[H.size]? = some (vp_cell _ _)
    rw [e1, hcA, hnull]
  · have hcA : cA = E.2.2.2.1.2.2.2 := by
      obtain ⟨kA', comp', -, -, -, g4⟩ := (hK.1.2 3 _ rfl).2
      exact Option.some.inj (f1.symm.trans g4)
    rw [cE_row, ← hsz]
    show H1[H.size]? = some (vp_cell _ _)
    rw [e1, hcA, hnull]
theorem R_putq {idx ci k a : Nat} {ty : FieldType} {fin : Bool} {fs : List Value} {v : Value} {h2 : AH} (hO : OKX X true d M) (dc : decode M.2.1 pc = .ok (.putfield idx, 3)) (fl : FL M.1.cls idx ci k ty fin) (hf : fin = false ∨ (M.1.name = "<init>" ∧ cls0[ci]?.map (fun q => q.1) = some M.1.cls)) (ha : h[a]? = some (ci, fs)) (hlen : k < fs.length) (hn : ∀ b, narrow ty (tr b v) = tr b v) (hft : ∀ b, fits ty (tr b v) = true) (hh : h.set a (ci, fs.set k v) = h2) (kk : R X M (pc + 3) L st h2 cs sl) : R X M pc L (v :: .ref a :: st) h cs sl := by
  obtain ⟨p, l, e, Rm, s, m, args, below, meth, c, Q, E⟩ := X
  obtain ⟨hx, hb, hml, hown, hts, hK, hrt, hlk, hE, hnm, hrm, hz⟩ := hO
  obtain ⟨C, T, N, ty0, f1, f2, f3, f4, f5, f6, f7, f8, f9, f10⟩ := fl
  subst hh
  intro H locs ls hl hP hS
  show W _ _ _ _ _ _ _ _ _ _ _ _ _ _ _ (F0 m pc ls (tr E v :: .ref (pa E a) :: st.map (tr E)))
  rw [pa_at hP.2.1 ha]
  have hq := conc_at (E := E) ha
  rw [cE_obj f9] at hq
  have hap := va_apart (own := M.1.cls) hts f3 ty0 f4 f5 hK.1 f1
  obtain ⟨r, h1, cell, q1, q2, q3, q4⟩ := hP.2.2 a _ hq
  have hr : r = (C, T, N) := Option.some.inj (h1.symm.trans f1)
  subst hr
  obtain ⟨hSl, hfc, kC, hkC, hkind⟩ := hK.1.1 ci _ f1
  obtain ⟨cf, kf, fi, f, hi, hsl⟩ := hSl k f2
  have hlay := hts _ (f3 _ (u_in_lay f2))
  have hst := (u_facts hfc hkC (u_lays hts f3 f2) hi).1
  have hd : parseFieldDescriptor (T k).2.2.1 = some ty := by rw [f4 k f2, f7]
  have fin_ : ∀ H1 : Heap, H1[E.2.1 + a]? = some (cell.setSlot f.slot (tr E v)) → H1.size = H.size → (∀ q, q ≠ E.2.1 + a → H1[q]? = H[q]?) → RepH E (h.set a (ci, fs.set k v)) H1 := by
    intro H1 e1 e2 e3
    refine hP.setq ha ?_ e2 e3
    have em : cE E (ci, fs.set k v) = .inr (ci, (fs.map (tr E)).set k (tr E v)) := by rw [cE_obj f9, List.map_set]
    rw [em]
    rw [hsl] at e1
    exact ⟨_, f1, t_OB.to (V := updV (vp_V (fs.map (tr E))) k (tr E v)) ⟨_, e1, q2, q3, t_set q4 hap f2 (tr E v)⟩ (fun j _ => vp_updV_set (by rw [List.length_map]; exact hlen) (tr E v) j)⟩
  by_cases hfin : (T k).2.2.2 = true
  · unfold u_lay at hlay
    rw [if_pos hfin] at hlay
    obtain ⟨hin2, hc0⟩ : M.1.name = "<init>" ∧ cls0[ci]?.map (fun q => q.1) = some M.1.cls := by
      rcases hf with hf | hf
      · rw [← f8, hfin] at hf; cases hf
      · exact hf
    have hdecl : (T k).1 = M.1.cls := by
      rw [f1] at hc0
      exact f10.trans (Option.some.inj hc0)
    have hcf : m.cls = cf := by
      obtain ⟨_, _, c', _, _, _, -, -, hf', -, -, -, hown2, -⟩ := Cond.laysFinal_spec hlay
      have e1 : c' = cf := by have := hi.symm.trans hf'; simp at this; exact this.1.symm
      rw [hdecl] at hown2
      rw [← e1]; exact Option.some.inj (hown.symm.trans hown2)
    have h6 := u_fits hfc hkC hkind (Or.inr hlay) hi hd (hn E) (hft E)
    refine W.putFinK hx hb hown (hts _ f6) hi hst hcf (hnm.trans hin2) (by rw [q2]; exact h6) q1 q3 (by rw [hsl]; exact k2_hasslot (q4 k f2)) rfl rfl dc fun H1 e1 e2 e3 => ?_
    exact kk H1 _ ls hl (fin_ H1 e1 e2 e3) (hS.put e2 e3 (Nat.le_add_right _ _))
  · unfold u_lay at hlay
    rw [if_neg hfin] at hlay
    have h6 := u_store hfc hkC hkind hlay hi hd (hn E) (hft E)
    refine W.putK hx hb (f := f) ⟨hown, hts _ f6, ⟨_, _, _, hi⟩, hst⟩ (by rw [q2]; exact h6) q1 q3 (by rw [hsl]; exact k2_hasslot (q4 k f2)) rfl rfl dc fun H1 e1 e2 e3 => ?_
    exact kk H1 _ ls hl (fin_ H1 e1 e2 e3) (hS.put e2 e3 (Nat.le_add_right _ _))
theorem R_iastq {a n : Nat} {i : Int32} {fs : List Value} {x : Int32} {h2 : AH} (hO : OKX X true d M) (dc : decode M.2.1 pc = .ok (.iastore, 1)) (ha : h[a]? = some (20, fs)) (hi : ¬ (i < 0 ∨ fs.length ≤ i.toNatClampNeg)) (hn : i.toNatClampNeg = n) (hh : h.set a (20, fs.set n (.int x)) = h2) (kk : R X M (pc + 1) L st h2 cs sl) : R X M pc L (.int x :: .int i :: .ref a :: st) h cs sl := by
  obtain ⟨p, l, e, Rm, s, m, args, below, meth, c, Q, E⟩ := X
  obtain ⟨hx, hb, hml, hown, hts, hK, hrt, hlk, hE, hnm, hrm, hz⟩ := hO
  subst hh
  subst hn
  intro H locs ls hl hP hS
  show W _ _ _ _ _ _ _ _ _ _ _ _ _ _ _ (F0 m pc ls (.int x :: .int i :: .ref (pa E a) :: st.map (tr E)))
  rw [pa_at hP.2.1 ha]
  have hq := conc_at (E := E) ha
  rw [cE_int] at hq
  have hi' : i.toNatClampNeg < fs.length := Nat.not_le.mp fun q => hi (Or.inr q)
  refine W.iast hx hb (hP.2.2 a _ hq) ((hK.1.2 0 _ rfl).1 fs.length (fun j => .int (iv (fs.getD j .null)))) (fun q => by cases q) (by show ¬ (i < 0 ∨ (arrV _ _ _).slots.size ≤ _); rw [arrV_size]; exact hi) rfl rfl dc fun H1 e z oq => ?_
  refine kk H1 _ ls hl (hP.setq ha ?_ z oq) (hS.put z oq (Nat.le_add_right _ _))
  rw [cE_int]
  show H1[_]? = some (vp_cell _ _)
  rw [e, vp_cell_i, vp_cell_i, arrV_store, List.length_set]
  congr 2
  funext q
  show (updV _ _ _) q = Value.int (iv ((fs.set i.toNatClampNeg (.int x)).getD q .null))
  rw [List.getD_eq_getElem?_getD, List.getElem?_set]
  by_cases hq2 : q = i.toNatClampNeg
  · subst hq2
    rw [if_pos rfl, if_pos hi']
    simp [updV, iv]
  · rw [if_neg (fun q2 => hq2 q2.symm)]
    simp [updV, hq2]
theorem R_aastq {a c2 t0 v n : Nat} {C : String} {vs : List Value} {r : vw_C} {ci : Nat} {i : Int32} {fs : List Value} {h2 : AH} (hO : OKX X true d M) (dc : decode M.2.1 pc = .ok (.aastore, 1)) (hc2 : (c2 = 22 ∧ C = RX5 ∧ t0 = 2) ∨ (c2 = 23 ∧ C = RX4 ∧ t0 = 3)) (ha : h[a]? = some (c2, fs)) (hv : h[v]? = some (ci, vs)) (hci : ci < 20) (hc : cls0[ci]? = some r) (hrC : r.1 = C) (hi : ¬ (i < 0 ∨ fs.length ≤ i.toNatClampNeg)) (hn : i.toNatClampNeg = n) (hh : h.set a (c2, fs.set n (.ref v)) = h2) (kk : R X M (pc + 1) L st h2 cs sl) : R X M pc L (.ref v :: .int i :: .ref a :: st) h cs sl := by
  obtain ⟨p, l, e, Rm, s, m, args, below, meth, c, Q, E⟩ := X
  obtain ⟨hx, hb, hml, hown, hts, hK, hrt, hlk, hE, hnm, hrm, hz⟩ := hO
  subst hh
  subst hn
  subst hrC
  intro H locs ls hl hP hS
  show W _ _ _ _ _ _ _ _ _ _ _ _ _ _ _ (F0 m pc ls (.ref (pa E v) :: .int i :: .ref (pa E a) :: st.map (tr E)))
  have hpv := pa_at (b := E) hP.2.1 hv
  rw [pa_at hP.2.1 ha, hpv]
  have hlt : i.toNatClampNeg < fs.length := Nat.not_le.mp fun q => hi (Or.inr q)
  have h0 : ¬ i < 0 := fun q => hi (Or.inl q)
  have hqv := conc_at (E := E) hv
  rw [cE_obj hci] at hqv
  obtain ⟨r', hr', cellV, g1, g2, g3, -⟩ := hP.2.2 v _ hqv
  have hcls := (hK.1.1 ci r hc).2
  obtain ⟨kC, hkC, -⟩ := hcls.2
  have key : ∀ (cA : ClassId) (t1 : Nat), (tysE E)[t1]? = some (cA, .object r.1) → cE E (c2, fs) = .inl (cA, fs.length, .inr (.inr (.inr (.inr (fun j => rv E (fs.getD j .null)))))) → cE E (c2, fs.set i.toNatClampNeg (.ref v)) = .inl (cA, (fs.set i.toNatClampNeg (.ref v)).length, .inr (.inr (.inr (.inr (fun j => rv E ((fs.set i.toNatClampNeg (.ref v)).getD j .null)))))) → W p l e Rm s m args below meth c H locs cs sl Q (F0 m pc ls (.ref (E.2.1 + v) :: .int i :: .ref (E.2.1 + a) :: st.map (tr E))) := by
    intro cA t1 ht e5 e6
    have hq := conc_at (E := E) ha
    rw [e5] at hq
    obtain ⟨kA, comp, k1, k2, k3, -⟩ := (hK.1.2 t1 _ ht).2
    have hcomp : comp = E.2.2.1.1 ci := Option.some.inj (k3.symm.trans hcls.1)
    subst hcomp
    refine W.aast hx hb (hP.2.2 a _ hq) (fun q h => by cases h) (fun h => by cases h) k1 k2 rfl hkC ⟨h0, by show _ < (arrV _ _ _).slots.size; rw [arrV_size]; exact hlt⟩ g1 (fun q h => by rw [g3] at h; cases h) (by rw [g2]; exact hkC) (by rw [g2]; exact va_assign hcls) rfl rfl dc fun H1 e z oq => ?_
    refine kk H1 _ ls hl (hP.setq ha ?_ z oq) (hS.put z oq (Nat.le_add_right _ _))
    rw [e6]
    show H1[_]? = some (vp_cell _ _)
    rw [e, vp_cell_q, vp_cell_q, arrV_store, List.length_set]
    congr 2
    funext q
    show (updV _ _ _) q = va_rf (rv E ((fs.set i.toNatClampNeg (.ref v)).getD q .null))
    rw [List.getD_eq_getElem?_getD, List.getElem?_set]
    by_cases hq2 : q = i.toNatClampNeg
    · subst hq2
      rw [if_pos rfl, if_pos hlt]
      have e7 : va_rf (rv E (Value.ref v)) = .ref (E.2.1 + v) := by
        show Value.ref (pa E v) = _
        rw [hpv]
      simp [updV, e7]
    · rw [if_neg (fun q2 => hq2 q2.symm)]
      simp [updV, hq2]
  rcases hc2 with ⟨rfl, e3, rfl⟩ | ⟨rfl, e3, rfl⟩
  · exact key _ 2 (by rw [e3]; rfl) cE_st cE_st
  · exact key _ 3 (by rw [e3]; rfl) cE_row cE_row
set_option maxHeartbeats 1000000 in
theorem R_callI {N : MD} {d2 mc ms idx a : Nat} {rest : List Value} {Qp : Option Value → AH → Prop} (hO : OKX X true d M) (dc : decode M.2.1 pc = .ok (.invokespecial idx, 3)) (hM : C true d2 N mc ms [.ref a] h Qp) (hd : d2 < d) (hnr : N.2.2.2 = none) (lk : Cond.methodLink M.1.cls idx N.1 ∈ TS ∨ (M.1.cls, idx, N.1, RX7) ∈ nestL) (hi : N.1.name = "<init>" ∧ Cond.instanceMethod N.1 ∈ TS) (kk1 : Cond.initialized N.1.cls ∈ TS ∧ Cond.code N.1 N.2.1 N.2.2.1 N.2.2.2 ∈ TS ∧ (N.1.cls ≠ "java/lang/invoke/MethodHandle" ∧ N.1.cls ≠ "java/lang/invoke/VarHandle") ∧ N.2.2.1 ≤ 40) (hp : (parseMethodDescriptor N.1.desc).map (fun d => d.parameters.length) = some 0) (hs : (rest.map fun v => v.category).sum ≤ 8) (hr : room X (cs + mc) (sl + ms))
    (kk : ∀ (v : Option Value) (h' : AH), Qp v h' → R X M (pc + 3) L (v.toList ++ rest) h' (cs + mc) (sl + ms)) : R X M pc L (.ref a :: rest) h cs sl := by
  obtain ⟨p, l, e, Rm, s, m, args, below, meth, c, Q, E⟩ := X
  obtain ⟨hx, hb, hml, hown, hts, hK, hrt, hlk, hE, hnm, hrm, hz⟩ := hO
  obtain ⟨Ny, Nc, Nl, Nr⟩ := N
  cases hnr
  obtain ⟨w4, w5, w6, w7⟩ := kk1
  intro H locs ls hl hP hS
  have hst : ((Value.ref a :: rest).map (tr E)) = ([] : List Value).reverse ++ Value.ref (pa E a) :: rest.map (tr E) := rfl
  rw [hst]
  have hpre : PreS s H (PcE E [.ref a] h) [Value.ref (pa E a)] := ⟨PcE.blind _ _ _, fun U hU hW => ⟨rfl, by rw [hU]; exact hP, RepK.go hK hW (fun q h1 h2 => by rw [hU]; exact hS.2.1 q h1 h2), by rw [hU]; exact Nat.le_trans hE hS.1⟩⟩
  rcases lk with lk | lk
  · exact R_back (va_runI (As := []) ⟨hx, hb, hml, hown, hts⟩ (hM l E hz) (cwI 0 hts (GIc w5) rfl rfl rfl (hts _ w4) (hts _ lk) (hts _ hi.2) hi.1 ⟨w6.1, w6.2, hp⟩ ⟨by show d2 + 1 ≤ _; omega, by show 8 + (Nl + 11) + 60 * d2 ≤ _; simp only at w7; omega⟩) hpre rfl rfl hl.1 rfl (lv_room (by rw [tr_catsum]; exact hs)) dc hr) hS (fun v h' H1 locs1 hq1 hP1 hS1 => kk v h' hq1 H1 locs1 ls hl hP1 hS1)
  · exact R_back (va_runIN (As := []) ⟨hx, hb, hml, hown, hts⟩ (hM l E hz) ⟨va_cnB 0 hts (GIc w5) rfl rfl rfl (hK.2.1 _ lk) (hts _ w4) ⟨w6.1, w6.2, hp⟩ ⟨by show d2 + 1 ≤ _; omega, by show 8 + (Nl + 11) + 60 * d2 ≤ _; simp only at w7; omega⟩, hi.1, hts _ hi.2⟩ hpre rfl rfl hl.1 rfl (lv_room (by rw [tr_catsum]; exact hs)) dc hr) hS (fun v h' H1 locs1 hq1 hP1 hS1 => kk v h' hq1 H1 locs1 ls hl hP1 hS1)
theorem roomQ {mc ms : Nat} {Qp : Option Value → AH → Prop} (h : OKQ X mc ms Qp) : room X mc ms := by
  obtain ⟨p, l, e, Rm, s, m, args, below, meth, c, Q, E⟩ := X
  exact h.2
theorem Q_new {idx ci N n c2 s2 : Nat} {C : String} {T : u_T} {ty : Nat → FieldType} {fs : List Value} {h2 : AH} (hO : OKX X true d M) (dc : decode M.2.1 pc = .ok (.new idx, 3)) (hw : Cond.classLink M.1.cls idx C ∈ TS ∧ Cond.instantiable C N ∈ TS ∧ Cond.initialized C ∈ TS) (hc : cls0[ci]? = some (C, T, N)) (hci : ci < 20) (hin : ∀ w ∈ u_ws C T N, w ∈ TS) (hty : ∀ k, k < N → parseFieldDescriptor (T k).2.2.1 = some (ty k)) (hfs : ∀ j, j < N → defaultValue (ty j) = vp_V fs j) (htr : ∀ b, fs.map (tr b) = fs) (hn : h.length = n) (hl : n < 1000) (hh : h ++ [(ci, fs)] = h2) (e1 : cs + 1 = c2) (e2 : sl + N = s2) (hr : room X c2 s2) (k : R X M (pc + 3) L (.ref n :: st) h2 c2 s2) : R X M pc L st h cs sl := by
  subst hn; subst hh; subst e1; subst e2
  exact R_new hO dc hw hc hci hin hty hfs htr hl hr k
theorem Q_newi {N n c2 s2 : Nat} {z : Int32} {h2 : AH} (hO : OKX X true d M) (dc : decode M.2.1 pc = .ok (.newarray .int, 2)) (hz : ¬ z < 0) (hN : z.toNatClampNeg = N) (hb8 : N * 4 ≤ 536870912) (hn : h.length = n) (hl : n < 1000) (hh : h ++ [(20, List.replicate N (.int 0))] = h2) (e1 : cs + 1 = c2) (e2 : sl + N = s2) (hr : room X c2 s2) (k : R X M (pc + 2) L (.ref n :: st) h2 c2 s2) : R X M pc L (.int z :: st) h cs sl := by
  subst hn; subst hh; subst e1; subst e2
  exact R_newi hO dc hz hN hb8 hl hr k
theorem Q_newz {N n c2 s2 : Nat} {z : Int32} {h2 : AH} (hO : OKX X true d M) (dc : decode M.2.1 pc = .ok (.newarray .boolean, 2)) (hz : ¬ z < 0) (hN : z.toNatClampNeg = N) (hb8 : N * 1 ≤ 536870912) (hn : h.length = n) (hl : n < 1000) (hh : h ++ [(21, List.replicate N (.int 0))] = h2) (e1 : cs + 1 = c2) (e2 : sl + N = s2) (hr : room X c2 s2) (k : R X M (pc + 2) L (.ref n :: st) h2 c2 s2) : R X M pc L (.int z :: st) h cs sl := by
  subst hn; subst hh; subst e1; subst e2
  exact R_newz hO dc hz hN hb8 hl hr k
theorem Q_newq {idx N n c2 s2 k2 t0 : Nat} {C : String} {z : Int32} {h2 : AH} (hO : OKX X true d M) (dc : decode M.2.1 pc = .ok (.anewarray idx, 3)) (hc2 : (k2 = 22 ∧ C = RX5 ∧ t0 = 2) ∨ (k2 = 23 ∧ C = RX4 ∧ t0 = 3)) (hw : Cond.classLink M.1.cls idx C ∈ TS) (hz : ¬ z < 0) (hN : z.toNatClampNeg = N) (hb8 : N * 4 ≤ 536870912) (hn : h.length = n) (hl : n < 1000) (hh : h ++ [(k2, List.replicate N .null)] = h2) (e1 : cs + 1 = c2) (e2 : sl + N = s2) (hr : room X c2 s2) (k : R X M (pc + 3) L (.ref n :: st) h2 c2 s2) : R X M pc L (.int z :: st) h cs sl := by
  subst hn; subst hh; subst e1; subst e2
  exact R_newq hO dc hc2 hw hz hN hb8 hl hr k
theorem Q_init {N : MD} {d2 mc ms idx a c2 s2 : Nat} {rest : List Value} {h2 : AH} (hO : OKX X true d M) (dc : decode M.2.1 pc = .ok (.invokespecial idx, 3)) (hM : C true d2 N mc ms [.ref a] h (fun v h' => v = none ∧ h' = h2)) (hd : d2 < d) (hnr : N.2.2.2 = none) (lk : Cond.methodLink M.1.cls idx N.1 ∈ TS ∨ (M.1.cls, idx, N.1, RX7) ∈ nestL) (hi : N.1.name = "<init>" ∧ Cond.instanceMethod N.1 ∈ TS) (kk1 : Cond.initialized N.1.cls ∈ TS ∧ Cond.code N.1 N.2.1 N.2.2.1 N.2.2.2 ∈ TS ∧ (N.1.cls ≠ "java/lang/invoke/MethodHandle" ∧ N.1.cls ≠ "java/lang/invoke/VarHandle") ∧ N.2.2.1 ≤ 40) (hp : (parseMethodDescriptor N.1.desc).map (fun d => d.parameters.length) = some 0) (hs : (rest.map fun v => v.category).sum ≤ 8) (e1 : cs + mc = c2) (e2 : sl + ms = s2) (hr : room X c2 s2) (k : R X M (pc + 3) L rest h2 c2 s2) : R X M pc L (.ref a :: rest) h cs sl := by
  subst e1; subst e2
  refine R_callI hO dc hM hd hnr lk hi kk1 hp hs hr (fun v h' hv => ?_)
  rw [hv.1, hv.2]
  exact k
end MADE
/-- a Street, a Row, as they are made -/
def z8 : Nat × List Value := (20, List.replicate 8 (.int 0))
def blSt : List Value := [.null, .null, .null, .int 0, .int 0, .int 0, .int 0, .int 0]
def stC (n : Nat) : AH := [(5, [.ref (n + 1), .ref (n + 2), .ref (n + 3), .int 0, .int 0, .int 0, .int 0, .int 0]), z8, z8, z8]
def blRw : List Value := [.null, .int 0, .int 0, .int 0]
def rwC (n : Nat) : AH := [(4, [.ref (n + 1), .int 1, .int 0, .int 0]), (20, List.replicate 40 (.int 0))]
theorem ap_len {h : AH} {c : Nat × List Value} {t : AH} : (h ++ c :: t)[h.length]? = some c := by
  rw [List.getElem?_append_right (Nat.le_refl _), Nat.sub_self]
  rfl
theorem ap_set {h : AH} {c c' : Nat × List Value} {t : AH} : (h ++ c :: t).set h.length c' = h ++ c' :: t := by
  rw [List.set_append_right _ _ (Nat.le_refl _), Nat.sub_self]
  rfl
