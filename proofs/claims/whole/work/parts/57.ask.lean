/-! PURE, 32: asks and their trace -/
def AX (σ : Mem) (l : List Int32) (j k r p : Nat) : Prop := (σ 157 1 = nI l.length ∧ ∀ i, i < l.length → σ 158 i = l.getD i 0) ∧ σ 157 2 = nI j ∧ σ 157 3 = nI k ∧ σ 157 4 = nI r ∧ σ 157 5 = nI p
theorem getD_new {l : List Int32} {x : Int32} : (l ++ [x]).getD l.length 0 = x := by
  rw [List.getD_eq_getElem?_getD, List.getElem?_append_right (Nat.le_refl _), Nat.sub_self]
  rfl
theorem getD_old {l : List Int32} {x : Int32} {i : Nat} (h : i < l.length) : (l ++ [x]).getD i 0 = l.getD i 0 := by
  rw [List.getD_eq_getElem?_getD, List.getD_eq_getElem?_getD, List.getElem?_append_left h]
theorem xleave {σ : Mem} {l : List Int32} {j k r p : Nat} {x : Int32} (h : AX σ l j k r p) (hl : l.length < 16) : ∃ τ, f_X1_leave x σ = some τ ∧ AX τ (l ++ [x]) j k r p ∧ Fr (fun a => a = 157 ∨ a = 158) σ τ := by
  obtain ⟨⟨h1, h2⟩, h3, h4, h5, h6⟩ := h
  have c : ¬ 16 ≤ l.length := by omega
  refine ⟨st2 (st2 σ 158 l.length x) 157 1 (nI (l.length + 1)), ?_, ⟨⟨?_, fun i hi => ?_⟩, ?_, ?_, ?_, ?_⟩, (Fr.st (S := fun a => a = 157 ∨ a = 158) (Or.inr rfl)).tr (Fr.st (S := fun a => a = 157 ∨ a = 158) (Or.inl rfl))⟩
  · have e : st2 σ 158 l.length x 157 1 = nI l.length := by rw [st2_a (by omega)]; exact h1
    simp (disch := omega) only [f_X1_leave, h1, l_16, l_1, n_le, c, ↓reduceIte, n_ix, ing_ok, lt_eq, e, n_add]
  · rw [st2_at, List.length_append]
    rfl
  · rw [List.length_append] at hi
    have hi' : i < l.length + 1 := hi
    rw [st2_a (by omega)]
    by_cases e : i = l.length
    · subst e
      rw [st2_at, getD_new]
    · rw [st2_k e, getD_old (by omega)]
      exact h2 i (by omega)
  · rw [st2_k (by omega), st2_a (by omega)]; exact h3
  · rw [st2_k (by omega), st2_a (by omega)]; exact h4
  · rw [st2_k (by omega), st2_a (by omega)]; exact h5
  · rw [st2_k (by omega), st2_a (by omega)]; exact h6
def XA (F : Mem → Option (Int32 × Mem)) (j k r p : Nat) (v : Int32 × List Int32) : Prop := ∀ σ l, AX σ l j k r p → l.length + v.2.length ≤ 16 → ∃ τ, F σ = some (v.1, τ) ∧ AX τ (l ++ v.2) j k r p ∧ Fr (fun a => a = 157 ∨ a = 158) σ τ
theorem XA.pre {F G : Mem → Option (Int32 × Mem)} {j k r p : Nat} {v : Int32 × List Int32} {w x : Int32} (h : XA F j k r p v) (e : ∀ σ τ υ, AX σ [] j k r p ∨ True → f_X1_leave x σ = some τ → F τ = some (v.1, υ) → G σ = some (w, υ)) : XA G j k r p (w, x :: v.2) := by
  intro σ l hA hl
  have hl' : l.length + (v.2.length + 1) ≤ 16 := hl
  obtain ⟨τ, t1, t2, t3⟩ := xleave (x := x) hA (by omega)
  obtain ⟨υ, u1, u2, u3⟩ := h τ (l ++ [x]) t2 (by rw [List.length_append]; show l.length + 1 + v.2.length ≤ 16; omega)
  refine ⟨υ, e σ τ υ (Or.inr trivial) t1 u1, ?_, t3.tr u3⟩
  rw [List.append_assoc] at u2
  exact u2
def szP (k r : Nat) : Int32 × List Int32 := if k = 5 then (2 * (nI r - 100), [14, 13, 10]) else (nI r - 100, [13, 10])
def mkW (j k p : Nat) : Int32 × List Int32 := if k = 2 then (2 * (nI j + nI p), [24, 21, 20]) else if k = 3 then (nI j + nI p - 1000, [22, 21, 20]) else (nI j + nI p, [21, 20])
def szW (j k r p : Nat) : Int32 × List Int32 := (nI r + (mkW j k p).1, 11 :: 10 :: (mkW j k p).2)
def mkP (j k r : Nat) : Int32 × List Int32 := (nI j - (szP k r).1, 23 :: 20 :: (szP k r).2)
def szA (j k r p : Nat) : Int32 × List Int32 := if k = 4 ∨ k = 5 then szP k r else if k = 2 then (-(szW j k r p).1, 12 :: (szW j k r p).2) else szW j k r p
def mkA (j k r p : Nat) : Int32 × List Int32 := if k = 4 ∨ k = 5 then mkP j k r else mkW j k p
theorem xlentSize {j k r p : Nat} : XA f_X1_lentSize j k r p (nI r, [10]) := by
  intro σ l hA hl
  have hl' : l.length + 1 ≤ 16 := hl
  obtain ⟨τ, t1, t2, t3⟩ := xleave (x := 10) hA (by omega)
  exact ⟨τ, by rw [f_X1_lentSize, t1, bd_some, t2.2.2.2.1], t2, t3⟩
theorem xlentMark {j k r p : Nat} : XA f_X1_lentMark j k r p (nI j, [20]) := by
  intro σ l hA hl
  have hl' : l.length + 1 ≤ 16 := hl
  obtain ⟨τ, t1, t2, t3⟩ := xleave (x := 20) hA (by omega)
  exact ⟨τ, by rw [f_X1_lentMark, t1, bd_some, t2.2.1], t2, t3⟩
theorem xparishSize {j k r p : Nat} : XA f_X1_parishSize j k r p (nI r - 100, [13, 10]) :=
  XA.pre xlentSize fun σ τ υ _ h1 h2 => by rw [f_X1_parishSize, h1, bd_some, h2, bd2_some]
theorem xwoodMark {j k r p : Nat} : XA f_X1_woodMark j k r p (nI j + nI p, [21, 20]) := by
  intro σ l hA hl
  have hl' : l.length + 2 ≤ 16 := hl
  obtain ⟨τ, t1, t2, t3⟩ := xleave (x := 21) hA (by omega)
  obtain ⟨υ, u1, u2, u3⟩ := xlentMark τ (l ++ [21]) t2 (by rw [List.length_append]; show l.length + 1 + 1 ≤ 16; omega)
  refine ⟨υ, ?_, ?_, t3.tr u3⟩
  · rw [f_X1_woodMark, t1, bd_some, u1, bd2_some, u2.2.2.2.2]
  · rw [List.append_assoc] at u2
    exact u2
theorem XA.if_ {F G H : Mem → Option (Int32 × Mem)} {j k r p : Nat} {v : Int32 × List Int32} (h : XA F j k r p v) (e : ∀ σ, σ 157 3 = nI k → F σ = G σ) : XA G j k r p v := by
  intro σ l hA hl
  obtain ⟨τ, t1, t2⟩ := h σ l hA hl
  exact ⟨τ, by rw [← e σ hA.2.2.1]; exact t1, t2⟩
theorem bd2_id {o : Option (Int32 × Mem)} : (bd2 o fun x s => some (x, s)) = o := by
  cases o <;> rfl
theorem xsizeInParish {j k r p : Nat} (hk : k ≤ 5) : XA f_X1_sizeInParish j k r p (szP k r) := by
  unfold szP
  by_cases c : k = 5
  · rw [if_pos c]
    refine XA.if_ (H := f_X1_lentSize) (F := fun s0 => bd (f_X1_leave (14 : Int32) s0) fun s2 => bd2 (f_X1_parishSize s2) fun x3 s4 => some ((2 : Int32) * x3, s4)) ?_ fun σ e => ?_
    · exact XA.pre xparishSize fun σ τ υ _ h1 h2 => by simp only [h1, bd_some, h2, bd2_some]
    · rw [c] at e
      rw [f_X1_sizeInParish, e, if_pos l_5.symm]
  · rw [if_neg c]
    refine XA.if_ (H := f_X1_lentSize) xparishSize fun σ e => ?_
    rw [f_X1_sizeInParish, e, l_5, if_neg (by rw [n_eq (by omega) (by omega)]; exact c), bd2_id]
theorem xmarkInWood {j k r p : Nat} (hk : k ≤ 5) : XA f_X1_markInWood j k r p (mkW j k p) := by
  unfold mkW
  by_cases c : k = 2
  · rw [if_pos c]
    refine XA.if_ (H := f_X1_lentSize) (F := fun s0 => bd (f_X1_leave (24 : Int32) s0) fun s2 => bd2 (f_X1_woodMark s2) fun x3 s4 => some ((2 : Int32) * x3, s4)) ?_ fun σ e => ?_
    · exact XA.pre xwoodMark fun σ τ υ _ h1 h2 => by simp only [h1, bd_some, h2, bd2_some]
    · rw [c] at e
      rw [f_X1_markInWood, e, if_pos l_2.symm]
  · have c' : ¬ nI k = nI 2 := by rw [n_eq (by omega) (by omega)]; exact c
    rw [if_neg c]
    by_cases c3 : k = 3
    · rw [if_pos c3]
      refine XA.if_ (H := f_X1_lentSize) (F := fun s0 => bd (f_X1_leave (22 : Int32) s0) fun s6 => bd2 (f_X1_woodMark s6) fun x7 s8 => some (x7 - (1000 : Int32), s8)) ?_ fun σ e => ?_
      · exact XA.pre xwoodMark fun σ τ υ _ h1 h2 => by simp only [h1, bd_some, h2, bd2_some]
      · rw [f_X1_markInWood, e, l_2, if_neg c', c3, if_pos l_3.symm]
    · have c3' : ¬ nI k = nI 3 := by rw [n_eq (by omega) (by omega)]; exact c3
      rw [if_neg c3]
      refine XA.if_ (H := f_X1_lentSize) xwoodMark fun σ e => ?_
      rw [f_X1_markInWood, e, l_2, if_neg c', l_3, if_neg c3', bd2_id]
theorem XA.pre2 {F G H : Mem → Option (Int32 × Mem)} {j k r p : Nat} {v : Int32 × List Int32} {w x a b : Int32} (h0 : XA H j k r p (a, [b])) (h : XA F j k r p v) (e : ∀ σ τ υ φ, f_X1_leave x σ = some τ → H τ = some (a, υ) → F υ = some (v.1, φ) → G σ = some (w, φ)) : XA G j k r p (w, x :: b :: v.2) := by
  intro σ l hA hl
  have hl' : l.length + (v.2.length + 1 + 1) ≤ 16 := hl
  obtain ⟨τ, t1, t2, t3⟩ := xleave (x := x) hA (by omega)
  obtain ⟨υ, u1, u2, u3⟩ := h0 τ (l ++ [x]) t2 (by rw [List.length_append]; show l.length + 1 + 1 ≤ 16; omega)
  obtain ⟨φ, f1, f2, f3⟩ := h υ ((l ++ [x]) ++ [b]) u2 (by rw [List.length_append, List.length_append]; show l.length + 1 + 1 + v.2.length ≤ 16; omega)
  refine ⟨φ, e σ τ υ φ t1 u1 f1, ?_, (t3.tr u3).tr f3⟩
  rw [List.append_assoc, List.append_assoc] at f2
  exact f2
theorem xwoodSize {j k r p : Nat} (hk : k ≤ 5) : XA f_X1_woodSize j k r p (szW j k r p) :=
  XA.pre2 xlentSize (xmarkInWood hk) fun σ τ υ φ h1 h2 h3 => by rw [f_X1_woodSize, h1, bd_some, h2, bd2_some, lt_eq, h3, bd2_some]
theorem xparishMark {j k r p : Nat} (hk : k ≤ 5) : XA f_X1_parishMark j k r p (mkP j k r) :=
  XA.pre2 xlentMark (xsizeInParish hk) fun σ τ υ φ h1 h2 h3 => by rw [f_X1_parishMark, h1, bd_some, h2, bd2_some, lt_eq, h3, bd2_some]
theorem xsize {j k r p : Nat} (hk : k ≤ 5) : XA f_X1_size j k r p (szA j k r p) := by
  have nq : ∀ m, m ≤ 5 → k ≠ m → ¬ nI k = nI m := fun m hm h => by rw [n_eq (by omega) (by omega)]; exact h
  unfold szA
  by_cases c : k = 4 ∨ k = 5
  · rw [if_pos c]
    refine XA.if_ (H := f_X1_lentSize) (xsizeInParish hk) fun σ e => ?_
    rcases c with c | c
    · rw [f_X1_size, e, c, if_pos l_4.symm, f_X1_size_16, bd2_id]
    · rw [f_X1_size, e, l_4, if_neg (nq 4 (by omega) (by omega)), c, if_pos l_5.symm, f_X1_size_16, bd2_id]
  · rw [if_neg c]
    by_cases c2 : k = 2
    · rw [if_pos c2]
      refine XA.if_ (H := f_X1_lentSize) (F := fun s0 => bd (f_X1_leave (12 : Int32) s0) fun s2 => bd2 (f_X1_woodSize s2) fun x3 s4 => some (-x3, s4)) ?_ fun σ e => ?_
      · exact XA.pre (xwoodSize hk) fun σ τ υ _ h1 h2 => by simp only [h1, bd_some, h2, bd2_some]
      · rw [f_X1_size, e, l_4, if_neg (nq 4 (by omega) (by omega)), l_5, if_neg (nq 5 (by omega) (by omega)), c2, if_pos l_2.symm]
    · rw [if_neg c2]
      refine XA.if_ (H := f_X1_lentSize) (xwoodSize hk) fun σ e => ?_
      rw [f_X1_size, e, l_4, if_neg (nq 4 (by omega) (by omega)), l_5, if_neg (nq 5 (by omega) (by omega)), l_2, if_neg (nq 2 (by omega) (by omega)), bd2_id]
theorem xmark {j k r p : Nat} (hk : k ≤ 5) : XA f_X1_mark j k r p (mkA j k r p) := by
  have nq : ∀ m, m ≤ 5 → k ≠ m → ¬ nI k = nI m := fun m hm h => by rw [n_eq (by omega) (by omega)]; exact h
  unfold mkA
  by_cases c : k = 4 ∨ k = 5
  · rw [if_pos c]
    refine XA.if_ (H := f_X1_lentSize) (xparishMark hk) fun σ e => ?_
    rcases c with c | c
    · rw [f_X1_mark, e, c, if_pos l_4.symm, f_X1_mark_16, bd2_id]
    · rw [f_X1_mark, e, l_4, if_neg (nq 4 (by omega) (by omega)), c, if_pos l_5.symm, f_X1_mark_16, bd2_id]
  · rw [if_neg c]
    refine XA.if_ (H := f_X1_lentSize) (xmarkInWood hk) fun σ e => ?_
    rw [f_X1_mark, e, l_4, if_neg (nq 4 (by omega) (by omega)), l_5, if_neg (nq 5 (by omega) (by omega)), bd2_id]
/-- the reference -/
def AM (σ : Mem) (l : List Int32) (j k r p : Nat) : Prop := (σ 183 23 = nI l.length ∧ ∀ i, i < l.length → σ 196 i = l.getD i 0) ∧ j < 8 ∧ σ 187 (5 + j) = nI k ∧ σ 187 (13 + j) = nI r ∧ σ 187 (21 + j) = nI p
theorem mbegin {σ : Mem} {l : List Int32} {j k r p : Nat} {x : Int32} (h : AM σ l j k r p) (hl : l.length < 16) : ∃ τ, f_X8_begin x σ = some τ ∧ AM τ (l ++ [x]) j k r p ∧ (∀ a i, ¬ (a = 183 ∧ i = 23) → a ≠ 196 → τ a i = σ a i) := by
  obtain ⟨⟨h1, h2⟩, h3, h4, h5, h6⟩ := h
  have c : ¬ 16 ≤ l.length := by omega
  refine ⟨st2 (st2 σ 196 l.length x) 183 23 (nI (l.length + 1)), ?_, ⟨⟨?_, fun i hi => ?_⟩, h3, ?_, ?_, ?_⟩, fun a i h7 h8 => ?_⟩
  · have e : st2 σ 196 l.length x 183 23 = nI l.length := by rw [st2_a (by omega)]; exact h1
    simp (disch := omega) only [f_X8_begin, h1, l_16, l_1, n_le, c, ↓reduceIte, n_ix, ing_ok, lt_eq, e, n_add]
  · rw [st2_at, List.length_append]
    rfl
  · rw [List.length_append] at hi
    have hi' : i < l.length + 1 := hi
    rw [st2_a (by omega)]
    by_cases e : i = l.length
    · subst e
      rw [st2_at, getD_new]
    · rw [st2_k e, getD_old (by omega)]
      exact h2 i (by omega)
  · rw [st2_a (by omega), st2_a (by omega)]; exact h4
  · rw [st2_a (by omega), st2_a (by omega)]; exact h5
  · rw [st2_a (by omega), st2_a (by omega)]; exact h6
  · by_cases e : a = 183
    · subst e
      rw [st2_k (by omega), st2_a (by omega)]
    · rw [st2_a e, st2_a h8]
def MA (F : Mem → Option (Int32 × Mem)) (j k r p : Nat) (v : Int32 × List Int32) : Prop := ∀ σ l, AM σ l j k r p → l.length + v.2.length ≤ 16 → ∃ τ, F σ = some (v.1, τ) ∧ AM τ (l ++ v.2) j k r p ∧ (∀ a i, ¬ (a = 183 ∧ i = 23) → a ≠ 196 → τ a i = σ a i)
theorem MA.pre {F G : Mem → Option (Int32 × Mem)} {j k r p : Nat} {v : Int32 × List Int32} {w x : Int32} (h : MA F j k r p v) (e : ∀ σ τ υ, f_X8_begin x σ = some τ → F τ = some (v.1, υ) → υ 187 (21 + j) = nI p → G σ = some (w, υ)) : MA G j k r p (w, x :: v.2) := by
  intro σ l hA hl
  have hl' : l.length + (v.2.length + 1) ≤ 16 := hl
  obtain ⟨τ, t1, t2, t3⟩ := mbegin (x := x) hA (by omega)
  obtain ⟨υ, u1, u2, u3⟩ := h τ (l ++ [x]) t2 (by rw [List.length_append]; show l.length + 1 + v.2.length ≤ 16; omega)
  refine ⟨υ, e σ τ υ t1 u1 u2.2.2.2.2, ?_, fun a i h1 h2 => (u3 a i h1 h2).trans (t3 a i h1 h2)⟩
  rw [List.append_assoc] at u2
  exact u2
theorem MA.pre2 {F G H : Mem → Option (Int32 × Mem)} {j k r p : Nat} {v : Int32 × List Int32} {w x a b : Int32} (h0 : MA H j k r p (a, [b])) (h : MA F j k r p v) (e : ∀ σ τ υ φ, f_X8_begin x σ = some τ → H τ = some (a, υ) → F υ = some (v.1, φ) → G σ = some (w, φ)) : MA G j k r p (w, x :: b :: v.2) := by
  intro σ l hA hl
  have hl' : l.length + (v.2.length + 1 + 1) ≤ 16 := hl
  obtain ⟨τ, t1, t2, t3⟩ := mbegin (x := x) hA (by omega)
  obtain ⟨υ, u1, u2, u3⟩ := h0 τ (l ++ [x]) t2 (by rw [List.length_append]; show l.length + 1 + 1 ≤ 16; omega)
  obtain ⟨φ, f1, f2, f3⟩ := h υ ((l ++ [x]) ++ [b]) u2 (by rw [List.length_append, List.length_append]; show l.length + 1 + 1 + v.2.length ≤ 16; omega)
  refine ⟨φ, e σ τ υ φ t1 u1 f1, ?_, fun a i h1 h2 => ((f3 a i h1 h2).trans (u3 a i h1 h2)).trans (t3 a i h1 h2)⟩
  rw [List.append_assoc, List.append_assoc] at f2
  exact f2
theorem MA.if_ {F G : Mem → Option (Int32 × Mem)} {j k r p : Nat} {v : Int32 × List Int32} (h : MA F j k r p v) (e : ∀ σ, j < 8 → σ 187 (5 + j) = nI k → F σ = G σ) : MA G j k r p v := by
  intro σ l hA hl
  obtain ⟨τ, t1, t2⟩ := h σ l hA hl
  exact ⟨τ, by rw [← e σ hA.2.1 hA.2.2.1]; exact t1, t2⟩
theorem mlentSize {j k r p : Nat} : MA (f_X8_lent (nI j) 10) j k r p (nI r, [10]) := by
  intro σ l hA hl
  have hl' : l.length + 1 ≤ 16 := hl
  obtain ⟨τ, t1, t2, t3⟩ := mbegin (x := 10) hA (by omega)
  have hj := t2.2.1
  have e := t2.2.2.2.1
  refine ⟨τ, ?_, t2, t3⟩
  rw [f_X8_lent, t1, bd_some, if_pos rfl, l_13, n_add, ing_ok (by omega) (by omega), n_ix (by omega), e]
theorem mlentMark {j k r p : Nat} : MA (f_X8_lent (nI j) 20) j k r p (nI j, [20]) := by
  intro σ l hA hl
  have hl' : l.length + 1 ≤ 16 := hl
  obtain ⟨τ, t1, t2, t3⟩ := mbegin (x := 20) hA (by omega)
  exact ⟨τ, by rw [f_X8_lent, t1, bd_some, if_neg (by decide)], t2, t3⟩
theorem mparishSize {j k r p : Nat} : MA (f_X8_parishSize (nI j)) j k r p (nI r - 100, [13, 10]) :=
  MA.pre mlentSize fun σ τ υ h1 h2 _ => by rw [f_X8_parishSize, h1, bd_some, h2, bd2_some]
theorem mwoodMark {j k r p : Nat} (hj : j < 8) : MA (f_X8_woodMark (nI j)) j k r p (nI j + nI p, [21, 20]) :=
  MA.pre mlentMark fun σ τ υ h1 h2 h3 => by rw [f_X8_woodMark, h1, bd_some, h2, bd2_some, l_21, n_add, ing_ok (by omega) (by omega), n_ix (by omega), h3]
theorem msizeOfParish {j k r p : Nat} (hk : k ≤ 5) : MA (f_X8_sizeOfParish (nI j)) j k r p (szP k r) := by
  unfold szP
  by_cases c : k = 5
  · rw [if_pos c]
    refine MA.if_ (F := fun s0 => bd (f_X8_begin (14 : Int32) s0) fun s2 => bd2 (f_X8_parishSize (nI j) s2) fun x3 s4 => some ((2 : Int32) * x3, s4)) ?_ fun σ hj e => ?_
    · exact MA.pre mparishSize fun σ τ υ h1 h2 _ => by simp only [h1, bd_some, h2, bd2_some]
    · rw [c] at e
      rw [f_X8_sizeOfParish, l_5, n_add, ing_ok (by omega) (by omega), n_ix (by omega), e, if_pos rfl]
  · rw [if_neg c]
    refine MA.if_ mparishSize fun σ hj e => ?_
    rw [f_X8_sizeOfParish, l_5, n_add, ing_ok (by omega) (by omega), n_ix (by omega), e, if_neg (by rw [n_eq (by omega) (by omega)]; exact c), bd2_id]
theorem mmarkOf {j k r p : Nat} (hj : j < 8) (h1 : 1 ≤ k) (hk : k ≤ 5) : MA (f_X8_markOf (nI j)) j k r p (mkA j k r p) := by
  have nq : ∀ m, m ≤ 5 → k ≠ m → ¬ nI k = nI m := fun m hm h => by rw [n_eq (by omega) (by omega)]; exact h
  unfold mkA
  by_cases c : k = 4 ∨ k = 5
  · rw [if_pos c]
    refine MA.if_ (F := fun s0 => bd (f_X8_begin (23 : Int32) s0) fun s13 => bd2 (f_X8_lent (nI j) (20 : Int32) s13) fun x14 s15 => lt (x14) fun x16 => bd2 (f_X8_sizeOfParish (nI j) s15) fun x17 s18 => some (x16 - x17, s18)) ?_ fun σ hj e => ?_
    · exact MA.pre2 mlentMark (msizeOfParish hk) fun σ τ υ φ h1 h2 h3 => by simp only [h1, bd_some, h2, bd2_some, lt_eq, h3]
    · rw [f_X8_markOf, l_5, n_add, ing_ok (by omega) (by omega), n_ix (by omega), e, lt_eq, l_2, if_neg (nq 2 (by omega) (by omega)), l_3, if_neg (nq 3 (by omega) (by omega)), l_1, if_neg (nq 1 (by omega) (by omega))]
  · rw [if_neg c]
    unfold mkW
    by_cases c2 : k = 2
    · rw [if_pos c2]
      refine MA.if_ (F := fun s0 => bd (f_X8_begin (24 : Int32) s0) fun s3 => bd2 (f_X8_woodMark (nI j) s3) fun x4 s5 => some ((2 : Int32) * x4, s5)) ?_ fun σ hj e => ?_
      · exact MA.pre (mwoodMark hj) fun σ τ υ h1 h2 _ => by simp only [h1, bd_some, h2, bd2_some]
      · rw [c2] at e
        rw [f_X8_markOf, l_5, n_add, ing_ok (by omega) (by omega), n_ix (by omega), e, lt_eq, if_pos l_2.symm]
    · rw [if_neg c2]
      by_cases c3 : k = 3
      · rw [if_pos c3]
        refine MA.if_ (F := fun s0 => bd (f_X8_begin (22 : Int32) s0) fun s7 => bd2 (f_X8_woodMark (nI j) s7) fun x8 s9 => some (x8 - (1000 : Int32), s9)) ?_ fun σ hj e => ?_
        · exact MA.pre (mwoodMark hj) fun σ τ υ h1 h2 _ => by simp only [h1, bd_some, h2, bd2_some]
        · rw [f_X8_markOf, l_5, n_add, ing_ok (by omega) (by omega), n_ix (by omega), e, lt_eq, l_2, if_neg (nq 2 (by omega) (by omega)), c3, if_pos l_3.symm]
      · rw [if_neg c3]
        have c1 : k = 1 := by omega
        refine MA.if_ (mwoodMark hj) fun σ hj e => ?_
        rw [f_X8_markOf, l_5, n_add, ing_ok (by omega) (by omega), n_ix (by omega), e, lt_eq, l_2, if_neg (nq 2 (by omega) (by omega)), l_3, if_neg (nq 3 (by omega) (by omega)), c1, if_pos l_1.symm, bd2_id]
theorem mwoodSize {j k r p : Nat} (hj : j < 8) (h1 : 1 ≤ k) (hk : k ≤ 3) : MA (f_X8_woodSize (nI j)) j k r p (szW j k r p) := by
  have e : mkA j k r p = mkW j k p := by
    unfold mkA
    rw [if_neg (by omega)]
  have h := mmarkOf (r := r) (p := p) hj h1 (show k ≤ 5 by omega)
  rw [e] at h
  exact MA.pre2 mlentSize h fun σ τ υ φ h1 h2 h3 => by rw [f_X8_woodSize, h1, bd_some, h2, bd2_some, lt_eq, h3, bd2_some]
theorem msizeOf {j k r p : Nat} (hj : j < 8) (h1 : 1 ≤ k) (hk : k ≤ 5) : MA (f_X8_sizeOf (nI j)) j k r p (szA j k r p) := by
  have nq : ∀ m, m ≤ 5 → k ≠ m → ¬ nI k = nI m := fun m hm h => by rw [n_eq (by omega) (by omega)]; exact h
  unfold szA
  by_cases c : k = 4 ∨ k = 5
  · rw [if_pos c]
    refine MA.if_ (msizeOfParish hk) fun σ hj e => ?_
    have c4 : ¬ nI k < nI 4 := by rw [n_lt (by omega) (by omega)]; omega
    rw [f_X8_sizeOf, l_5, n_add, ing_ok (by omega) (by omega), n_ix (by omega), e, lt_eq, l_2, if_neg (nq 2 (by omega) (by omega)), l_4, if_neg c4, bd2_id]
  · rw [if_neg c]
    by_cases c2 : k = 2
    · rw [if_pos c2]
      refine MA.if_ (F := fun s0 => bd (f_X8_begin (12 : Int32) s0) fun s3 => bd2 (f_X8_woodSize (nI j) s3) fun x4 s5 => some (-x4, s5)) ?_ fun σ hj e => ?_
      · exact MA.pre (mwoodSize hj h1 (by omega)) fun σ τ υ h1 h2 _ => by simp only [h1, bd_some, h2, bd2_some]
      · rw [c2] at e
        rw [f_X8_sizeOf, l_5, n_add, ing_ok (by omega) (by omega), n_ix (by omega), e, lt_eq, if_pos l_2.symm]
    · rw [if_neg c2]
      refine MA.if_ (mwoodSize hj h1 (by omega)) fun σ hj e => ?_
      have c4 : nI k < nI 4 := by rw [n_lt (by omega) (by omega)]; omega
      rw [f_X8_sizeOf, l_5, n_add, ing_ok (by omega) (by omega), n_ix (by omega), e, lt_eq, l_2, if_neg (nq 2 (by omega) (by omega)), l_4, if_pos c4, bd2_id]
/-- both sides -/
def Sys.w_trace (s : Sys) (l : List Int32) : Sys := (s.g, s.m, s.act, s.im, s.tl, s.tp, s.flt, s.sta, s.gone, s.lane, s.size, s.item, l.length, fun k => l.getD k 0)
theorem SysOk.trace {s : Sys} {l : List Int32} (h : SysOk s) (hl : l.length ≤ 16) : SysOk (s.w_trace l) := ⟨h.og, h.om, h.oa, h.om1, h.oi, h.ot, h.otp, h.or, hl⟩
theorem szP_len (k r : Nat) : (szP k r).2.length ≤ 3 := by
  unfold szP
  split
  · exact Nat.le_refl 3
  · exact Nat.le_succ 2
theorem mkW_len (j k p : Nat) : (mkW j k p).2.length ≤ 3 := by
  unfold mkW
  repeat' split
  · exact Nat.le_refl 3
  · exact Nat.le_refl 3
  · exact Nat.le_succ 2
theorem szA_len (j k r p : Nat) : (szA j k r p).2.length ≤ 16 := by
  have h1 := szP_len k r
  have h2 := mkW_len j k p
  unfold szA
  repeat' split
  · omega
  · show (mkW j k p).2.length + 1 + 1 + 1 ≤ 16
    omega
  · show (mkW j k p).2.length + 1 + 1 ≤ 16
    omega
theorem mkA_len (j k r p : Nat) : (mkA j k r p).2.length ≤ 16 := by
  have h1 := szP_len k r
  have h2 := mkW_len j k p
  unfold mkA
  repeat' split
  · show (szP k r).2.length + 1 + 1 ≤ 16
    omega
  · omega
theorem CI.asked {σ τ : Mem} {s : Sys} {l : List Int32} {j k r p : Nat} (h : CI σ s) (hA : AX τ l j k r p) (hF : Fr (fun a => a = 157 ∨ a = 158) σ τ) : CI τ (s.w_trace l) :=
  ⟨h.c1.fr fun a h1 h2 => hF a (by omega), h.c2.fr fun a h1 h2 => hF a (by omega), h.c3.fr fun a h1 h2 => hF a (by omega), h.c4.fr (hF 2 (by omega)) (hF 7 (by omega)), h.c5.fr (hF 0 (by omega)) (hF 3 (by omega)), h.c6.fr fun a h1 h2 => hF a (by omega), hA.1⟩
theorem MI.asked {σ τ : Mem} {s : Sys} {l : List Int32} {j k r p : Nat} (h : MI σ s) (hA : AM τ l j k r p) (e : ∀ a i, ¬ (a = 183 ∧ i = 23) → a ≠ 196 → τ a i = σ a i) : MI τ (s.w_trace l) := by
  have eo : ∀ a, a ≠ 183 → a ≠ 196 → τ a = σ a := fun a h1 h2 => funext fun i => e a i (by omega) h2
  refine ⟨h.m1.fr (eo 187 (by omega) (by omega)), ?_, ⟨?_, fun i hi => ?_⟩, h.m3.fr (eo 194 (by omega) (by omega)) (eo 195 (by omega) (by omega)), ⟨?_, ?_⟩, ⟨?_, ?_⟩, h.m6.fr (eo 184 (by omega) (by omega)) (eo 185 (by omega) (by omega)) (eo 186 (by omega) (by omega)), hA.1⟩
  · rw [e 183 4 (by omega) (by omega)]; exact h.m1b
  · rw [e 183 17 (by omega) (by omega)]; exact h.m2.1
  · rw [shm_eq (eo 191 (by omega) (by omega))]; exact h.m2.2 i hi
  · rw [e 183 8 (by omega) (by omega)]; exact h.m4.1
  · rw [eo 189 (by omega) (by omega)]; exact h.m4.2
  · rw [e 183 9 (by omega) (by omega)]; exact h.m5.1
  · rw [e 183 3 (by omega) (by omega)]; exact h.m5.2
theorem xturn {σ : Mem} {s : Sys} {j : Nat} (hc : CI σ s) (h8 : s.g 0 ≤ 8) (hj : j < s.g 0) : ∃ τ, f_X1_turnTo 8 (nI j) σ = some τ ∧ AX τ [] j (s.g (5 + j)) (s.g (13 + j)) (s.g (21 + j)) ∧ Fr (fun a => a = 157 ∨ a = 158) σ τ := by
  obtain ⟨q1, q2, q3⟩ := hc.c1.2 j hj
  refine ⟨st2 (st2 (st2 (st2 (st2 σ 157 1 (nI 0)) 157 2 (nI j)) 157 3 (nI (s.g (5 + j)))) 157 4 (nI (s.g (13 + j)))) 157 5 (nI (s.g (21 + j))), ?_, ⟨⟨?_, fun i hi => absurd hi (Nat.not_lt_zero i)⟩, ?_, ?_, ?_, ?_⟩, fun a ha => ?_⟩
  · have o : ∀ (σ : Mem) a k x i, a ≠ 157 → st2 σ 157 k x a i = σ a i := fun σ a k x i h => st2_a h
    simp (disch := omega) only [f_X1_turnTo, lt_eq, l_0, n_ix, ing_ok, o, q1, q2, q3]
  · rw [st2_k (by omega), st2_k (by omega), st2_k (by omega), st2_k (by omega), st2_at]
    rfl
  · rw [st2_k (by omega), st2_k (by omega), st2_k (by omega), st2_at]
  · rw [st2_k (by omega), st2_k (by omega), st2_at]
  · rw [st2_k (by omega), st2_at]
  · rw [st2_at]
  · rw [st2_row (by omega), st2_row (by omega), st2_row (by omega), st2_row (by omega), st2_row (by omega)]
theorem both_ask (p q : Int32) : BOTH (f_X7_ask p q) (f_X8_ask p q) := by
  intro s hs
  have h8 := hs.og.1.1
  have hb := hs.og.1
  by_cases c0 : hous p (s.g 0)
  · obtain ⟨j, rfl, hj⟩ := c0
    obtain ⟨k1, k5⟩ := (hb.2.2.2.2 j hj).1
    have d := Classical.propDecidable (rng q 0 1)
    have hx : ∀ σ, f_X7_within q (nI 0) (nI 1) σ = some (if rng q 0 1 then nI 1 else nI 0, σ) := fun σ => xin_rng (by decide) (by decide)
    have hy : ∀ σ, f_X8_in q.toInt64 0 1 σ = some (if rng q 0 1 then nI 1 else nI 0, σ) := fun σ => min_rng (a := 0) (b := 1) rfl rfl (by decide)
    by_cases c : rng q 0 1
    · have c' := c
      obtain ⟨v, rfl, -, hv⟩ := c'
      have mA : ∀ σ, MI σ s → AM (st2 σ 183 23 (nI 0)) [] j (s.g (5 + j)) (s.g (13 + j)) (s.g (21 + j)) := fun σ hm => by
        obtain ⟨q1, q2, q3⟩ := hm.m1.2 j hj
        exact ⟨⟨st2_at, fun i hi => absurd hi (Nat.not_lt_zero i)⟩, by omega, by rw [st2_a (by omega)]; exact q1, by rw [st2_a (by omega)]; exact q2, by rw [st2_a (by omega)]; exact q3⟩
      have mF : ∀ σ τ : Mem, (∀ a i, ¬ (a = 183 ∧ i = 23) → a ≠ 196 → τ a i = st2 σ 183 23 (nI 0) a i) → ∀ a i, ¬ (a = 183 ∧ i = 23) → a ≠ 196 → τ a i = σ a i := fun σ τ h a i h1 h2 => by
        rw [h a i h1 h2]
        by_cases e : a = 183
        · subst e
          rw [st2_k (by omega)]
        · rw [st2_a e]
      have mG : ∀ σ τ : Mem, (∀ a i, ¬ (a = 183 ∧ i = 23) → a ≠ 196 → τ a i = σ a i) → Fr (fun a => 183 ≤ a) σ τ := fun σ τ h a ha => funext fun i => h a i (by omega) (by omega)
      rcases (by omega : v = 0 ∨ v = 1) with rfl | rfl
      · refine ⟨(szA j (s.g (5 + j)) (s.g (13 + j)) (s.g (21 + j))).1, s.w_trace (szA j (s.g (5 + j)) (s.g (13 + j)) (s.g (21 + j))).2, hs.trace (szA_len _ _ _ _), fun σ hc => ?_, fun σ hm => ?_⟩
        · obtain ⟨τ, t1, t2, t3⟩ := xturn hc h8 hj
          obtain ⟨υ, u1, u2, u3⟩ := xsize k5 τ [] t2 (by have := szA_len j (s.g (5 + j)) (s.g (13 + j)) (s.g (21 + j)); show 0 + _ ≤ 16; omega)
          refine ⟨υ, ?_, hc.asked u2 (t3.tr u3), (t3.tr u3).le fun a ha => by omega⟩
          rw [f_X7_ask, xhouse_y hs hj hc, bd2_some, if_neg (by decide), l_0, l_1, hx, if_pos c, bd2_some, if_neg (by decide), t1, bd_some, if_pos rfl, u1, bd2_some]
        · obtain ⟨υ, u1, u2, u3⟩ := msizeOf (by omega) k1 k5 (st2 σ 183 23 (nI 0)) [] (mA σ hm) (by have := szA_len j (s.g (5 + j)) (s.g (13 + j)) (s.g (21 + j)); show 0 + _ ≤ 16; omega)
          refine ⟨υ, ?_, hm.asked u2 (mF σ υ u3), mG σ υ (mF σ υ u3)⟩
          rw [f_X8_ask, mhouse_y hs hj hm, bd2_some, if_neg (by decide), hy, if_pos c, bd2_some, if_neg (by decide), lt_eq, if_pos l_0.symm, l_0, u1, bd2_some]
      · refine ⟨(mkA j (s.g (5 + j)) (s.g (13 + j)) (s.g (21 + j))).1, s.w_trace (mkA j (s.g (5 + j)) (s.g (13 + j)) (s.g (21 + j))).2, hs.trace (mkA_len _ _ _ _), fun σ hc => ?_, fun σ hm => ?_⟩
        · obtain ⟨τ, t1, t2, t3⟩ := xturn hc h8 hj
          obtain ⟨υ, u1, u2, u3⟩ := xmark k5 τ [] t2 (by have := mkA_len j (s.g (5 + j)) (s.g (13 + j)) (s.g (21 + j)); show 0 + _ ≤ 16; omega)
          refine ⟨υ, ?_, hc.asked u2 (t3.tr u3), (t3.tr u3).le fun a ha => by omega⟩
          rw [f_X7_ask, xhouse_y hs hj hc, bd2_some, if_neg (by decide), l_0, l_1, hx, if_pos c, bd2_some, if_neg (by decide), t1, bd_some, if_neg (by decide), u1, bd2_some]
        · obtain ⟨υ, u1, u2, u3⟩ := mmarkOf (by omega) k1 k5 (st2 σ 183 23 (nI 0)) [] (mA σ hm) (by have := mkA_len j (s.g (5 + j)) (s.g (13 + j)) (s.g (21 + j)); show 0 + _ ≤ 16; omega)
          refine ⟨υ, ?_, hm.asked u2 (mF σ υ u3), mG σ υ (mF σ υ u3)⟩
          rw [f_X8_ask, mhouse_y hs hj hm, bd2_some, if_neg (by decide), hy, if_pos c, bd2_some, if_neg (by decide), lt_eq, if_neg (by decide), l_0, u1, bd2_some]
    · refine ⟨-1000001, s, hs, XS.rf fun σ hc => ?_, MS.rf fun σ hm => ?_⟩
      · simp (disch := omega) only [f_X7_ask, xhouse_y hs hj hc, hx, c, bd2_some, l_0, l_1, n_eq, Nat.reduceEqDiff, ↓reduceIte]
      · simp (disch := omega) only [f_X8_ask, mhouse_y hs hj hm, hy, c, bd2_some, l_0, n_eq, Nat.reduceEqDiff, ↓reduceIte]
  · refine ⟨-1000001, s, hs, XS.rf fun σ hc => ?_, MS.rf fun σ hm => ?_⟩
    · simp only [f_X7_ask, xhouse_n hs c0 hc, bd2_some, l_0, ↓reduceIte]
    · simp only [f_X8_ask, mhouse_n hs c0 hm, bd2_some, l_0, ↓reduceIte]
