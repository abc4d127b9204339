/-! THE VIEW: behind the constructors nothing is made any more and references stay: the heap is a fixed shape with numbers in it. SIM: a walk and a function of these numbers, in step. -/
abbrev Mem : Type := Nat → Nat → Int32
def nn (n : Nat) : List (Option Nat) := List.replicate n none
def shSt (b : Nat) : List (Nat × List (Option Nat)) := [(5, [some (b + 1), some (b + 2), some (b + 3), none, none, none, none, none]), (20, nn 8), (20, nn 8), (20, nn 8)]
def shRw (b : Nat) : List (Nat × List (Option Nat)) := [(4, [some (b + 1), none, none, none]), (20, nn 40)]
def sh : List (Nat × List (Option Nat)) :=
  [(7, [some 1, some 2, some 8, some 12, some 13, some 111, some 121, some 157, none, none]), (23, (List.range 8).map fun i => some (159 + 2 * i)), (6, [some 3, none, none, none, some 7])] ++ shSt 3 ++ [(20, nn 100)] ++ shSt 8 ++ [(22, (List.range 2).map fun i => some (175 + 4 * i)), (0, [some 14, none, none]), (22, (List.range 24).map fun i => some (15 + 4 * i))]
  ++ ((List.range 24).flatMap fun i => shSt (15 + 4 * i)) ++ [(2, [some 112, some 116, some 120, none])] ++ shSt 112 ++ shSt 116 ++ [(20, nn 12), (3, [some 122, some 123, some 124, none, none]), (22, (List.range 8).map fun i => some (125 + 4 * i)), (20, nn 7), (20, nn 7)] ++ ((List.range 8).flatMap fun i => shSt (125 + 4 * i)) ++ [(1, [some 158, none, none, none, none, none]), (20, nn 16)] ++ ((List.range 8).flatMap fun i => shRw (159 + 2 * i)) ++ shSt 175 ++ shSt 179
  ++ [(8, [some 184, some 185, some 186, none, none, some 187, some 188, some 189, none, none, none, none, none, none, none, some 190, some 191, none, some 192, some 193, some 194, some 195, some 196, none]), (20, nn 8), (20, nn 8), (20, nn 320), (20, nn 29), (20, nn 40), (20, nn 100), (20, nn 29), (20, nn 696), (20, nn 29), (20, nn 625), (21, nn 2), (20, nn 58), (20, nn 16)]
theorem sh_len : sh.length = 197 := by decide +kernel
def vw (σ : Mem) (p : Nat) (rs : List (Option Nat)) : List Value := rs.mapIdx fun i r => match r with
  | some q => .ref q
  | none => .int (σ p i)
def view (σ : Mem) : AH := sh.mapIdx fun p c => (c.1, vw σ p c.2)
theorem view_at {σ : Mem} {a t : Nat} {rs : List (Option Nat)} (h : sh[a]? = some (t, rs)) : (view σ)[a]? = some (t, vw σ a rs) := by
  unfold view
  rw [List.getElem?_mapIdx, h]
  rfl
theorem vw_len {σ : Mem} {a : Nat} {rs : List (Option Nat)} : (vw σ a rs).length = rs.length := List.length_mapIdx
theorem vw_int {σ : Mem} {a k : Nat} {rs : List (Option Nat)} (h : rs[k]? = some none) : (vw σ a rs)[k]? = some (.int (σ a k)) := by
  unfold vw
  rw [List.getElem?_mapIdx, h]
  rfl
theorem vw_ref {σ : Mem} {a k q : Nat} {rs : List (Option Nat)} (h : rs[k]? = some (some q)) : (vw σ a rs)[k]? = some (.ref q) := by
  unfold vw
  rw [List.getElem?_mapIdx, h]
  rfl
theorem nn_at {n k : Nat} (h : k < n) : (nn n)[k]? = some none := by
  unfold nn
  rw [List.getElem?_replicate, if_pos h]
theorem nn_len {n : Nat} : (nn n).length = n := List.length_replicate
def st2 (σ : Mem) (a k : Nat) (x : Int32) : Mem := fun b => if b = a then upd (σ a) k x else σ b
theorem vw_set {σ : Mem} {a k : Nat} {x : Int32} {rs : List (Option Nat)} (h : rs[k]? = some none) : (vw σ a rs).set k (.int x) = vw (st2 σ a k x) a rs := by
  have hk : k < rs.length := (List.getElem?_eq_some_iff.mp h).1
  unfold vw
  apply List.ext_getElem?
  intro i
  rw [List.getElem?_set, List.getElem?_mapIdx, List.getElem?_mapIdx, List.length_mapIdx]
  by_cases e : k = i
  · subst e
    rw [if_pos rfl, if_pos hk, h]
    simp [st2, upd]
  · rw [if_neg e]
    have e2 : st2 σ a k x a i = σ a i := by
      unfold st2 upd
      rw [if_pos rfl, if_neg (fun q => e q.symm)]
    rw [e2]
theorem vw_cong {σ τ : Mem} {a b : Nat} {rs : List (Option Nat)} (h : ∀ i, i < rs.length → σ a i = τ b i) : vw σ a rs = vw τ b rs := by
  unfold vw
  apply List.ext_getElem?
  intro i
  rw [List.getElem?_mapIdx, List.getElem?_mapIdx]
  by_cases hi : i < rs.length
  · rw [h i hi]
  · rw [List.getElem?_eq_none (by omega)]
    rfl
theorem view_cong {σ τ : Mem} (h : ∀ (a t : Nat) (rs : List (Option Nat)), sh[a]? = some (t, rs) → ∀ i, i < rs.length → σ a i = τ a i) : view σ = view τ := by
  unfold view
  apply List.ext_getElem?
  intro a
  rw [List.getElem?_mapIdx, List.getElem?_mapIdx]
  cases e : sh[a]? with
  | none => rfl
  | some c => exact congrArg some (congrArg (Prod.mk c.1) (vw_cong (h a c.1 c.2 e)))
theorem view_set {σ τ : Mem} {a t : Nat} {rs : List (Option Nat)} (h : sh[a]? = some (t, rs)) (ho : ∀ b, b ≠ a → τ b = σ b) : (view σ).set a (t, vw τ a rs) = view τ := by
  unfold view
  apply List.ext_getElem?
  intro i
  rw [List.getElem?_set, List.getElem?_mapIdx, List.getElem?_mapIdx, List.length_mapIdx]
  by_cases e : a = i
  · subst e
    rw [if_pos rfl, if_pos (List.getElem?_eq_some_iff.mp h).1, h]
    rfl
  · rw [if_neg e]
    cases e3 : sh[i]? with
    | none => rfl
    | some c => exact congrArg some (congrArg (Prod.mk c.1) (vw_cong (fun j _ => by rw [ho i (fun q => e q.symm)])))
theorem st2_other {σ : Mem} {a k : Nat} {x : Int32} : ∀ b, b ≠ a → st2 σ a k x b = σ b := fun _ h => if_neg h
/-- n cells of a from sp on come to b from dp on -/
def cp2 (σ : Mem) (a b sp dp n : Nat) : Mem := fun c => if c = b then va_cpy (σ a) (σ b) sp dp n else σ c
theorem vw_cpy {σ : Mem} {a b sp dp n ra rb : Nat} (h4 : sp + n ≤ ra) (h5 : dp + n ≤ rb) : (vw σ b (nn rb)).take dp ++ ((vw σ a (nn ra)).drop sp).take n ++ (vw σ b (nn rb)).drop (dp + n) = vw (cp2 σ a b sp dp n) b (nn rb) := by
  have la : (vw σ a (nn ra)).length = ra := by rw [vw_len, nn_len]
  have lb : (vw σ b (nn rb)).length = rb := by rw [vw_len, nn_len]
  have ga : ∀ i, i < ra → (vw σ a (nn ra))[i]? = some (.int (σ a i)) := fun i hi => vw_int (nn_at hi)
  have gb : ∀ i, i < rb → (vw σ b (nn rb))[i]? = some (.int (σ b i)) := fun i hi => vw_int (nn_at hi)
  apply List.ext_getElem?
  intro j
  by_cases hj : j < rb
  · rw [vw_int (nn_at hj)]
    have e : cp2 σ a b sp dp n b j = if dp ≤ j ∧ j < dp + n then σ a (sp + (j - dp)) else σ b j := by
      unfold cp2 va_cpy
      rw [if_pos rfl]
    rw [e]
    by_cases c1 : j < dp
    · rw [if_neg (by omega), List.append_assoc, List.getElem?_append_left (by rw [List.length_take, lb]; omega), List.getElem?_take, if_pos c1, gb j hj]
    · by_cases c2 : j < dp + n
      · rw [if_pos ⟨by omega, c2⟩, List.append_assoc, List.getElem?_append_right (by rw [List.length_take, lb]; omega), List.getElem?_append_left (by rw [List.length_take, List.length_take, List.length_drop, la, lb]; omega), List.length_take, lb, List.getElem?_take, if_pos (by omega), List.getElem?_drop, ga _ (by omega)]
        congr 3
        omega
      · rw [if_neg (by omega), List.getElem?_append_right (by rw [List.length_append, List.length_take, List.length_take, List.length_drop, la, lb]; omega), List.length_append, List.length_take, List.length_take, List.length_drop, la, lb, List.getElem?_drop, gb _ (by omega)]
        congr 3
        omega
  · rw [List.getElem?_eq_none (by rw [List.length_append, List.length_append, List.length_take, List.length_take, List.length_drop, List.length_drop, la, lb]; omega), List.getElem?_eq_none (by rw [vw_len, nn_len]; omega)]
/-- the words of the functions that the walks compute -/
def lt {α β : Type} (e : α) (k : α → β) : β := k e
def ing {α : Type} (i : Int32) (n : Nat) (k : Option α) : Option α := if i < 0 ∨ n ≤ i.toNatClampNeg then none else k
def gd {α : Type} (c : Prop) [Decidable c] (k : Option α) : Option α := if c then k else none
def bd {α β : Type} (o : Option α) (k : α → Option β) : Option β := match o with
  | some a => k a
  | none => none
def bd2 {α β γ : Type} (o : Option (α × β)) (k : α → β → Option γ) : Option γ := match o with
  | some q => k q.1 q.2
  | none => none
abbrev wI (q : Int32 × Mem) : Option Value × Mem := (some (.int q.1), q.2)
abbrev wL (q : Int64 × Mem) : Option Value × Mem := (some (.long q.1), q.2)
abbrev wA (q : Nat × Mem) : Option Value × Mem := (some (.ref q.1), q.2)
abbrev wV (q : Mem) : Option Value × Mem := (none, q)
def isSt (b : Nat) : Prop := sh[b]? = some (5, [some (b + 1), some (b + 2), some (b + 3), none, none, none, none, none]) ∧ sh[b + 1]? = some (20, nn 8) ∧ sh[b + 2]? = some (20, nn 8) ∧ sh[b + 3]? = some (20, nn 8)
def isRw (b : Nat) : Prop := sh[b]? = some (4, [some (b + 1), none, none, none]) ∧ sh[b + 1]? = some (20, nn 40)
def SIM {α : Type} (X : CX) (M : MD) (w : α → Option Value × Mem) (Z : Option Value × Mem → Prop) (pc : Nat) (L : AL) (st : List Value) (σ : Mem) (F : Option α) : Prop := ∀ r, F = some r → Z (w r) → R X M pc L st (view σ) (cX X) (sX X)
def CS (d : Nat) (M : MD) (args : List Value) (σ : Mem) (o : Option (Option Value × Mem)) : Prop := ∀ r, o = some r → C false d M 0 0 args (view σ) (fun v h' => v = r.1 ∧ h' = view r.2)
def OKS (X : CX) (Z : Option Value × Mem → Prop) : Prop := OKQ X (cX X) (sX X) (fun v h' => ∃ τ : Mem, h' = view τ ∧ Z (v, τ))
theorem CS.of {α : Type} {d : Nat} {M : MD} {args : List Value} {σ : Mem} {w : α → Option Value × Mem} {F : Option α} (hy : plainName M.1.cls = true ∧ M.1.name ≠ "law") (hn : (lg_sl args).length ≤ M.2.2.1)
    (k : ∀ (X : CX) (Z : Option Value × Mem → Prop), OKX X false d M → OKS X Z → SIM X M w Z 0 (lv_args 0 args) [] σ F) : CS d M args σ (F.map w) := by
  intro r hr
  cases hF : F with
  | none => rw [hF] at hr; cases hr
  | some r0 =>
    rw [hF] at hr
    cases hr
    refine C.of hy hn (fun X hO hQ => ?_)
    obtain ⟨n1, n2⟩ := hO.none hy.2
    have kk := k X (fun q => q = w r0) hO ?_ r0 hF rfl
    · rw [n1, n2] at kk
      exact kk
    unfold OKS
    rw [n1, n2]
    have e : (fun (v : Option Value) (h' : AH) => v = (w r0).1 ∧ h' = view (w r0).2) = (fun v h' => ∃ τ : Mem, h' = view τ ∧ (v, τ) = w r0) := by
      funext v h'
      apply propext
      constructor
      · intro q
        exact ⟨(w r0).2, q.2, Prod.ext q.1 rfl⟩
      · intro q
        obtain ⟨τ, q1, q2⟩ := q
        rw [← q2]
        exact ⟨rfl, q1⟩
    rw [e] at hQ
    exact hQ
theorem CS.none_of {d : Nat} {M : MD} {args : List Value} {σ : Mem} : CS d M args σ none := fun _ h => by cases h
section SIMR
variable {α : Type} {X : CX} {d : Nat} {M : MD} {w : α → Option Value × Mem} {Z : Option Value × Mem → Prop} {pc : Nat} {L : AL} {st : List Value} {σ : Mem} {F F1 F2 : Option α}
theorem S_none : SIM X M w Z pc L st σ none := fun _ h => by cases h
theorem S_ {pc2 : Nat} {L2 : AL} {st2 : List Value} (f : R X M pc2 L2 st2 (view σ) (cX X) (sX X) → R X M pc L st (view σ) (cX X) (sX X)) (k : SIM X M w Z pc2 L2 st2 σ F) : SIM X M w Z pc L st σ F := fun r h hz => f (k r h hz)
theorem S_getI {idx ci k a : Nat} {ty : FieldType} {fin : Bool} {rs : List (Option Nat)} (hO : OKX X false d M) (dc : decode M.2.1 pc = .ok (.getfield idx, 3)) (fl : FL M.1.cls idx ci k ty fin) (ha : sh[a]? = some (ci, rs)) (hr : rs[k]? = some none) (kk : SIM X M w Z (pc + 3) L (.int (σ a k) :: st) σ F) : SIM X M w Z pc L (.ref a :: st) σ F := fun r h hz => R_getf hO dc fl (view_at ha) (vw_int hr) (kk r h hz)
theorem S_getR {idx ci k a q : Nat} {ty : FieldType} {fin : Bool} {rs : List (Option Nat)} (hO : OKX X false d M) (dc : decode M.2.1 pc = .ok (.getfield idx, 3)) (fl : FL M.1.cls idx ci k ty fin) (ha : sh[a]? = some (ci, rs)) (hr : rs[k]? = some (some q)) (kk : SIM X M w Z (pc + 3) L (.ref q :: st) σ F) : SIM X M w Z pc L (.ref a :: st) σ F := fun r h hz => R_getf hO dc fl (view_at ha) (vw_ref hr) (kk r h hz)
theorem S_put {idx ci k a : Nat} {x : Int32} {rs : List (Option Nat)} {K : Mem → Option α} (hO : OKX X false d M) (dc : decode M.2.1 pc = .ok (.putfield idx, 3)) (fl : FL M.1.cls idx ci k .int false) (ha : sh[a]? = some (ci, rs)) (hr : rs[k]? = some none) (kk : ∀ τ, SIM X M w Z (pc + 3) L st τ (K τ)) : SIM X M w Z pc L (.int x :: .ref a :: st) σ (lt (st2 σ a k x) K) := fun r h hz => R_putf hO dc fl (view_at ha) (by rw [vw_len]; exact (List.getElem?_eq_some_iff.mp hr).1) rfl rfl (fun _ => rfl) (by rw [vw_set hr, view_set ha st2_other]; exact kk _ r h hz)
theorem S_putZ {idx ci k a : Nat} {x : Int32} {rs : List (Option Nat)} {K : Mem → Option α} (hO : OKX X false d M) (dc : decode M.2.1 pc = .ok (.putfield idx, 3)) (fl : FL M.1.cls idx ci k .boolean false) (hx : x = 0 ∨ x = 1) (ha : sh[a]? = some (ci, rs)) (hr : rs[k]? = some none) (kk : ∀ τ, SIM X M w Z (pc + 3) L st τ (K τ)) : SIM X M w Z pc L (.int x :: .ref a :: st) σ (lt (st2 σ a k x) K) := fun r h hz => R_putf hO dc fl (view_at ha) (by rw [vw_len]; exact (List.getElem?_eq_some_iff.mp hr).1) (by rcases hx with rfl | rfl <;> rfl) (by rcases hx with rfl | rfl <;> rfl) (fun _ => rfl) (by rw [vw_set hr, view_set ha st2_other]; exact kk _ r h hz)
theorem ing_in {i : Int32} {n : Nat} {r : α} (h : ing i n F = some r) : (¬ (i < 0 ∨ n ≤ i.toNatClampNeg)) ∧ F = some r := by
  unfold ing at h
  by_cases c : i < 0 ∨ n ≤ i.toNatClampNeg
  · rw [if_pos c] at h; cases h
  · rw [if_neg c] at h; exact ⟨c, h⟩
theorem in_lt {i : Int32} {n : Nat} (h : ¬ (i < 0 ∨ n ≤ i.toNatClampNeg)) : i.toNatClampNeg < n := Nat.not_le.mp fun q => h (Or.inr q)
theorem S_iald {a n : Nat} {i : Int32} (hO : OKX X false d M) (dc : decode M.2.1 pc = .ok (.iaload, 1)) (ha : sh[a]? = some (20, nn n)) (kk : SIM X M w Z (pc + 1) L (.int (σ a i.toNatClampNeg) :: st) σ F) : SIM X M w Z pc L (.int i :: .ref a :: st) σ (ing i n F) := fun r h hz => R_iald hO dc (view_at ha) (by rw [vw_len, nn_len]; exact (ing_in h).1) (vw_int (nn_at (in_lt (ing_in h).1))) (kk r (ing_in h).2 hz)
theorem S_zald {a n : Nat} {i : Int32} (hO : OKX X false d M) (dc : decode M.2.1 pc = .ok (.baload, 1)) (ha : sh[a]? = some (21, nn n)) (kk : SIM X M w Z (pc + 1) L (.int (σ a i.toNatClampNeg) :: st) σ F) : SIM X M w Z pc L (.int i :: .ref a :: st) σ (ing i n F) := fun r h hz => R_zald hO dc (view_at ha) (by rw [vw_len, nn_len]; exact (ing_in h).1) (vw_int (nn_at (in_lt (ing_in h).1))) (kk r (ing_in h).2 hz)
theorem S_iast {a n : Nat} {i x : Int32} {K : Mem → Option α} (hO : OKX X false d M) (dc : decode M.2.1 pc = .ok (.iastore, 1)) (ha : sh[a]? = some (20, nn n)) (kk : ∀ τ, SIM X M w Z (pc + 1) L st τ (K τ)) : SIM X M w Z pc L (.int x :: .int i :: .ref a :: st) σ (ing i n (lt (st2 σ a i.toNatClampNeg x) K)) := fun r h hz => R_iast hO dc (view_at ha) (by rw [vw_len, nn_len]; exact (ing_in h).1) (by rw [vw_set (nn_at (in_lt (ing_in h).1)), view_set ha st2_other]; exact kk _ r (ing_in h).2 hz)
theorem S_zast {a n : Nat} {i : Int32} {K : Mem → Option α} (hO : OKX X false d M) (dc : decode M.2.1 pc = .ok (.bastore, 1)) (ha : sh[a]? = some (21, nn n)) (kk : ∀ τ, SIM X M w Z (pc + 1) L st τ (K τ)) : SIM X M w Z pc L (.int 1 :: .int i :: .ref a :: st) σ (ing i n (lt (st2 σ a i.toNatClampNeg 1) K)) := fun r h hz => R_zast hO dc (view_at ha) (by rw [vw_len, nn_len]; exact (ing_in h).1) (by rw [vw_set (nn_at (in_lt (ing_in h).1)), view_set ha st2_other]; exact kk _ r (ing_in h).2 hz)
theorem S_aald {a n c2 b0 s0 : Nat} {i : Int32} (hO : OKX X false d M) (dc : decode M.2.1 pc = .ok (.aaload, 1)) (hc2 : c2 = 22 ∨ c2 = 23) (ha : sh[a]? = some (c2, (List.range n).map fun i => some (b0 + s0 * i))) (kk : i.toNatClampNeg < n → SIM X M w Z (pc + 1) L (.ref (b0 + s0 * i.toNatClampNeg) :: st) σ F) : SIM X M w Z pc L (.int i :: .ref a :: st) σ (ing i n F) := fun r h hz => R_aald hO dc hc2 (view_at ha) (by rw [vw_len, List.length_map, List.length_range]; exact (ing_in h).1) (vw_ref (by rw [List.getElem?_map, List.getElem?_range (in_lt (ing_in h).1)]; rfl)) (kk (in_lt (ing_in h).1) r (ing_in h).2 hz)
/-- System.arraycopy of ints -/
def cpg (σ : Mem) (a b : Nat) (sp dp n : Int32) (na nb : Nat) (K : Mem → Option α) : Option α := if (¬ sp < 0) ∧ (¬ dp < 0) ∧ (¬ n < 0) ∧ sp.toNatClampNeg + n.toNatClampNeg ≤ na ∧ dp.toNatClampNeg + n.toNatClampNeg ≤ nb then K (cp2 σ a b sp.toNatClampNeg dp.toNatClampNeg n.toNatClampNeg) else none
theorem cp2_other {a b sp dp n : Nat} : ∀ c, c ≠ b → cp2 σ a b sp dp n c = σ c := fun _ h => if_neg h
theorem S_copy {idx a b na nb : Nat} {sp dp n : Int32} {K : Mem → Option α} (hO : OKX X false d M) (dc : decode M.2.1 pc = .ok (.invokestatic idx, 3)) (hd : 0 < d) (hlink : Cond.methodLink M.1.cls idx arraycopyName ∈ TS) (hw : Cond.native arraycopyName ∈ TS ∧ Cond.static arraycopyName ∈ TS ∧ Cond.initialized "java/lang/System" ∈ TS) (ha : sh[a]? = some (20, nn na)) (hb : sh[b]? = some (20, nn nb)) (hs : (st.map fun v => v.category).sum ≤ 8) (kk : ∀ τ, SIM X M w Z (pc + 3) L st τ (K τ)) : SIM X M w Z pc L (.int n :: .int dp :: .ref b :: .int sp :: .ref a :: st) σ (cpg σ a b sp dp n na nb K) := by
  intro r h hz
  unfold cpg at h
  by_cases c : (¬ sp < 0) ∧ (¬ dp < 0) ∧ (¬ n < 0) ∧ sp.toNatClampNeg + n.toNatClampNeg ≤ na ∧ dp.toNatClampNeg + n.toNatClampNeg ≤ nb
  · rw [if_pos c] at h
    obtain ⟨c1, c2, c3, c4, c5⟩ := c
    refine R_copy hO dc hd hlink hw (view_at ha) (view_at hb) c1 c2 c3 (by rw [vw_len, nn_len]; exact c4) (by rw [vw_len, nn_len]; exact c5) hs ?_
    rw [vw_cpy c4 c5, view_set hb cp2_other]
    exact kk _ r h hz
  · rw [if_neg c] at h; cases h
/-- a store names what it stores -/
theorem S_lt {β : Type} {e : β} {K : β → Option α} (k : ∀ x, SIM X M w Z pc L st σ (K x) → True) (kk : SIM X M w Z pc L st σ (K e)) : SIM X M w Z pc L st σ (lt e K) := kk
theorem S_istore {i : Nat} {x : Int32} {L2 : Int32 → AL} {K : Int32 → Option α} (hO : OKX X false d M) (dc : decode M.2.1 pc = .ok (.istore i, 2)) (hi : i < M.2.2.1) (hg : ∀ y, sto1 i (.int y) L = L2 y) (kk : ∀ y, SIM X M w Z (pc + 2) (L2 y) st σ (K y)) : SIM X M w Z pc L (.int x :: st) σ (lt x K) := fun r h hz => R_istore hO dc hi (hg x) (kk x r h hz)
theorem S_istore_n {j : Fin 4} {x : Int32} {L2 : Int32 → AL} {K : Int32 → Option α} (hO : OKX X false d M) (dc : decode M.2.1 pc = .ok (.istore_n j, 1)) (hi : (j : Nat) < M.2.2.1) (hg : ∀ y, sto1 (j : Nat) (.int y) L = L2 y) (kk : ∀ y, SIM X M w Z (pc + 1) (L2 y) st σ (K y)) : SIM X M w Z pc L (.int x :: st) σ (lt x K) := fun r h hz => R_istore_n hO dc hi (hg x) (kk x r h hz)
theorem S_lstore {i : Nat} {x : Int64} {L2 : Int64 → AL} {K : Int64 → Option α} (hO : OKX X false d M) (dc : decode M.2.1 pc = .ok (.lstore i, 2)) (hi : i + 1 < M.2.2.1) (hg : ∀ y, sto2 i (.long y) L = L2 y) (kk : ∀ y, SIM X M w Z (pc + 2) (L2 y) st σ (K y)) : SIM X M w Z pc L (.long x :: st) σ (lt x K) := fun r h hz => R_lstore hO dc hi (hg x) (kk x r h hz)
theorem S_lstore_n {j : Fin 4} {x : Int64} {L2 : Int64 → AL} {K : Int64 → Option α} (hO : OKX X false d M) (dc : decode M.2.1 pc = .ok (.lstore_n j, 1)) (hi : (j : Nat) + 1 < M.2.2.1) (hg : ∀ y, sto2 (j : Nat) (.long y) L = L2 y) (kk : ∀ y, SIM X M w Z (pc + 1) (L2 y) st σ (K y)) : SIM X M w Z pc L (.long x :: st) σ (lt x K) := fun r h hz => R_lstore_n hO dc hi (hg x) (kk x r h hz)
theorem S_iinc {i : Nat} {n : Int} {x v : Int32} {L2 : Int32 → AL} {K : Int32 → Option α} (hO : OKX X false d M) (dc : decode M.2.1 pc = .ok (.iinc i n, 3)) (hx : lk L i = some (.int x)) (hv : Int32.ofInt n = v) (hi : i < M.2.2.1) (hg : ∀ y, sto1 i (.int y) L = L2 y) (kk : ∀ y, SIM X M w Z (pc + 3) (L2 y) st σ (K y)) : SIM X M w Z pc L st σ (lt (x + v) K) := fun r h hz => R_iinc hO dc hx (by rw [hv]) hi (hg _) (kk _ r h hz)
theorem S_idiv {x y : Int32} (hO : OKX X false d M) (dc : decode M.2.1 pc = .ok (.idiv, 1)) (k : SIM X M w Z (pc + 1) L (.int (x / y) :: st) σ F) : SIM X M w Z pc L (.int y :: .int x :: st) σ (gd (¬ y = 0) F) := by
  intro r h hz
  unfold gd at h
  by_cases c : ¬ y = 0
  · rw [if_pos c] at h; exact R_idiv hO dc c (k r h hz)
  · rw [if_neg c] at h; cases h
theorem S_irem {x y : Int32} (hO : OKX X false d M) (dc : decode M.2.1 pc = .ok (.irem, 1)) (k : SIM X M w Z (pc + 1) L (.int (x - x / y * y) :: st) σ F) : SIM X M w Z pc L (.int y :: .int x :: st) σ (gd (¬ y = 0) F) := by
  intro r h hz
  unfold gd at h
  by_cases c : ¬ y = 0
  · rw [if_pos c] at h; exact R_irem hO dc c (k r h hz)
  · rw [if_neg c] at h; cases h
theorem S_ldiv {x y : Int64} (hO : OKX X false d M) (dc : decode M.2.1 pc = .ok (.ldiv, 1)) (k : SIM X M w Z (pc + 1) L (.long (x / y) :: st) σ F) : SIM X M w Z pc L (.long y :: .long x :: st) σ (gd (¬ y = 0) F) := by
  intro r h hz
  unfold gd at h
  by_cases c : ¬ y = 0
  · rw [if_pos c] at h; exact R_ldiv hO dc c (k r h hz)
  · rw [if_neg c] at h; cases h
theorem S_lrem {x y : Int64} (hO : OKX X false d M) (dc : decode M.2.1 pc = .ok (.lrem, 1)) (k : SIM X M w Z (pc + 1) L (.long (x - x / y * y) :: st) σ F) : SIM X M w Z pc L (.long y :: .long x :: st) σ (gd (¬ y = 0) F) := by
  intro r h hz
  unfold gd at h
  by_cases c : ¬ y = 0
  · rw [if_pos c] at h; exact R_lrem hO dc c (k r h hz)
  · rw [if_neg c] at h; cases h
theorem S_ite {c : Prop} [Decidable c] (kt : c → SIM X M w Z pc L st σ F1) (kf : ¬ c → SIM X M w Z pc L st σ F2) : SIM X M w Z pc L st σ (if c then F1 else F2) := by
  by_cases h : c
  · rw [if_pos h]; exact kt h
  · rw [if_neg h]; exact kf h
theorem S_icmp_eq {x y : Int32} {off : Int} {tgt : Nat} (hO : OKX X false d M) (dc : decode M.2.1 pc = .ok (.if_icmp .eq off, 3)) (ht : (pc : Int) + off = (tgt : Int)) (kf : SIM X M w Z (pc + 3) L st σ F2) (kt : SIM X M w Z tgt L st σ F1) : SIM X M w Z pc L (.int y :: .int x :: st) σ (if x = y then F1 else F2) := fun r h hz => R_icmp_eq hO dc ht (fun c => kt r (by rw [if_pos c] at h; exact h) hz) (fun c => kf r (by rw [if_neg c] at h; exact h) hz)
theorem S_icmp_ne {x y : Int32} {off : Int} {tgt : Nat} (hO : OKX X false d M) (dc : decode M.2.1 pc = .ok (.if_icmp .ne off, 3)) (ht : (pc : Int) + off = (tgt : Int)) (kf : SIM X M w Z (pc + 3) L st σ F1) (kt : SIM X M w Z tgt L st σ F2) : SIM X M w Z pc L (.int y :: .int x :: st) σ (if x = y then F1 else F2) := fun r h hz => R_icmp_ne hO dc ht (fun c => kt r (by rw [if_neg c] at h; exact h) hz) (fun c => kf r (by rw [if_pos c] at h; exact h) hz)
theorem S_icmp_lt {x y : Int32} {off : Int} {tgt : Nat} (hO : OKX X false d M) (dc : decode M.2.1 pc = .ok (.if_icmp .lt off, 3)) (ht : (pc : Int) + off = (tgt : Int)) (kf : SIM X M w Z (pc + 3) L st σ F2) (kt : SIM X M w Z tgt L st σ F1) : SIM X M w Z pc L (.int y :: .int x :: st) σ (if x < y then F1 else F2) := fun r h hz => R_icmp_lt hO dc ht (fun c => kt r (by rw [if_pos c] at h; exact h) hz) (fun c => kf r (by rw [if_neg c] at h; exact h) hz)
theorem S_icmp_ge {x y : Int32} {off : Int} {tgt : Nat} (hO : OKX X false d M) (dc : decode M.2.1 pc = .ok (.if_icmp .ge off, 3)) (ht : (pc : Int) + off = (tgt : Int)) (kf : SIM X M w Z (pc + 3) L st σ F2) (kt : SIM X M w Z tgt L st σ F1) : SIM X M w Z pc L (.int y :: .int x :: st) σ (if y ≤ x then F1 else F2) := fun r h hz => R_icmp_ge hO dc ht (fun c => kt r (by rw [if_pos c] at h; exact h) hz) (fun c => kf r (by rw [if_neg c] at h; exact h) hz)
theorem S_icmp_gt {x y : Int32} {off : Int} {tgt : Nat} (hO : OKX X false d M) (dc : decode M.2.1 pc = .ok (.if_icmp .gt off, 3)) (ht : (pc : Int) + off = (tgt : Int)) (kf : SIM X M w Z (pc + 3) L st σ F2) (kt : SIM X M w Z tgt L st σ F1) : SIM X M w Z pc L (.int y :: .int x :: st) σ (if y < x then F1 else F2) := fun r h hz => R_icmp_gt hO dc ht (fun c => kt r (by rw [if_pos c] at h; exact h) hz) (fun c => kf r (by rw [if_neg c] at h; exact h) hz)
theorem S_icmp_le {x y : Int32} {off : Int} {tgt : Nat} (hO : OKX X false d M) (dc : decode M.2.1 pc = .ok (.if_icmp .le off, 3)) (ht : (pc : Int) + off = (tgt : Int)) (kf : SIM X M w Z (pc + 3) L st σ F2) (kt : SIM X M w Z tgt L st σ F1) : SIM X M w Z pc L (.int y :: .int x :: st) σ (if x ≤ y then F1 else F2) := fun r h hz => R_icmp_le hO dc ht (fun c => kt r (by rw [if_pos c] at h; exact h) hz) (fun c => kf r (by rw [if_neg c] at h; exact h) hz)
theorem S_if_eq {x : Int32} {off : Int} {tgt : Nat} (hO : OKX X false d M) (dc : decode M.2.1 pc = .ok (.ifCond .eq off, 3)) (ht : (pc : Int) + off = (tgt : Int)) (kf : SIM X M w Z (pc + 3) L st σ F2) (kt : SIM X M w Z tgt L st σ F1) : SIM X M w Z pc L (.int x :: st) σ (if x = 0 then F1 else F2) := fun r h hz => R_if_eq hO dc ht (fun c => kt r (by rw [if_pos c] at h; exact h) hz) (fun c => kf r (by rw [if_neg c] at h; exact h) hz)
theorem S_if_ne {x : Int32} {off : Int} {tgt : Nat} (hO : OKX X false d M) (dc : decode M.2.1 pc = .ok (.ifCond .ne off, 3)) (ht : (pc : Int) + off = (tgt : Int)) (kf : SIM X M w Z (pc + 3) L st σ F1) (kt : SIM X M w Z tgt L st σ F2) : SIM X M w Z pc L (.int x :: st) σ (if x = 0 then F1 else F2) := fun r h hz => R_if_ne hO dc ht (fun c => kt r (by rw [if_neg c] at h; exact h) hz) (fun c => kf r (by rw [if_pos c] at h; exact h) hz)
theorem S_if_lt {x : Int32} {off : Int} {tgt : Nat} (hO : OKX X false d M) (dc : decode M.2.1 pc = .ok (.ifCond .lt off, 3)) (ht : (pc : Int) + off = (tgt : Int)) (kf : SIM X M w Z (pc + 3) L st σ F2) (kt : SIM X M w Z tgt L st σ F1) : SIM X M w Z pc L (.int x :: st) σ (if x < 0 then F1 else F2) := fun r h hz => R_if_lt hO dc ht (fun c => kt r (by rw [if_pos c] at h; exact h) hz) (fun c => kf r (by rw [if_neg c] at h; exact h) hz)
theorem S_if_ge {x : Int32} {off : Int} {tgt : Nat} (hO : OKX X false d M) (dc : decode M.2.1 pc = .ok (.ifCond .ge off, 3)) (ht : (pc : Int) + off = (tgt : Int)) (kf : SIM X M w Z (pc + 3) L st σ F2) (kt : SIM X M w Z tgt L st σ F1) : SIM X M w Z pc L (.int x :: st) σ (if 0 ≤ x then F1 else F2) := fun r h hz => R_if_ge hO dc ht (fun c => kt r (by rw [if_pos c] at h; exact h) hz) (fun c => kf r (by rw [if_neg c] at h; exact h) hz)
theorem S_if_gt {x : Int32} {off : Int} {tgt : Nat} (hO : OKX X false d M) (dc : decode M.2.1 pc = .ok (.ifCond .gt off, 3)) (ht : (pc : Int) + off = (tgt : Int)) (kf : SIM X M w Z (pc + 3) L st σ F2) (kt : SIM X M w Z tgt L st σ F1) : SIM X M w Z pc L (.int x :: st) σ (if 0 < x then F1 else F2) := fun r h hz => R_if_gt hO dc ht (fun c => kt r (by rw [if_pos c] at h; exact h) hz) (fun c => kf r (by rw [if_neg c] at h; exact h) hz)
theorem S_if_le {x : Int32} {off : Int} {tgt : Nat} (hO : OKX X false d M) (dc : decode M.2.1 pc = .ok (.ifCond .le off, 3)) (ht : (pc : Int) + off = (tgt : Int)) (kf : SIM X M w Z (pc + 3) L st σ F2) (kt : SIM X M w Z tgt L st σ F1) : SIM X M w Z pc L (.int x :: st) σ (if x ≤ 0 then F1 else F2) := fun r h hz => R_if_le hO dc ht (fun c => kt r (by rw [if_pos c] at h; exact h) hz) (fun c => kf r (by rw [if_neg c] at h; exact h) hz)
/-- a table of ways -/
def swi (x : Int32) (lo : Int) (n : Nat) (f : Nat → Option α) (g : Option α) : Option α := if x.toInt < lo ∨ lo + n ≤ x.toInt then g else f (x.toInt - lo).toNat
theorem S_tsw {dflt lo hi : Int} {offs : Array Int} {len n : Nat} {x : Int32} {f : Nat → Option α} {g : Option α} {tgt : Nat → Nat} {tgd : Nat} (hO : OKX X false d M) (dc : decode M.2.1 pc = .ok (.tableswitch dflt lo hi offs, len)) (hn : hi + 1 = lo + (n : Int)) (ho : ∀ j, j < n → ∃ off, offs[j]? = some off ∧ (pc : Int) + off = (tgt j : Int)) (hd : (pc : Int) + dflt = (tgd : Int)) (kf : SIM X M w Z tgd L st σ g) (kt : ∀ j, j < n → SIM X M w Z (tgt j) L st σ (f j)) : SIM X M w Z pc L (.int x :: st) σ (swi x lo n f g) := by
  intro r h hz
  unfold swi at h
  refine R_tsw hO dc (fun j off h1 h2 h3 => ?_) (fun j hj => ?_) hd (fun c => ?_)
  · have hj : j < n := by omega
    obtain ⟨off2, e1, e2⟩ := ho j hj
    rw [h1] at e1
    cases e1
    refine ⟨tgt j, e2, kt j hj r ?_ hz⟩
    have e4 : (x.toInt - lo).toNat = j := by omega
    rw [if_neg (by omega), e4] at h
    exact h
  · obtain ⟨off2, e1, e2⟩ := ho j (by omega)
    exact ⟨off2, e1⟩
  · refine kf r ?_ hz
    rw [if_pos (by omega)] at h
    exact h
theorem S_sub {L2 : AL} (ks : List Nat) (hl : ks.filterMap (fun k => L[k]?) = L2) (kk : SIM X M w Z pc L2 st σ F) : SIM X M w Z pc L st σ F := fun r h hz => R_sub ks hl (kk r h hz)
def imax (x y : Int32) : Int32 := if x < y then y else x
def imin (x y : Int32) : Int32 := if y < x then y else x
theorem S_max {idx : Nat} {x y : Int32} (hO : OKX X false d M) (dc : decode M.2.1 pc = .ok (.invokestatic idx, 3)) (hd : 0 < d) (hlink : Cond.methodLink M.1.cls idx Lib.Math.max.name ∈ TS) (hw : Cond.static Lib.Math.max.name ∈ TS ∧ Cond.initialized "java/lang/Math" ∈ TS ∧ Cond.code Lib.Math.max.name Lib.Math.max.code 2 (some .int) ∈ TS) (hs : (st.map fun v => v.category).sum ≤ 8) (kk : SIM X M w Z (pc + 3) L (.int (imax x y) :: st) σ F) : SIM X M w Z pc L (.int y :: .int x :: st) σ F := fun r h hz => R_mmax hO dc hd hlink hw hs hO.room (kk r h hz)
theorem S_min {idx : Nat} {x y : Int32} (hO : OKX X false d M) (dc : decode M.2.1 pc = .ok (.invokestatic idx, 3)) (hd : 0 < d) (hlink : Cond.methodLink M.1.cls idx Lib.Math.min.name ∈ TS) (hw : Cond.static Lib.Math.min.name ∈ TS ∧ Cond.initialized "java/lang/Math" ∈ TS ∧ Cond.code Lib.Math.min.name Lib.Math.min.code 2 (some .int) ∈ TS) (hs : (st.map fun v => v.category).sum ≤ 8) (kk : SIM X M w Z (pc + 3) L (.int (imin x y) :: st) σ F) : SIM X M w Z pc L (.int y :: .int x :: st) σ F := fun r h hz => R_mmin hO dc hd hlink hw hs hO.room (kk r h hz)
def lmax (x y : Int64) : Int64 := if y < x then x else y
theorem S_maxL {idx : Nat} {x y : Int64} (hO : OKX X false d M) (dc : decode M.2.1 pc = .ok (.invokestatic idx, 3)) (hd : 0 < d) (hlink : Cond.methodLink M.1.cls idx Lib.MathLoose.max_long.x ∈ TS) (hw : Cond.static Lib.MathLoose.max_long.x ∈ TS ∧ Cond.initialized "java/lang/Math" ∈ TS ∧ Cond.code Lib.MathLoose.max_long.x Lib.MathLoose.max_long.code 4 (some .long) ∈ TS) (hs : (st.map fun v => v.category).sum ≤ 8) (kk : SIM X M w Z (pc + 3) L (.long (lmax x y) :: st) σ F) : SIM X M w Z pc L (.long y :: .long x :: st) σ F := fun r h hz => R_mmaxL hO dc hd hlink hw hs hO.room (kk r h hz)
abbrev wR (p : Nat) (q : Mem) : Option Value × Mem := (some (.ref p), q)
theorem S_rret {x p : Nat} {nm : String} {w' : Mem → Option Value × Mem} (hw : w' = wR p) {Z : Option Value × Mem → Prop} (hO : OKX X false d M) (hQ : OKS X Z) (dc : decode M.2.1 pc = .ok (.areturn, 1)) (ht : M.2.2.2 = some (.object nm)) (hx : x = p) : SIM X M w' Z pc L [.ref x] σ (some σ) := by
  intro r h hz
  cases h
  subst hw
  subst hx
  exact R_aret hO hQ dc ht ⟨σ, rfl, hz⟩
theorem S_name {β : Type} {K : β → Option α} {e : β} (kk : ∀ x, SIM X M w Z pc L st σ (K x)) : SIM X M w Z pc L st σ (lt e K) := kk e
theorem S_iret {x : Int32} {w' : Int32 × Mem → Option Value × Mem} (hw : w' = wI) {Z : Option Value × Mem → Prop} (hO : OKX X false d M) (hQ : OKS X Z) (dc : decode M.2.1 pc = .ok (.ireturn, 1)) (ht : M.2.2.2 = some .int) : SIM X M w' Z pc L [.int x] σ (some (x, σ)) := by
  intro r h hz
  cases h
  subst hw
  exact R_iret hO hQ dc ht ⟨σ, rfl, hz⟩
theorem S_zret0 {x : Int32} {w' : Int32 × Mem → Option Value × Mem} (hw : w' = wI) {Z : Option Value × Mem → Prop} (hO : OKX X false d M) (hQ : OKS X Z) (dc : decode M.2.1 pc = .ok (.ireturn, 1)) (ht : M.2.2.2 = some .boolean) (hx : x = 0 ∨ x = 1) : SIM X M w' Z pc L [.int x] σ (some (x, σ)) := by
  intro r h hz
  cases h
  subst hw
  exact R_zret hO hQ dc ht hx ⟨σ, rfl, hz⟩
theorem S_zret {x : Int32} {w' : Int32 × Mem → Option Value × Mem} (hw : w' = wI) {Z : Option Value × Mem → Prop} (hO : OKX X false d M) (hQ : OKS X Z) (dc : decode M.2.1 pc = .ok (.ireturn, 1)) (ht : M.2.2.2 = some .boolean) : SIM X M w' Z pc L [.int x] σ (gd (x = 0 ∨ x = 1) (some (x, σ))) := by
  intro r h hz
  unfold gd at h
  by_cases c : x = 0 ∨ x = 1
  · rw [if_pos c] at h
    cases h
    subst hw
    exact R_zret hO hQ dc ht c ⟨σ, rfl, hz⟩
  · rw [if_neg c] at h; cases h
theorem S_lret {x : Int64} {w' : Int64 × Mem → Option Value × Mem} (hw : w' = wL) {Z : Option Value × Mem → Prop} (hO : OKX X false d M) (hQ : OKS X Z) (dc : decode M.2.1 pc = .ok (.lreturn, 1)) (ht : M.2.2.2 = some .long) : SIM X M w' Z pc L [.long x] σ (some (x, σ)) := by
  intro r h hz
  cases h
  subst hw
  exact R_lret hO hQ dc ht ⟨σ, rfl, hz⟩
theorem S_aret {x : Nat} {nm : String} {w' : Nat × Mem → Option Value × Mem} (hw : w' = wA) {Z : Option Value × Mem → Prop} (hO : OKX X false d M) (hQ : OKS X Z) (dc : decode M.2.1 pc = .ok (.areturn, 1)) (ht : M.2.2.2 = some (.object nm)) : SIM X M w' Z pc L [.ref x] σ (some (x, σ)) := by
  intro r h hz
  cases h
  subst hw
  exact R_aret hO hQ dc ht ⟨σ, rfl, hz⟩
theorem S_vret {w' : Mem → Option Value × Mem} (hw : w' = wV) {Z : Option Value × Mem → Prop} (hO : OKX X false d M) (hQ : OKS X Z) (dc : decode M.2.1 pc = .ok (.return_, 1)) (ht : M.2.2.2 = none) : SIM X M w' Z pc L [] σ (some σ) := by
  intro r h hz
  cases h
  subst hw
  exact R_vret hO hQ dc ht ⟨σ, rfl, hz⟩
/-- a receiver -/
def RC (a : Nat) (N : MD) : Prop := ∃ (ci : Nat) (rs : List (Option Nat)) (q : vw_C), sh[a]? = some (ci, rs) ∧ cls0[ci]? = some q ∧ q.1 = N.1.cls ∧ ci < 20
def np (N : MD) (n : Nat) : Prop := (parseMethodDescriptor N.1.desc).map (fun d => d.parameters.length) = some n
theorem S_callVI {N : MD} {d2 idx : Nat} {a : Nat} {As rest : List Value} {G : Option (Int32 × Mem)} {K : Int32 → Mem → Option α} (hO : OKX X false d M) (dc : decode M.2.1 pc = .ok (.invokevirtual idx, 3)) (hM : CS d2 N (.ref a :: As) σ (G.map wI)) (hd : d2 < d) (lkv : LKV M.1.cls idx N) (hp : np N As.length) (rc : RC a N) (hst : st = As.reverse ++ .ref a :: rest) (hs : (rest.map fun v => v.category).sum ≤ 8) (kk : ∀ x τ, SIM X M w Z (pc + 3) L (.int x :: rest) τ (K x τ)) : SIM X M w Z pc L st σ (bd2 G K) := by
  intro r h hz
  cases hG : G with
  | none => rw [hG] at h; cases h
  | some q =>
    rw [hG] at h hM
    obtain ⟨ci, rs, vc, r1, r2, r3, r4⟩ := rc
    refine R_callV hO dc (hM _ rfl) hd lkv hp hst hs (view_at r1) r2 r3 r4 ⟨X, rfl, hO.room⟩ (fun v h' hv => ?_)
    obtain ⟨hv1, hv2⟩ := hv
    rw [hv1, hv2]
    exact kk q.1 q.2 r h hz
theorem S_callVL {N : MD} {d2 idx : Nat} {a : Nat} {As rest : List Value} {G : Option (Int64 × Mem)} {K : Int64 → Mem → Option α} (hO : OKX X false d M) (dc : decode M.2.1 pc = .ok (.invokevirtual idx, 3)) (hM : CS d2 N (.ref a :: As) σ (G.map wL)) (hd : d2 < d) (lkv : LKV M.1.cls idx N) (hp : np N As.length) (rc : RC a N) (hst : st = As.reverse ++ .ref a :: rest) (hs : (rest.map fun v => v.category).sum ≤ 8) (kk : ∀ x τ, SIM X M w Z (pc + 3) L (.long x :: rest) τ (K x τ)) : SIM X M w Z pc L st σ (bd2 G K) := by
  intro r h hz
  cases hG : G with
  | none => rw [hG] at h; cases h
  | some q =>
    rw [hG] at h hM
    obtain ⟨ci, rs, vc, r1, r2, r3, r4⟩ := rc
    refine R_callV hO dc (hM _ rfl) hd lkv hp hst hs (view_at r1) r2 r3 r4 ⟨X, rfl, hO.room⟩ (fun v h' hv => ?_)
    obtain ⟨hv1, hv2⟩ := hv
    rw [hv1, hv2]
    exact kk q.1 q.2 r h hz
theorem S_callVA {N : MD} {d2 idx : Nat} {a : Nat} {As rest : List Value} {G : Option (Nat × Mem)} {K : Nat → Mem → Option α} (hO : OKX X false d M) (dc : decode M.2.1 pc = .ok (.invokevirtual idx, 3)) (hM : CS d2 N (.ref a :: As) σ (G.map wA)) (hd : d2 < d) (lkv : LKV M.1.cls idx N) (hp : np N As.length) (rc : RC a N) (hst : st = As.reverse ++ .ref a :: rest) (hs : (rest.map fun v => v.category).sum ≤ 8) (kk : ∀ x τ, SIM X M w Z (pc + 3) L (.ref x :: rest) τ (K x τ)) : SIM X M w Z pc L st σ (bd2 G K) := by
  intro r h hz
  cases hG : G with
  | none => rw [hG] at h; cases h
  | some q =>
    rw [hG] at h hM
    obtain ⟨ci, rs, vc, r1, r2, r3, r4⟩ := rc
    refine R_callV hO dc (hM _ rfl) hd lkv hp hst hs (view_at r1) r2 r3 r4 ⟨X, rfl, hO.room⟩ (fun v h' hv => ?_)
    obtain ⟨hv1, hv2⟩ := hv
    rw [hv1, hv2]
    exact kk q.1 q.2 r h hz
theorem S_callVV {N : MD} {d2 idx : Nat} {a : Nat} {As rest : List Value} {G : Option (Mem)} {K : Mem → Option α} (hO : OKX X false d M) (dc : decode M.2.1 pc = .ok (.invokevirtual idx, 3)) (hM : CS d2 N (.ref a :: As) σ (G.map wV)) (hd : d2 < d) (lkv : LKV M.1.cls idx N) (hp : np N As.length) (rc : RC a N) (hst : st = As.reverse ++ .ref a :: rest) (hs : (rest.map fun v => v.category).sum ≤ 8) (kk : ∀ τ, SIM X M w Z (pc + 3) L rest τ (K τ)) : SIM X M w Z pc L st σ (bd G K) := by
  intro r h hz
  cases hG : G with
  | none => rw [hG] at h; cases h
  | some q =>
    rw [hG] at h hM
    obtain ⟨ci, rs, vc, r1, r2, r3, r4⟩ := rc
    refine R_callV hO dc (hM _ rfl) hd lkv hp hst hs (view_at r1) r2 r3 r4 ⟨X, rfl, hO.room⟩ (fun v h' hv => ?_)
    obtain ⟨hv1, hv2⟩ := hv
    rw [hv1, hv2]
    exact kk q r h hz
theorem S_callVR {N : MD} {d2 idx : Nat} {a : Nat} {p : Nat} {As rest : List Value} {G : Option (Mem)} {K : Mem → Option α} (hO : OKX X false d M) (dc : decode M.2.1 pc = .ok (.invokevirtual idx, 3)) (hM : CS d2 N (.ref a :: As) σ (G.map (wR p))) (hd : d2 < d) (lkv : LKV M.1.cls idx N) (hp : np N As.length) (rc : RC a N) (hst : st = As.reverse ++ .ref a :: rest) (hs : (rest.map fun v => v.category).sum ≤ 8) (kk : ∀ τ, SIM X M w Z (pc + 3) L (.ref p :: rest) τ (K τ)) : SIM X M w Z pc L st σ (bd G K) := by
  intro r h hz
  cases hG : G with
  | none => rw [hG] at h; cases h
  | some q =>
    rw [hG] at h hM
    obtain ⟨ci, rs, vc, r1, r2, r3, r4⟩ := rc
    refine R_callV hO dc (hM _ rfl) hd lkv hp hst hs (view_at r1) r2 r3 r4 ⟨X, rfl, hO.room⟩ (fun v h' hv => ?_)
    obtain ⟨hv1, hv2⟩ := hv
    rw [hv1, hv2]
    exact kk q r h hz
theorem S_callSI {N : MD} {d2 idx : Nat} {As rest : List Value} {G : Option (Int32 × Mem)} {K : Int32 → Mem → Option α} (hO : OKX X false d M) (dc : decode M.2.1 pc = .ok (.invokestatic idx, 3)) (hM : CS d2 N As σ (G.map wI)) (hd : d2 < d) (lkv : LKS M.1.cls idx N) (hp : np N As.length) (hst : st = As.reverse ++ rest) (hs : (rest.map fun v => v.category).sum ≤ 8) (kk : ∀ x τ, SIM X M w Z (pc + 3) L (.int x :: rest) τ (K x τ)) : SIM X M w Z pc L st σ (bd2 G K) := by
  intro r h hz
  cases hG : G with
  | none => rw [hG] at h; cases h
  | some q =>
    rw [hG] at h hM
    refine R_callS hO dc (hM _ rfl) hd lkv hp hst hs ⟨X, rfl, hO.room⟩ (fun v h' hv => ?_)
    obtain ⟨hv1, hv2⟩ := hv
    rw [hv1, hv2]
    exact kk q.1 q.2 r h hz
theorem S_callSL {N : MD} {d2 idx : Nat} {As rest : List Value} {G : Option (Int64 × Mem)} {K : Int64 → Mem → Option α} (hO : OKX X false d M) (dc : decode M.2.1 pc = .ok (.invokestatic idx, 3)) (hM : CS d2 N As σ (G.map wL)) (hd : d2 < d) (lkv : LKS M.1.cls idx N) (hp : np N As.length) (hst : st = As.reverse ++ rest) (hs : (rest.map fun v => v.category).sum ≤ 8) (kk : ∀ x τ, SIM X M w Z (pc + 3) L (.long x :: rest) τ (K x τ)) : SIM X M w Z pc L st σ (bd2 G K) := by
  intro r h hz
  cases hG : G with
  | none => rw [hG] at h; cases h
  | some q =>
    rw [hG] at h hM
    refine R_callS hO dc (hM _ rfl) hd lkv hp hst hs ⟨X, rfl, hO.room⟩ (fun v h' hv => ?_)
    obtain ⟨hv1, hv2⟩ := hv
    rw [hv1, hv2]
    exact kk q.1 q.2 r h hz
theorem S_callSA {N : MD} {d2 idx : Nat} {As rest : List Value} {G : Option (Nat × Mem)} {K : Nat → Mem → Option α} (hO : OKX X false d M) (dc : decode M.2.1 pc = .ok (.invokestatic idx, 3)) (hM : CS d2 N As σ (G.map wA)) (hd : d2 < d) (lkv : LKS M.1.cls idx N) (hp : np N As.length) (hst : st = As.reverse ++ rest) (hs : (rest.map fun v => v.category).sum ≤ 8) (kk : ∀ x τ, SIM X M w Z (pc + 3) L (.ref x :: rest) τ (K x τ)) : SIM X M w Z pc L st σ (bd2 G K) := by
  intro r h hz
  cases hG : G with
  | none => rw [hG] at h; cases h
  | some q =>
    rw [hG] at h hM
    refine R_callS hO dc (hM _ rfl) hd lkv hp hst hs ⟨X, rfl, hO.room⟩ (fun v h' hv => ?_)
    obtain ⟨hv1, hv2⟩ := hv
    rw [hv1, hv2]
    exact kk q.1 q.2 r h hz
theorem S_callSV {N : MD} {d2 idx : Nat} {As rest : List Value} {G : Option (Mem)} {K : Mem → Option α} (hO : OKX X false d M) (dc : decode M.2.1 pc = .ok (.invokestatic idx, 3)) (hM : CS d2 N As σ (G.map wV)) (hd : d2 < d) (lkv : LKS M.1.cls idx N) (hp : np N As.length) (hst : st = As.reverse ++ rest) (hs : (rest.map fun v => v.category).sum ≤ 8) (kk : ∀ τ, SIM X M w Z (pc + 3) L rest τ (K τ)) : SIM X M w Z pc L st σ (bd G K) := by
  intro r h hz
  cases hG : G with
  | none => rw [hG] at h; cases h
  | some q =>
    rw [hG] at h hM
    refine R_callS hO dc (hM _ rfl) hd lkv hp hst hs ⟨X, rfl, hO.room⟩ (fun v h' hv => ?_)
    obtain ⟨hv1, hv2⟩ := hv
    rw [hv1, hv2]
    exact kk q r h hz
theorem S_callSR {N : MD} {d2 idx : Nat} {p : Nat} {As rest : List Value} {G : Option (Mem)} {K : Mem → Option α} (hO : OKX X false d M) (dc : decode M.2.1 pc = .ok (.invokestatic idx, 3)) (hM : CS d2 N As σ (G.map (wR p))) (hd : d2 < d) (lkv : LKS M.1.cls idx N) (hp : np N As.length) (hst : st = As.reverse ++ rest) (hs : (rest.map fun v => v.category).sum ≤ 8) (kk : ∀ τ, SIM X M w Z (pc + 3) L (.ref p :: rest) τ (K τ)) : SIM X M w Z pc L st σ (bd G K) := by
  intro r h hz
  cases hG : G with
  | none => rw [hG] at h; cases h
  | some q =>
    rw [hG] at h hM
    refine R_callS hO dc (hM _ rfl) hd lkv hp hst hs ⟨X, rfl, hO.room⟩ (fun v h' hv => ?_)
    obtain ⟨hv1, hv2⟩ := hv
    rw [hv1, hv2]
    exact kk q r h hz
theorem S_callNI {N : MD} {d2 idx : Nat} {As rest : List Value} {G : Option (Int32 × Mem)} {K : Int32 → Mem → Option α} (hO : OKX X false d M) (dc : decode M.2.1 pc = .ok (.invokestatic idx, 3)) (hM : CS d2 N As σ (G.map wI)) (hd : d2 < d) (lkv : LKN M.1.cls idx N) (hp : np N As.length) (hst : st = As.reverse ++ rest) (hs : (rest.map fun v => v.category).sum ≤ 8) (kk : ∀ x τ, SIM X M w Z (pc + 3) L (.int x :: rest) τ (K x τ)) : SIM X M w Z pc L st σ (bd2 G K) := by
  intro r h hz
  cases hG : G with
  | none => rw [hG] at h; cases h
  | some q =>
    rw [hG] at h hM
    refine R_callSN hO dc (hM _ rfl) hd lkv hp hst hs ⟨X, rfl, hO.room⟩ (fun v h' hv => ?_)
    obtain ⟨hv1, hv2⟩ := hv
    rw [hv1, hv2]
    exact kk q.1 q.2 r h hz
theorem S_callNL {N : MD} {d2 idx : Nat} {As rest : List Value} {G : Option (Int64 × Mem)} {K : Int64 → Mem → Option α} (hO : OKX X false d M) (dc : decode M.2.1 pc = .ok (.invokestatic idx, 3)) (hM : CS d2 N As σ (G.map wL)) (hd : d2 < d) (lkv : LKN M.1.cls idx N) (hp : np N As.length) (hst : st = As.reverse ++ rest) (hs : (rest.map fun v => v.category).sum ≤ 8) (kk : ∀ x τ, SIM X M w Z (pc + 3) L (.long x :: rest) τ (K x τ)) : SIM X M w Z pc L st σ (bd2 G K) := by
  intro r h hz
  cases hG : G with
  | none => rw [hG] at h; cases h
  | some q =>
    rw [hG] at h hM
    refine R_callSN hO dc (hM _ rfl) hd lkv hp hst hs ⟨X, rfl, hO.room⟩ (fun v h' hv => ?_)
    obtain ⟨hv1, hv2⟩ := hv
    rw [hv1, hv2]
    exact kk q.1 q.2 r h hz
theorem S_callNA {N : MD} {d2 idx : Nat} {As rest : List Value} {G : Option (Nat × Mem)} {K : Nat → Mem → Option α} (hO : OKX X false d M) (dc : decode M.2.1 pc = .ok (.invokestatic idx, 3)) (hM : CS d2 N As σ (G.map wA)) (hd : d2 < d) (lkv : LKN M.1.cls idx N) (hp : np N As.length) (hst : st = As.reverse ++ rest) (hs : (rest.map fun v => v.category).sum ≤ 8) (kk : ∀ x τ, SIM X M w Z (pc + 3) L (.ref x :: rest) τ (K x τ)) : SIM X M w Z pc L st σ (bd2 G K) := by
  intro r h hz
  cases hG : G with
  | none => rw [hG] at h; cases h
  | some q =>
    rw [hG] at h hM
    refine R_callSN hO dc (hM _ rfl) hd lkv hp hst hs ⟨X, rfl, hO.room⟩ (fun v h' hv => ?_)
    obtain ⟨hv1, hv2⟩ := hv
    rw [hv1, hv2]
    exact kk q.1 q.2 r h hz
theorem S_callNV {N : MD} {d2 idx : Nat} {As rest : List Value} {G : Option (Mem)} {K : Mem → Option α} (hO : OKX X false d M) (dc : decode M.2.1 pc = .ok (.invokestatic idx, 3)) (hM : CS d2 N As σ (G.map wV)) (hd : d2 < d) (lkv : LKN M.1.cls idx N) (hp : np N As.length) (hst : st = As.reverse ++ rest) (hs : (rest.map fun v => v.category).sum ≤ 8) (kk : ∀ τ, SIM X M w Z (pc + 3) L rest τ (K τ)) : SIM X M w Z pc L st σ (bd G K) := by
  intro r h hz
  cases hG : G with
  | none => rw [hG] at h; cases h
  | some q =>
    rw [hG] at h hM
    refine R_callSN hO dc (hM _ rfl) hd lkv hp hst hs ⟨X, rfl, hO.room⟩ (fun v h' hv => ?_)
    obtain ⟨hv1, hv2⟩ := hv
    rw [hv1, hv2]
    exact kk q r h hz
theorem S_callNR {N : MD} {d2 idx : Nat} {p : Nat} {As rest : List Value} {G : Option (Mem)} {K : Mem → Option α} (hO : OKX X false d M) (dc : decode M.2.1 pc = .ok (.invokestatic idx, 3)) (hM : CS d2 N As σ (G.map (wR p))) (hd : d2 < d) (lkv : LKN M.1.cls idx N) (hp : np N As.length) (hst : st = As.reverse ++ rest) (hs : (rest.map fun v => v.category).sum ≤ 8) (kk : ∀ τ, SIM X M w Z (pc + 3) L (.ref p :: rest) τ (K τ)) : SIM X M w Z pc L st σ (bd G K) := by
  intro r h hz
  cases hG : G with
  | none => rw [hG] at h; cases h
  | some q =>
    rw [hG] at h hM
    refine R_callSN hO dc (hM _ rfl) hd lkv hp hst hs ⟨X, rfl, hO.room⟩ (fun v h' hv => ?_)
    obtain ⟨hv1, hv2⟩ := hv
    rw [hv1, hv2]
    exact kk q r h hz
end SIMR
