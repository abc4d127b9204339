/-! RULES: a kit row each, over the judgement R. -/
section RULES
variable {X : CX} {z : Bool} {d : Nat} {M : MD} {pc : Nat} {L : AL} {st : List Value} {h : AH} {cs sl : Nat}
theorem R_iload {i : Nat} {x : Int32} (hO : OKX X z d M) (dc : decode M.2.1 pc = .ok (.iload i, 2)) (hg : lk L i = some (.int x)) (k : R X M (pc + 2) L (.int x :: st) h cs sl) : R X M pc L (st) h cs sl := by
  obtain ⟨p, l, e, Rm, s, m, args, below, meth, c, Q, E⟩ := X
  obtain ⟨hx, hb, hml, hown, hts, hK, hr, hlk, hE, hnm, hrm, hz⟩ := hO
  intro H locs ls hl hP hS
  exact lv_iload hx hb dc (lk_has hl hg) (k H locs ls hl hP hS)
theorem R_iload_n {j : Fin 4} {x : Int32} (hO : OKX X z d M) (dc : decode M.2.1 pc = .ok (.iload_n j, 1)) (hg : lk L (j : Nat) = some (.int x)) (k : R X M (pc + 1) L (.int x :: st) h cs sl) : R X M pc L (st) h cs sl := by
  obtain ⟨p, l, e, Rm, s, m, args, below, meth, c, Q, E⟩ := X
  obtain ⟨hx, hb, hml, hown, hts, hK, hr, hlk, hE, hnm, hrm, hz⟩ := hO
  intro H locs ls hl hP hS
  exact lv_iload_n hx hb dc rfl (lk_has hl hg) (k H locs ls hl hP hS)
theorem R_lload {i : Nat} {x : Int64} (hO : OKX X z d M) (dc : decode M.2.1 pc = .ok (.lload i, 2)) (hg : lk L i = some (.long x)) (k : R X M (pc + 2) L (.long x :: st) h cs sl) : R X M pc L (st) h cs sl := by
  obtain ⟨p, l, e, Rm, s, m, args, below, meth, c, Q, E⟩ := X
  obtain ⟨hx, hb, hml, hown, hts, hK, hr, hlk, hE, hnm, hrm, hz⟩ := hO
  intro H locs ls hl hP hS
  exact lv_lload hx hb dc (lk_has hl hg) (k H locs ls hl hP hS)
theorem R_lload_n {j : Fin 4} {x : Int64} (hO : OKX X z d M) (dc : decode M.2.1 pc = .ok (.lload_n j, 1)) (hg : lk L (j : Nat) = some (.long x)) (k : R X M (pc + 1) L (.long x :: st) h cs sl) : R X M pc L (st) h cs sl := by
  obtain ⟨p, l, e, Rm, s, m, args, below, meth, c, Q, E⟩ := X
  obtain ⟨hx, hb, hml, hown, hts, hK, hr, hlk, hE, hnm, hrm, hz⟩ := hO
  intro H locs ls hl hP hS
  exact lv_lload_n hx hb dc rfl (lk_has hl hg) (k H locs ls hl hP hS)
theorem R_aload {i a : Nat} (hO : OKX X z d M) (dc : decode M.2.1 pc = .ok (.aload i, 2)) (hg : lk L i = some (.ref a)) (k : R X M (pc + 2) L (.ref a :: st) h cs sl) : R X M pc L (st) h cs sl := by
  obtain ⟨p, l, e, Rm, s, m, args, below, meth, c, Q, E⟩ := X
  obtain ⟨hx, hb, hml, hown, hts, hK, hr, hlk, hE, hnm, hrm, hz⟩ := hO
  intro H locs ls hl hP hS
  exact lv_aload hx hb dc (lk_has hl hg) (k H locs ls hl hP hS)
theorem R_aload_n {j : Fin 4} {a : Nat} (hO : OKX X z d M) (dc : decode M.2.1 pc = .ok (.aload_n j, 1)) (hg : lk L (j : Nat) = some (.ref a)) (k : R X M (pc + 1) L (.ref a :: st) h cs sl) : R X M pc L (st) h cs sl := by
  obtain ⟨p, l, e, Rm, s, m, args, below, meth, c, Q, E⟩ := X
  obtain ⟨hx, hb, hml, hown, hts, hK, hr, hlk, hE, hnm, hrm, hz⟩ := hO
  intro H locs ls hl hP hS
  exact lv_aload_n hx hb dc rfl (lk_has hl hg) (k H locs ls hl hP hS)
theorem R_istore {i : Nat} {x : Int32} {L2 : AL} (hO : OKX X z d M) (dc : decode M.2.1 pc = .ok (.istore i, 2)) (hi : i < M.2.2.1) (hg : sto1 i (.int x) L = L2) (k : R X M (pc + 2) L2 (st) h cs sl) : R X M pc L (.int x :: st) h cs sl := by
  obtain ⟨p, l, e, Rm, s, m, args, below, meth, c, Q, E⟩ := X
  obtain ⟨hx, hb, hml, hown, hts, hK, hr, hlk, hE, hnm, hrm, hz⟩ := hO
  intro H locs ls hl hP hS
  exact lv_istore hx hb dc hl hi (sto1_tr E i (.int x) L) (fun ls hl => k H locs ls (hg ▸ hl) hP hS)
theorem R_istore_n {j : Fin 4} {x : Int32} {L2 : AL} (hO : OKX X z d M) (dc : decode M.2.1 pc = .ok (.istore_n j, 1)) (hi : (j : Nat) < M.2.2.1) (hg : sto1 (j : Nat) (.int x) L = L2) (k : R X M (pc + 1) L2 (st) h cs sl) : R X M pc L (.int x :: st) h cs sl := by
  obtain ⟨p, l, e, Rm, s, m, args, below, meth, c, Q, E⟩ := X
  obtain ⟨hx, hb, hml, hown, hts, hK, hr, hlk, hE, hnm, hrm, hz⟩ := hO
  intro H locs ls hl hP hS
  exact lv_istore_n hx hb dc rfl hl hi (sto1_tr E (j : Nat) (.int x) L) (fun ls hl => k H locs ls (hg ▸ hl) hP hS)
theorem R_astore {i : Nat} {x : Nat} {L2 : AL} (hO : OKX X z d M) (dc : decode M.2.1 pc = .ok (.astore i, 2)) (hi : i < M.2.2.1) (hg : sto1 i (.ref x) L = L2) (k : R X M (pc + 2) L2 (st) h cs sl) : R X M pc L (.ref x :: st) h cs sl := by
  obtain ⟨p, l, e, Rm, s, m, args, below, meth, c, Q, E⟩ := X
  obtain ⟨hx, hb, hml, hown, hts, hK, hr, hlk, hE, hnm, hrm, hz⟩ := hO
  intro H locs ls hl hP hS
  exact lv_astore hx hb dc hl hi (sto1_tr E i (.ref x) L) (fun ls hl => k H locs ls (hg ▸ hl) hP hS)
theorem R_astore_n {j : Fin 4} {x : Nat} {L2 : AL} (hO : OKX X z d M) (dc : decode M.2.1 pc = .ok (.astore_n j, 1)) (hi : (j : Nat) < M.2.2.1) (hg : sto1 (j : Nat) (.ref x) L = L2) (k : R X M (pc + 1) L2 (st) h cs sl) : R X M pc L (.ref x :: st) h cs sl := by
  obtain ⟨p, l, e, Rm, s, m, args, below, meth, c, Q, E⟩ := X
  obtain ⟨hx, hb, hml, hown, hts, hK, hr, hlk, hE, hnm, hrm, hz⟩ := hO
  intro H locs ls hl hP hS
  exact lv_astore_n hx hb dc rfl hl hi (sto1_tr E (j : Nat) (.ref x) L) (fun ls hl => k H locs ls (hg ▸ hl) hP hS)
theorem R_lstore {i : Nat} {x : Int64} {L2 : AL} (hO : OKX X z d M) (dc : decode M.2.1 pc = .ok (.lstore i, 2)) (hi : i + 1 < M.2.2.1) (hg : sto2 i (.long x) L = L2) (k : R X M (pc + 2) L2 (st) h cs sl) : R X M pc L (.long x :: st) h cs sl := by
  obtain ⟨p, l, e, Rm, s, m, args, below, meth, c, Q, E⟩ := X
  obtain ⟨hx, hb, hml, hown, hts, hK, hr, hlk, hE, hnm, hrm, hz⟩ := hO
  intro H locs ls hl hP hS
  exact lv_lstore hx hb dc hl hi (sto2_tr E i (.long x) L) (fun ls hl => k H locs ls (hg ▸ hl) hP hS)
theorem R_lstore_n {j : Fin 4} {x : Int64} {L2 : AL} (hO : OKX X z d M) (dc : decode M.2.1 pc = .ok (.lstore_n j, 1)) (hi : (j : Nat) + 1 < M.2.2.1) (hg : sto2 (j : Nat) (.long x) L = L2) (k : R X M (pc + 1) L2 (st) h cs sl) : R X M pc L (.long x :: st) h cs sl := by
  obtain ⟨p, l, e, Rm, s, m, args, below, meth, c, Q, E⟩ := X
  obtain ⟨hx, hb, hml, hown, hts, hK, hr, hlk, hE, hnm, hrm, hz⟩ := hO
  intro H locs ls hl hP hS
  exact lv_lstore_n hx hb dc rfl hl hi (sto2_tr E (j : Nat) (.long x) L) (fun ls hl => k H locs ls (hg ▸ hl) hP hS)
theorem trL_at {b : EE} {i : Nat} {x : Int32} : ∀ {L : AL}, lk L i = some (.int x) → ∃ k : Nat, (trL b L)[k]? = some (i, .int x) := by
  intro L
  induction L with
  | nil => intro h; cases h
  | cons q t ih =>
    intro h
    unfold lk at h
    by_cases e : q.1 = i
    · rw [if_pos e] at h
      cases q with
      | mk a v =>
        cases h
        cases e
        exact ⟨0, rfl⟩
    · rw [if_neg e] at h
      obtain ⟨k, hk⟩ := ih h
      exact ⟨k + 1, hk⟩
theorem R_iinc {i : Nat} {n : Int} {x v : Int32} {L2 : AL} (hO : OKX X z d M) (dc : decode M.2.1 pc = .ok (.iinc i n, 3)) (hx0 : lk L i = some (.int x)) (hv : x + Int32.ofInt n = v) (hi : i < M.2.2.1) (hg : sto1 i (.int v) L = L2) (k : R X M (pc + 3) L2 (st) h cs sl) : R X M pc L (st) h cs sl := by
  obtain ⟨p, l, e, Rm, s, m, args, below, meth, c, Q, E⟩ := X
  obtain ⟨hx, hb, hml, hown, hts, hK, hr, hlk, hE, hnm, hrm, hz⟩ := hO
  intro H locs ls hl hP hS
  obtain ⟨k0, hk0⟩ := trL_at (b := E) hx0
  exact lv_iinc hx hb dc hl hk0 hv hi (sto1_tr E i (.int v) L) (fun ls hl => k H locs ls (hg ▸ hl) hP hS)
theorem R_iconst {n : Int} {v : Int32} (hO : OKX X z d M) (dc : decode M.2.1 pc = .ok (.iconst n, 1)) (hv : Int32.ofInt n = v) (k : R X M (pc + 1) L (.int v :: st) h cs sl) : R X M pc L (st) h cs sl := by
  obtain ⟨p, l, e, Rm, s, m, args, below, meth, c, Q, E⟩ := X
  obtain ⟨hx, hb, hml, hown, hts, hK, hr, hlk, hE, hnm, hrm, hz⟩ := hO
  intro H locs ls hl hP hS
  exact lv_iconst hx hb dc hv (k H locs ls hl hP hS)
theorem R_bipush {n : Int} {v : Int32} (hO : OKX X z d M) (dc : decode M.2.1 pc = .ok (.bipush n, 2)) (hv : (Int8.ofInt n).toInt32 = v) (k : R X M (pc + 2) L (.int v :: st) h cs sl) : R X M pc L (st) h cs sl := by
  obtain ⟨p, l, e, Rm, s, m, args, below, meth, c, Q, E⟩ := X
  obtain ⟨hx, hb, hml, hown, hts, hK, hr, hlk, hE, hnm, hrm, hz⟩ := hO
  intro H locs ls hl hP hS
  exact lv_bipush hx hb dc hv (k H locs ls hl hP hS)
theorem R_sipush {n : Int} {v : Int32} (hO : OKX X z d M) (dc : decode M.2.1 pc = .ok (.sipush n, 3)) (hv : (Int16.ofInt n).toInt32 = v) (k : R X M (pc + 3) L (.int v :: st) h cs sl) : R X M pc L (st) h cs sl := by
  obtain ⟨p, l, e, Rm, s, m, args, below, meth, c, Q, E⟩ := X
  obtain ⟨hx, hb, hml, hown, hts, hK, hr, hlk, hE, hnm, hrm, hz⟩ := hO
  intro H locs ls hl hP hS
  exact lv_sipush hx hb dc hv (k H locs ls hl hP hS)
theorem R_lconst {n : Fin 2} {v : Int64} (hO : OKX X z d M) (dc : decode M.2.1 pc = .ok (.lconst n, 1)) (hv : Int64.ofNat (n : Nat) = v) (k : R X M (pc + 1) L (.long v :: st) h cs sl) : R X M pc L (st) h cs sl := by
  obtain ⟨p, l, e, Rm, s, m, args, below, meth, c, Q, E⟩ := X
  obtain ⟨hx, hb, hml, hown, hts, hK, hr, hlk, hE, hnm, hrm, hz⟩ := hO
  intro H locs ls hl hP hS
  exact lv_lconst hx hb dc hv (k H locs ls hl hP hS)
theorem R_ldc {i : Nat} {v : Int32} (hO : OKX X z d M) (dc : decode M.2.1 pc = .ok (.ldc i, 2)) (hw : Cond.constant M.1.cls i v ∈ TS) (k : R X M (pc + 2) L (.int v :: st) h cs sl) : R X M pc L (st) h cs sl := by
  obtain ⟨p, l, e, Rm, s, m, args, below, meth, c, Q, E⟩ := X
  obtain ⟨hx, hb, hml, hown, hts, hK, hr, hlk, hE, hnm, hrm, hz⟩ := hO
  intro H locs ls hl hP hS
  exact lv_ldc hx hb hown (hts _ hw) dc (k H locs ls hl hP hS)
theorem R_ldc_w {i : Nat} {v : Int32} (hO : OKX X z d M) (dc : decode M.2.1 pc = .ok (.ldc_w i, 3)) (hw : Cond.constant M.1.cls i v ∈ TS) (k : R X M (pc + 3) L (.int v :: st) h cs sl) : R X M pc L (st) h cs sl := by
  obtain ⟨p, l, e, Rm, s, m, args, below, meth, c, Q, E⟩ := X
  obtain ⟨hx, hb, hml, hown, hts, hK, hr, hlk, hE, hnm, hrm, hz⟩ := hO
  intro H locs ls hl hP hS
  exact lv_ldcw hx hb hown (hts _ hw) dc (k H locs ls hl hP hS)
theorem R_ldc2 {i : Nat} {v : Int64} (hO : OKX X z d M) (dc : decode M.2.1 pc = .ok (.ldc2_w i, 3)) (hw : Cond.constantLong M.1.cls i v ∈ TS) (k : R X M (pc + 3) L (.long v :: st) h cs sl) : R X M pc L (st) h cs sl := by
  obtain ⟨p, l, e, Rm, s, m, args, below, meth, c, Q, E⟩ := X
  obtain ⟨hx, hb, hml, hown, hts, hK, hr, hlk, hE, hnm, hrm, hz⟩ := hO
  intro H locs ls hl hP hS
  exact lv_ldc2 hx hb hown (hts _ hw) dc (k H locs ls hl hP hS)
theorem R_iadd {x y : Int32} (hO : OKX X z d M) (dc : decode M.2.1 pc = .ok (.iadd, 1)) (k : R X M (pc + 1) L (.int (x + y) :: st) h cs sl) : R X M pc L (.int y :: .int x :: st) h cs sl := by
  obtain ⟨p, l, e, Rm, s, m, args, below, meth, c, Q, E⟩ := X
  obtain ⟨hx, hb, hml, hown, hts, hK, hr, hlk, hE, hnm, hrm, hz⟩ := hO
  intro H locs ls hl hP hS
  exact lv_iadd hx hb dc (k H locs ls hl hP hS)
theorem R_isub {x y : Int32} (hO : OKX X z d M) (dc : decode M.2.1 pc = .ok (.isub, 1)) (k : R X M (pc + 1) L (.int (x - y) :: st) h cs sl) : R X M pc L (.int y :: .int x :: st) h cs sl := by
  obtain ⟨p, l, e, Rm, s, m, args, below, meth, c, Q, E⟩ := X
  obtain ⟨hx, hb, hml, hown, hts, hK, hr, hlk, hE, hnm, hrm, hz⟩ := hO
  intro H locs ls hl hP hS
  exact lv_isub hx hb dc (k H locs ls hl hP hS)
theorem R_imul {x y : Int32} (hO : OKX X z d M) (dc : decode M.2.1 pc = .ok (.imul, 1)) (k : R X M (pc + 1) L (.int (x * y) :: st) h cs sl) : R X M pc L (.int y :: .int x :: st) h cs sl := by
  obtain ⟨p, l, e, Rm, s, m, args, below, meth, c, Q, E⟩ := X
  obtain ⟨hx, hb, hml, hown, hts, hK, hr, hlk, hE, hnm, hrm, hz⟩ := hO
  intro H locs ls hl hP hS
  exact lv_imul hx hb dc (k H locs ls hl hP hS)
theorem R_iand {x y : Int32} (hO : OKX X z d M) (dc : decode M.2.1 pc = .ok (.iand, 1)) (k : R X M (pc + 1) L (.int (x &&& y) :: st) h cs sl) : R X M pc L (.int y :: .int x :: st) h cs sl := by
  obtain ⟨p, l, e, Rm, s, m, args, below, meth, c, Q, E⟩ := X
  obtain ⟨hx, hb, hml, hown, hts, hK, hr, hlk, hE, hnm, hrm, hz⟩ := hO
  intro H locs ls hl hP hS
  exact lv_iand hx hb dc (k H locs ls hl hP hS)
theorem R_ior {x y : Int32} (hO : OKX X z d M) (dc : decode M.2.1 pc = .ok (.ior, 1)) (k : R X M (pc + 1) L (.int (x ||| y) :: st) h cs sl) : R X M pc L (.int y :: .int x :: st) h cs sl := by
  obtain ⟨p, l, e, Rm, s, m, args, below, meth, c, Q, E⟩ := X
  obtain ⟨hx, hb, hml, hown, hts, hK, hr, hlk, hE, hnm, hrm, hz⟩ := hO
  intro H locs ls hl hP hS
  exact lv_ior hx hb dc (k H locs ls hl hP hS)
theorem R_ixor {x y : Int32} (hO : OKX X z d M) (dc : decode M.2.1 pc = .ok (.ixor, 1)) (k : R X M (pc + 1) L (.int (x ^^^ y) :: st) h cs sl) : R X M pc L (.int y :: .int x :: st) h cs sl := by
  obtain ⟨p, l, e, Rm, s, m, args, below, meth, c, Q, E⟩ := X
  obtain ⟨hx, hb, hml, hown, hts, hK, hr, hlk, hE, hnm, hrm, hz⟩ := hO
  intro H locs ls hl hP hS
  exact lv_ixor hx hb dc (k H locs ls hl hP hS)
theorem R_ishl {x y : Int32} (hO : OKX X z d M) (dc : decode M.2.1 pc = .ok (.ishl, 1)) (k : R X M (pc + 1) L (.int (x <<< (y &&& 31)) :: st) h cs sl) : R X M pc L (.int y :: .int x :: st) h cs sl := by
  obtain ⟨p, l, e, Rm, s, m, args, below, meth, c, Q, E⟩ := X
  obtain ⟨hx, hb, hml, hown, hts, hK, hr, hlk, hE, hnm, hrm, hz⟩ := hO
  intro H locs ls hl hP hS
  exact lv_ishl hx hb dc (k H locs ls hl hP hS)
theorem R_ishr {x y : Int32} (hO : OKX X z d M) (dc : decode M.2.1 pc = .ok (.ishr, 1)) (k : R X M (pc + 1) L (.int (x >>> (y &&& 31)) :: st) h cs sl) : R X M pc L (.int y :: .int x :: st) h cs sl := by
  obtain ⟨p, l, e, Rm, s, m, args, below, meth, c, Q, E⟩ := X
  obtain ⟨hx, hb, hml, hown, hts, hK, hr, hlk, hE, hnm, hrm, hz⟩ := hO
  intro H locs ls hl hP hS
  exact lv_ishr hx hb dc (k H locs ls hl hP hS)
theorem R_iushr {x y : Int32} (hO : OKX X z d M) (dc : decode M.2.1 pc = .ok (.iushr, 1)) (k : R X M (pc + 1) L (.int ((x.toUInt32 >>> (y.toUInt32 &&& Int32.toUInt32 31)).toInt32) :: st) h cs sl) : R X M pc L (.int y :: .int x :: st) h cs sl := by
  obtain ⟨p, l, e, Rm, s, m, args, below, meth, c, Q, E⟩ := X
  obtain ⟨hx, hb, hml, hown, hts, hK, hr, hlk, hE, hnm, hrm, hz⟩ := hO
  intro H locs ls hl hP hS
  exact lv_iushr hx hb dc rfl (k H locs ls hl hP hS)
theorem R_idiv {x y : Int32} (hO : OKX X z d M) (dc : decode M.2.1 pc = .ok (.idiv, 1)) (hne : ¬ y = 0) (k : R X M (pc + 1) L (.int (x / y) :: st) h cs sl) : R X M pc L (.int y :: .int x :: st) h cs sl := by
  obtain ⟨p, l, e, Rm, s, m, args, below, meth, c, Q, E⟩ := X
  obtain ⟨hx, hb, hml, hown, hts, hK, hr, hlk, hE, hnm, hrm, hz⟩ := hO
  intro H locs ls hl hP hS
  exact lv_idiv hx hb dc hne (k H locs ls hl hP hS)
theorem R_irem {x y : Int32} (hO : OKX X z d M) (dc : decode M.2.1 pc = .ok (.irem, 1)) (hne : ¬ y = 0) (k : R X M (pc + 1) L (.int (x - x / y * y) :: st) h cs sl) : R X M pc L (.int y :: .int x :: st) h cs sl := by
  obtain ⟨p, l, e, Rm, s, m, args, below, meth, c, Q, E⟩ := X
  obtain ⟨hx, hb, hml, hown, hts, hK, hr, hlk, hE, hnm, hrm, hz⟩ := hO
  intro H locs ls hl hP hS
  exact lv_irem hx hb dc hne (k H locs ls hl hP hS)
theorem R_ladd {x y : Int64} (hO : OKX X z d M) (dc : decode M.2.1 pc = .ok (.ladd, 1)) (k : R X M (pc + 1) L (.long (x + y) :: st) h cs sl) : R X M pc L (.long y :: .long x :: st) h cs sl := by
  obtain ⟨p, l, e, Rm, s, m, args, below, meth, c, Q, E⟩ := X
  obtain ⟨hx, hb, hml, hown, hts, hK, hr, hlk, hE, hnm, hrm, hz⟩ := hO
  intro H locs ls hl hP hS
  exact lv_ladd hx hb dc (k H locs ls hl hP hS)
theorem R_lsub {x y : Int64} (hO : OKX X z d M) (dc : decode M.2.1 pc = .ok (.lsub, 1)) (k : R X M (pc + 1) L (.long (x - y) :: st) h cs sl) : R X M pc L (.long y :: .long x :: st) h cs sl := by
  obtain ⟨p, l, e, Rm, s, m, args, below, meth, c, Q, E⟩ := X
  obtain ⟨hx, hb, hml, hown, hts, hK, hr, hlk, hE, hnm, hrm, hz⟩ := hO
  intro H locs ls hl hP hS
  exact lv_lsub hx hb dc (k H locs ls hl hP hS)
theorem R_lmul {x y : Int64} (hO : OKX X z d M) (dc : decode M.2.1 pc = .ok (.lmul, 1)) (k : R X M (pc + 1) L (.long (x * y) :: st) h cs sl) : R X M pc L (.long y :: .long x :: st) h cs sl := by
  obtain ⟨p, l, e, Rm, s, m, args, below, meth, c, Q, E⟩ := X
  obtain ⟨hx, hb, hml, hown, hts, hK, hr, hlk, hE, hnm, hrm, hz⟩ := hO
  intro H locs ls hl hP hS
  exact lv_lmul hx hb dc (k H locs ls hl hP hS)
theorem R_ldiv {x y : Int64} (hO : OKX X z d M) (dc : decode M.2.1 pc = .ok (.ldiv, 1)) (hne : ¬ y = 0) (k : R X M (pc + 1) L (.long (x / y) :: st) h cs sl) : R X M pc L (.long y :: .long x :: st) h cs sl := by
  obtain ⟨p, l, e, Rm, s, m, args, below, meth, c, Q, E⟩ := X
  obtain ⟨hx, hb, hml, hown, hts, hK, hr, hlk, hE, hnm, hrm, hz⟩ := hO
  intro H locs ls hl hP hS
  exact lv_ldiv hx hb dc hne (k H locs ls hl hP hS)
theorem R_lrem {x y : Int64} (hO : OKX X z d M) (dc : decode M.2.1 pc = .ok (.lrem, 1)) (hne : ¬ y = 0) (k : R X M (pc + 1) L (.long (x - x / y * y) :: st) h cs sl) : R X M pc L (.long y :: .long x :: st) h cs sl := by
  obtain ⟨p, l, e, Rm, s, m, args, below, meth, c, Q, E⟩ := X
  obtain ⟨hx, hb, hml, hown, hts, hK, hr, hlk, hE, hnm, hrm, hz⟩ := hO
  intro H locs ls hl hP hS
  exact lv_lrem hx hb dc hne (k H locs ls hl hP hS)
theorem R_lcmp {x y : Int64} (hO : OKX X z d M) (dc : decode M.2.1 pc = .ok (.lcmp, 1)) (k : R X M (pc + 1) L (.int (lg_cmp x y) :: st) h cs sl) : R X M pc L (.long y :: .long x :: st) h cs sl := by
  obtain ⟨p, l, e, Rm, s, m, args, below, meth, c, Q, E⟩ := X
  obtain ⟨hx, hb, hml, hown, hts, hK, hr, hlk, hE, hnm, hrm, hz⟩ := hO
  intro H locs ls hl hP hS
  exact W.lcmp hx hb dc (k H locs ls hl hP hS)
theorem R_ineg {x : Int32} (hO : OKX X z d M) (dc : decode M.2.1 pc = .ok (.ineg, 1)) (k : R X M (pc + 1) L (.int (-x) :: st) h cs sl) : R X M pc L (.int x :: st) h cs sl := by
  obtain ⟨p, l, e, Rm, s, m, args, below, meth, c, Q, E⟩ := X
  obtain ⟨hx, hb, hml, hown, hts, hK, hr, hlk, hE, hnm, hrm, hz⟩ := hO
  intro H locs ls hl hP hS
  exact lv_ineg hx hb dc (k H locs ls hl hP hS)
theorem R_i2l {x : Int32} (hO : OKX X z d M) (dc : decode M.2.1 pc = .ok (.i2l, 1)) (k : R X M (pc + 1) L (.long (x.toInt64) :: st) h cs sl) : R X M pc L (.int x :: st) h cs sl := by
  obtain ⟨p, l, e, Rm, s, m, args, below, meth, c, Q, E⟩ := X
  obtain ⟨hx, hb, hml, hown, hts, hK, hr, hlk, hE, hnm, hrm, hz⟩ := hO
  intro H locs ls hl hP hS
  exact lv_i2l hx hb dc rfl (k H locs ls hl hP hS)
theorem R_l2i {x : Int64} (hO : OKX X z d M) (dc : decode M.2.1 pc = .ok (.l2i, 1)) (k : R X M (pc + 1) L (.int (x.toInt32) :: st) h cs sl) : R X M pc L (.long x :: st) h cs sl := by
  obtain ⟨p, l, e, Rm, s, m, args, below, meth, c, Q, E⟩ := X
  obtain ⟨hx, hb, hml, hown, hts, hK, hr, hlk, hE, hnm, hrm, hz⟩ := hO
  intro H locs ls hl hP hS
  exact lv_l2i hx hb dc rfl (k H locs ls hl hP hS)
theorem R_i2b {x : Int32} (hO : OKX X z d M) (dc : decode M.2.1 pc = .ok (.i2b, 1)) (k : R X M (pc + 1) L (.int (x.toInt8.toInt32) :: st) h cs sl) : R X M pc L (.int x :: st) h cs sl := by
  obtain ⟨p, l, e, Rm, s, m, args, below, meth, c, Q, E⟩ := X
  obtain ⟨hx, hb, hml, hown, hts, hK, hr, hlk, hE, hnm, hrm, hz⟩ := hO
  intro H locs ls hl hP hS
  exact lv_i2b hx hb dc rfl (k H locs ls hl hP hS)
theorem R_i2s {x : Int32} (hO : OKX X z d M) (dc : decode M.2.1 pc = .ok (.i2s, 1)) (k : R X M (pc + 1) L (.int (x.toInt16.toInt32) :: st) h cs sl) : R X M pc L (.int x :: st) h cs sl := by
  obtain ⟨p, l, e, Rm, s, m, args, below, meth, c, Q, E⟩ := X
  obtain ⟨hx, hb, hml, hown, hts, hK, hr, hlk, hE, hnm, hrm, hz⟩ := hO
  intro H locs ls hl hP hS
  exact lv_i2s hx hb dc rfl (k H locs ls hl hP hS)
theorem R_i2c {x : Int32} (hO : OKX X z d M) (dc : decode M.2.1 pc = .ok (.i2c, 1)) (k : R X M (pc + 1) L (.int ((x.toUInt32 % 65536).toInt32) :: st) h cs sl) : R X M pc L (.int x :: st) h cs sl := by
  obtain ⟨p, l, e, Rm, s, m, args, below, meth, c, Q, E⟩ := X
  obtain ⟨hx, hb, hml, hown, hts, hK, hr, hlk, hE, hnm, hrm, hz⟩ := hO
  intro H locs ls hl hP hS
  exact lv_i2c hx hb dc rfl (k H locs ls hl hP hS)
theorem R_dup {v : Value} (hO : OKX X z d M) (dc : decode M.2.1 pc = .ok (.dup, 1)) (hv : v.category = 1) (k : R X M (pc + 1) L (v :: v :: st) h cs sl) : R X M pc L (v :: st) h cs sl := by
  obtain ⟨p, l, e, Rm, s, m, args, below, meth, c, Q, E⟩ := X
  obtain ⟨hx, hb, hml, hown, hts, hK, hr, hlk, hE, hnm, hrm, hz⟩ := hO
  intro H locs ls hl hP hS
  exact lv_dup hx hb dc (by rw [tr_cat]; exact hv) (k H locs ls hl hP hS)
theorem R_pop {v : Value} (hO : OKX X z d M) (dc : decode M.2.1 pc = .ok (.pop, 1)) (hv : v.category = 1) (k : R X M (pc + 1) L (st) h cs sl) : R X M pc L (v :: st) h cs sl := by
  obtain ⟨p, l, e, Rm, s, m, args, below, meth, c, Q, E⟩ := X
  obtain ⟨hx, hb, hml, hown, hts, hK, hr, hlk, hE, hnm, hrm, hz⟩ := hO
  intro H locs ls hl hP hS
  exact lv_pop hx hb dc (by rw [tr_cat]; exact hv) (k H locs ls hl hP hS)
theorem R_dup2 {v u : Value} (hO : OKX X z d M) (dc : decode M.2.1 pc = .ok (.dup2, 1)) (hv : v.category = 1) (hu : u.category = 1) (k : R X M (pc + 1) L (v :: u :: v :: u :: st) h cs sl) : R X M pc L (v :: u :: st) h cs sl := by
  obtain ⟨p, l, e, Rm, s, m, args, below, meth, c, Q, E⟩ := X
  obtain ⟨hx, hb, hml, hown, hts, hK, hr, hlk, hE, hnm, hrm, hz⟩ := hO
  intro H locs ls hl hP hS
  exact lv_dup2_11 hx hb dc (by rw [tr_cat]; exact hv) (by rw [tr_cat]; exact hu) (k H locs ls hl hP hS)
theorem R_goto {off : Int} {tgt : Nat} (hO : OKX X z d M) (dc : decode M.2.1 pc = .ok (.goto off, 3)) (ht : (pc : Int) + off = (tgt : Int)) (k : R X M tgt L (st) h cs sl) : R X M pc L (st) h cs sl := by
  obtain ⟨p, l, e, Rm, s, m, args, below, meth, c, Q, E⟩ := X
  obtain ⟨hx, hb, hml, hown, hts, hK, hr, hlk, hE, hnm, hrm, hz⟩ := hO
  intro H locs ls hl hP hS
  exact lv_goto hx hb dc ht (k H locs ls hl hP hS)
theorem R_icmp_eq {x y : Int32} {off : Int} {tgt : Nat} (hO : OKX X z d M) (dc : decode M.2.1 pc = .ok (.if_icmp .eq off, 3)) (ht : (pc : Int) + off = (tgt : Int)) (kt : x = y → R X M tgt L st h cs sl) (kf : ¬ x = y → R X M (pc + 3) L st h cs sl) : R X M pc L (.int y :: .int x :: st) h cs sl := by
  obtain ⟨p, l, e, Rm, s, m, args, below, meth, c, Q, E⟩ := X
  obtain ⟨hx, hb, hml, hown, hts, hK, hr, hlk, hE, hnm, hrm, hz⟩ := hO
  intro H locs ls hl hP hS
  exact lv_icmp_eq hx hb dc ht (fun q => kt q H locs ls hl hP hS) (fun q => kf q H locs ls hl hP hS)
theorem R_icmp_ne {x y : Int32} {off : Int} {tgt : Nat} (hO : OKX X z d M) (dc : decode M.2.1 pc = .ok (.if_icmp .ne off, 3)) (ht : (pc : Int) + off = (tgt : Int)) (kt : ¬ x = y → R X M tgt L st h cs sl) (kf : x = y → R X M (pc + 3) L st h cs sl) : R X M pc L (.int y :: .int x :: st) h cs sl := by
  obtain ⟨p, l, e, Rm, s, m, args, below, meth, c, Q, E⟩ := X
  obtain ⟨hx, hb, hml, hown, hts, hK, hr, hlk, hE, hnm, hrm, hz⟩ := hO
  intro H locs ls hl hP hS
  exact lv_icmp_ne hx hb dc ht (fun q => kt q H locs ls hl hP hS) (fun q => kf q H locs ls hl hP hS)
theorem R_icmp_lt {x y : Int32} {off : Int} {tgt : Nat} (hO : OKX X z d M) (dc : decode M.2.1 pc = .ok (.if_icmp .lt off, 3)) (ht : (pc : Int) + off = (tgt : Int)) (kt : x < y → R X M tgt L st h cs sl) (kf : ¬ x < y → R X M (pc + 3) L st h cs sl) : R X M pc L (.int y :: .int x :: st) h cs sl := by
  obtain ⟨p, l, e, Rm, s, m, args, below, meth, c, Q, E⟩ := X
  obtain ⟨hx, hb, hml, hown, hts, hK, hr, hlk, hE, hnm, hrm, hz⟩ := hO
  intro H locs ls hl hP hS
  exact lv_icmp_lt hx hb dc ht (fun q => kt q H locs ls hl hP hS) (fun q => kf q H locs ls hl hP hS)
theorem R_icmp_ge {x y : Int32} {off : Int} {tgt : Nat} (hO : OKX X z d M) (dc : decode M.2.1 pc = .ok (.if_icmp .ge off, 3)) (ht : (pc : Int) + off = (tgt : Int)) (kt : y ≤ x → R X M tgt L st h cs sl) (kf : ¬ y ≤ x → R X M (pc + 3) L st h cs sl) : R X M pc L (.int y :: .int x :: st) h cs sl := by
  obtain ⟨p, l, e, Rm, s, m, args, below, meth, c, Q, E⟩ := X
  obtain ⟨hx, hb, hml, hown, hts, hK, hr, hlk, hE, hnm, hrm, hz⟩ := hO
  intro H locs ls hl hP hS
  exact lv_icmp_ge hx hb dc ht (fun q => kt q H locs ls hl hP hS) (fun q => kf q H locs ls hl hP hS)
theorem R_icmp_gt {x y : Int32} {off : Int} {tgt : Nat} (hO : OKX X z d M) (dc : decode M.2.1 pc = .ok (.if_icmp .gt off, 3)) (ht : (pc : Int) + off = (tgt : Int)) (kt : y < x → R X M tgt L st h cs sl) (kf : ¬ y < x → R X M (pc + 3) L st h cs sl) : R X M pc L (.int y :: .int x :: st) h cs sl := by
  obtain ⟨p, l, e, Rm, s, m, args, below, meth, c, Q, E⟩ := X
  obtain ⟨hx, hb, hml, hown, hts, hK, hr, hlk, hE, hnm, hrm, hz⟩ := hO
  intro H locs ls hl hP hS
  exact lv_icmp_gt hx hb dc ht (fun q => kt q H locs ls hl hP hS) (fun q => kf q H locs ls hl hP hS)
theorem R_icmp_le {x y : Int32} {off : Int} {tgt : Nat} (hO : OKX X z d M) (dc : decode M.2.1 pc = .ok (.if_icmp .le off, 3)) (ht : (pc : Int) + off = (tgt : Int)) (kt : x ≤ y → R X M tgt L st h cs sl) (kf : ¬ x ≤ y → R X M (pc + 3) L st h cs sl) : R X M pc L (.int y :: .int x :: st) h cs sl := by
  obtain ⟨p, l, e, Rm, s, m, args, below, meth, c, Q, E⟩ := X
  obtain ⟨hx, hb, hml, hown, hts, hK, hr, hlk, hE, hnm, hrm, hz⟩ := hO
  intro H locs ls hl hP hS
  exact lv_icmp_le hx hb dc ht (fun q => kt q H locs ls hl hP hS) (fun q => kf q H locs ls hl hP hS)
theorem R_if_eq {x : Int32} {off : Int} {tgt : Nat} (hO : OKX X z d M) (dc : decode M.2.1 pc = .ok (.ifCond .eq off, 3)) (ht : (pc : Int) + off = (tgt : Int)) (kt : x = 0 → R X M tgt L st h cs sl) (kf : ¬ x = 0 → R X M (pc + 3) L st h cs sl) : R X M pc L (.int x :: st) h cs sl := by
  obtain ⟨p, l, e, Rm, s, m, args, below, meth, c, Q, E⟩ := X
  obtain ⟨hx, hb, hml, hown, hts, hK, hr, hlk, hE, hnm, hrm, hz⟩ := hO
  intro H locs ls hl hP hS
  exact lv_if_eq hx hb dc ht (fun q => kt q H locs ls hl hP hS) (fun q => kf q H locs ls hl hP hS)
theorem R_if_ne {x : Int32} {off : Int} {tgt : Nat} (hO : OKX X z d M) (dc : decode M.2.1 pc = .ok (.ifCond .ne off, 3)) (ht : (pc : Int) + off = (tgt : Int)) (kt : ¬ x = 0 → R X M tgt L st h cs sl) (kf : x = 0 → R X M (pc + 3) L st h cs sl) : R X M pc L (.int x :: st) h cs sl := by
  obtain ⟨p, l, e, Rm, s, m, args, below, meth, c, Q, E⟩ := X
  obtain ⟨hx, hb, hml, hown, hts, hK, hr, hlk, hE, hnm, hrm, hz⟩ := hO
  intro H locs ls hl hP hS
  exact lv_if_ne hx hb dc ht (fun q => kt q H locs ls hl hP hS) (fun q => kf q H locs ls hl hP hS)
theorem R_if_lt {x : Int32} {off : Int} {tgt : Nat} (hO : OKX X z d M) (dc : decode M.2.1 pc = .ok (.ifCond .lt off, 3)) (ht : (pc : Int) + off = (tgt : Int)) (kt : x < 0 → R X M tgt L st h cs sl) (kf : ¬ x < 0 → R X M (pc + 3) L st h cs sl) : R X M pc L (.int x :: st) h cs sl := by
  obtain ⟨p, l, e, Rm, s, m, args, below, meth, c, Q, E⟩ := X
  obtain ⟨hx, hb, hml, hown, hts, hK, hr, hlk, hE, hnm, hrm, hz⟩ := hO
  intro H locs ls hl hP hS
  exact lv_if_lt hx hb dc ht (fun q => kt q H locs ls hl hP hS) (fun q => kf q H locs ls hl hP hS)
theorem R_if_ge {x : Int32} {off : Int} {tgt : Nat} (hO : OKX X z d M) (dc : decode M.2.1 pc = .ok (.ifCond .ge off, 3)) (ht : (pc : Int) + off = (tgt : Int)) (kt : 0 ≤ x → R X M tgt L st h cs sl) (kf : ¬ 0 ≤ x → R X M (pc + 3) L st h cs sl) : R X M pc L (.int x :: st) h cs sl := by
  obtain ⟨p, l, e, Rm, s, m, args, below, meth, c, Q, E⟩ := X
  obtain ⟨hx, hb, hml, hown, hts, hK, hr, hlk, hE, hnm, hrm, hz⟩ := hO
  intro H locs ls hl hP hS
  exact lv_if_ge hx hb dc ht (fun q => kt q H locs ls hl hP hS) (fun q => kf q H locs ls hl hP hS)
theorem R_if_gt {x : Int32} {off : Int} {tgt : Nat} (hO : OKX X z d M) (dc : decode M.2.1 pc = .ok (.ifCond .gt off, 3)) (ht : (pc : Int) + off = (tgt : Int)) (kt : 0 < x → R X M tgt L st h cs sl) (kf : ¬ 0 < x → R X M (pc + 3) L st h cs sl) : R X M pc L (.int x :: st) h cs sl := by
  obtain ⟨p, l, e, Rm, s, m, args, below, meth, c, Q, E⟩ := X
  obtain ⟨hx, hb, hml, hown, hts, hK, hr, hlk, hE, hnm, hrm, hz⟩ := hO
  intro H locs ls hl hP hS
  exact lv_if_gt hx hb dc ht (fun q => kt q H locs ls hl hP hS) (fun q => kf q H locs ls hl hP hS)
theorem R_if_le {x : Int32} {off : Int} {tgt : Nat} (hO : OKX X z d M) (dc : decode M.2.1 pc = .ok (.ifCond .le off, 3)) (ht : (pc : Int) + off = (tgt : Int)) (kt : x ≤ 0 → R X M tgt L st h cs sl) (kf : ¬ x ≤ 0 → R X M (pc + 3) L st h cs sl) : R X M pc L (.int x :: st) h cs sl := by
  obtain ⟨p, l, e, Rm, s, m, args, below, meth, c, Q, E⟩ := X
  obtain ⟨hx, hb, hml, hown, hts, hK, hr, hlk, hE, hnm, hrm, hz⟩ := hO
  intro H locs ls hl hP hS
  exact lv_if_le hx hb dc ht (fun q => kt q H locs ls hl hP hS) (fun q => kf q H locs ls hl hP hS)
theorem R_tsw {dflt lo hi : Int} {offs : Array Int} {len : Nat} {x : Int32} (hO : OKX X z d M) (dc : decode M.2.1 pc = .ok (.tableswitch dflt lo hi offs, len))
    (kt : ∀ (j : Nat) (off : Int), offs[j]? = some off → x.toInt = lo + j → ¬ hi < x.toInt → ∃ tgt : Nat, (pc : Int) + off = (tgt : Int) ∧ R X M tgt L st h cs sl) (hn : ∀ j : Nat, lo + j ≤ hi → ∃ off, offs[j]? = some off) {tgd : Nat} (hd : (pc : Int) + dflt = (tgd : Int)) (kf : (x.toInt < lo ∨ hi < x.toInt) → R X M tgd L st h cs sl) : R X M pc L (.int x :: st) h cs sl := by
  obtain ⟨p, l, e, Rm, s, m, args, below, meth, c, Q, E⟩ := X
  obtain ⟨hx, hb, hml, hown, hts, hK, hr, hlk, hE, hnm, hrm, hz⟩ := hO
  intro H locs ls hl hP hS
  by_cases c1 : x.toInt < lo
  · exact lv_tableOut hx hb dc (Or.inl c1) hd (kf (Or.inl c1) H locs ls hl hP hS)
  · by_cases c2 : hi < x.toInt
    · exact lv_tableOut hx hb dc (Or.inr c2) hd (kf (Or.inr c2) H locs ls hl hP hS)
    · obtain ⟨off, ho⟩ := hn (x.toInt - lo).toNat (by omega)
      obtain ⟨tgt, ht, k⟩ := kt _ off ho (by omega) c2
      exact lv_tableIn hx hb dc c1 c2 ho ht (k H locs ls hl hP hS)
theorem R_iret {x : Int32} {Qp : Option Value → AH → Prop} (hO : OKX X z d M) (hQ : OKQ X cs sl Qp) (dc : decode M.2.1 pc = .ok (.ireturn, 1)) (ht : M.2.2.2 = some .int) (hq : Qp (some (.int x)) h) : R X M pc L [.int x] h cs sl := by
  obtain ⟨p, l, e, Rm, s, m, args, below, meth, c, Q, E⟩ := X
  obtain ⟨hx, hb, hml, hown, hts, hK, hr, hlk, hE, hnm, hrm, hz⟩ := hO
  intro H locs ls hl hP hS
  obtain ⟨hQ, -, -⟩ := hQ
  subst hQ
  exact W.iret hx hb (hr.trans ht) (fun t ht hW => ⟨some (.int x), h, rfl, hq, by rw [ht]; exact hP, hS.F ht⟩) hS.2.2 dc hlk
theorem R_zret {x : Int32} {Qp : Option Value → AH → Prop} (hO : OKX X z d M) (hQ : OKQ X cs sl Qp) (dc : decode M.2.1 pc = .ok (.ireturn, 1)) (ht : M.2.2.2 = some .boolean) (hv : x = 0 ∨ x = 1) (hq : Qp (some (.int x)) h) : R X M pc L [.int x] h cs sl := by
  obtain ⟨p, l, e, Rm, s, m, args, below, meth, c, Q, E⟩ := X
  obtain ⟨hx, hb, hml, hown, hts, hK, hr, hlk, hE, hnm, hrm, hz⟩ := hO
  intro H locs ls hl hP hS
  obtain ⟨hQ, -, -⟩ := hQ
  subst hQ
  exact W.zret hx hb (hr.trans ht) (by rcases hv with rfl | rfl <;> rfl) (fun t ht hW => ⟨some (.int x), h, rfl, hq, by rw [ht]; exact hP, hS.F ht⟩) hS.2.2 dc hlk
theorem R_lret {x : Int64} {Qp : Option Value → AH → Prop} (hO : OKX X z d M) (hQ : OKQ X cs sl Qp) (dc : decode M.2.1 pc = .ok (.lreturn, 1)) (ht : M.2.2.2 = some .long) (hq : Qp (some (.long x)) h) : R X M pc L [.long x] h cs sl := by
  obtain ⟨p, l, e, Rm, s, m, args, below, meth, c, Q, E⟩ := X
  obtain ⟨hx, hb, hml, hown, hts, hK, hr, hlk, hE, hnm, hrm, hz⟩ := hO
  intro H locs ls hl hP hS
  obtain ⟨hQ, -, -⟩ := hQ
  subst hQ
  exact W.lret hx hb (hr.trans ht) (fun t ht hW => ⟨some (.long x), h, rfl, hq, by rw [ht]; exact hP, hS.F ht⟩) hS.2.2 dc hlk
theorem R_vret {Qp : Option Value → AH → Prop} (hO : OKX X z d M) (hQ : OKQ X cs sl Qp) (dc : decode M.2.1 pc = .ok (.return_, 1)) (ht : M.2.2.2 = none) (hq : Qp none h) : R X M pc L [] h cs sl := by
  obtain ⟨p, l, e, Rm, s, m, args, below, meth, c, Q, E⟩ := X
  obtain ⟨hx, hb, hml, hown, hts, hK, hr, hlk, hE, hnm, hrm, hz⟩ := hO
  intro H locs ls hl hP hS
  obtain ⟨hQ, -, -⟩ := hQ
  subst hQ
  exact W.vret hx hb (hr.trans ht) (fun t ht hW => ⟨none, h, rfl, hq, by rw [ht]; exact hP, hS.F ht⟩) hS.2.2 dc hlk
theorem R_aret {a : Nat} {nm : String} {Qp : Option Value → AH → Prop} (hO : OKX X z d M) (hQ : OKQ X cs sl Qp) (dc : decode M.2.1 pc = .ok (.areturn, 1)) (ht : M.2.2.2 = some (.object nm)) (hq : Qp (some (.ref a)) h) : R X M pc L [.ref a] h cs sl := by
  obtain ⟨p, l, e, Rm, s, m, args, below, meth, c, Q, E⟩ := X
  obtain ⟨hx, hb, hml, hown, hts, hK, hr, hlk, hE, hnm, hrm, hz⟩ := hO
  intro H locs ls hl hP hS
  obtain ⟨hQ, -, -⟩ := hQ
  subst hQ
  exact W.aret hx hb (hr.trans ht) (Or.inl ⟨nm, rfl⟩) (Or.inr ⟨_, rfl⟩) (fun t ht hW => ⟨some (.ref a), h, rfl, hq, by rw [ht]; exact hP, hS.F ht⟩) hS.2.2 dc hlk
theorem R_objInit {idx a : Nat} (hO : OKX X z d M) (dc : decode M.2.1 pc = .ok (.invokespecial idx, 3)) (hd : 0 < d) (hlink : Cond.methodLink M.1.cls idx objectInit ∈ TS) (hs : (st.map fun v => v.category).sum ≤ 8) (k : R X M (pc + 3) L st h cs sl) : R X M pc L (.ref a :: st) h cs sl := by
  obtain ⟨p, l, e, Rm, s, m, args, below, meth, c, Q, E⟩ := X
  obtain ⟨hx, hb, hml, hown, hts, hK, hr, hlk, hE, hnm, hrm, hz⟩ := hO
  intro H locs ls hl hP hS
  have e : ((st.map (tr E)).map fun v => v.category).sum = (st.map fun v => v.category).sum := by
    rw [List.map_map]; congr 1; apply List.map_congr_left; intro v _; exact tr_cat _ v
  refine W.objInit hx hb hown (hts _ hlink) (hts _ (TSi 89 (by decide +kernel) (by decide +kernel))) (hts _ (TSi 90 (by decide +kernel) (by decide +kernel))) rfl (by rw [hml]; exact hl.1) rfl dc (by omega) (by show 2 * 0 + _ + 12 ≤ _; rw [e]; omega) ?_
  exact k H locs ls hl hP hS
theorem R_mmax {idx : Nat} {x y : Int32} (hO : OKX X z d M) (dc : decode M.2.1 pc = .ok (.invokestatic idx, 3)) (hd : 0 < d) (hlink : Cond.methodLink M.1.cls idx Lib.Math.max.name ∈ TS) (hw : Cond.static Lib.Math.max.name ∈ TS ∧ Cond.initialized "java/lang/Math" ∈ TS ∧ Cond.code Lib.Math.max.name Lib.Math.max.code 2 (some .int) ∈ TS) (hs : (st.map fun v => v.category).sum ≤ 8) (hcc : cs ≤ X.2.2.2.1.cells ∧ sl ≤ X.2.2.2.1.slots) (k : R X M (pc + 3) L (.int (if x < y then y else x) :: st) h cs sl) : R X M pc L (.int y :: .int x :: st) h cs sl := by
  obtain ⟨p, l, e, Rm, s, m, args, below, meth, c, Q, E⟩ := X
  obtain ⟨hx, hb, hml, hown, hts, hK, hr, hlk, hE, hnm, hrm, hz⟩ := hO
  intro H locs ls hl hP hS
  have e : ((st.map (tr E)).map fun v => v.category).sum = (st.map fun v => v.category).sum := by
    rw [List.map_map]; congr 1; apply List.map_congr_left; intro v _; exact tr_cat _ v
  exact va_mmax hx hb (by rw [hml]; exact hl.1.symm) hown (hts _ hlink) (hts _ hw.1) (hts _ hw.2.1) (hts _ hw.2.2) (by omega) (by rw [e]; omega) (show cs ≤ Rm.cells from hcc.1) (show sl ≤ Rm.slots from hcc.2) dc (k H locs ls hl hP hS)
theorem R_mmin {idx : Nat} {x y : Int32} (hO : OKX X z d M) (dc : decode M.2.1 pc = .ok (.invokestatic idx, 3)) (hd : 0 < d) (hlink : Cond.methodLink M.1.cls idx Lib.Math.min.name ∈ TS) (hw : Cond.static Lib.Math.min.name ∈ TS ∧ Cond.initialized "java/lang/Math" ∈ TS ∧ Cond.code Lib.Math.min.name Lib.Math.min.code 2 (some .int) ∈ TS) (hs : (st.map fun v => v.category).sum ≤ 8) (hcc : cs ≤ X.2.2.2.1.cells ∧ sl ≤ X.2.2.2.1.slots) (k : R X M (pc + 3) L (.int (if y < x then y else x) :: st) h cs sl) : R X M pc L (.int y :: .int x :: st) h cs sl := by
  obtain ⟨p, l, e, Rm, s, m, args, below, meth, c, Q, E⟩ := X
  obtain ⟨hx, hb, hml, hown, hts, hK, hr, hlk, hE, hnm, hrm, hz⟩ := hO
  intro H locs ls hl hP hS
  have e : ((st.map (tr E)).map fun v => v.category).sum = (st.map fun v => v.category).sum := by
    rw [List.map_map]; congr 1; apply List.map_congr_left; intro v _; exact tr_cat _ v
  exact va_mmin hx hb (by rw [hml]; exact hl.1.symm) hown (hts _ hlink) (hts _ hw.1) (hts _ hw.2.1) (hts _ hw.2.2) (by omega) (by rw [e]; omega) (show cs ≤ Rm.cells from hcc.1) (show sl ≤ Rm.slots from hcc.2) dc (k H locs ls hl hP hS)
theorem R_mmaxL {idx : Nat} {x y : Int64} (hO : OKX X z d M) (dc : decode M.2.1 pc = .ok (.invokestatic idx, 3)) (hd : 0 < d) (hlink : Cond.methodLink M.1.cls idx Lib.MathLoose.max_long.x ∈ TS) (hw : Cond.static Lib.MathLoose.max_long.x ∈ TS ∧ Cond.initialized "java/lang/Math" ∈ TS ∧ Cond.code Lib.MathLoose.max_long.x Lib.MathLoose.max_long.code 4 (some .long) ∈ TS) (hs : (st.map fun v => v.category).sum ≤ 8) (hcc : cs ≤ X.2.2.2.1.cells ∧ sl ≤ X.2.2.2.1.slots) (k : R X M (pc + 3) L (.long (if y < x then x else y) :: st) h cs sl) : R X M pc L (.long y :: .long x :: st) h cs sl := by
  obtain ⟨p, l, e, Rm, s, m, args, below, meth, c, Q, E⟩ := X
  obtain ⟨hx, hb, hml, hown, hts, hK, hr, hlk, hE, hnm, hrm, hz⟩ := hO
  intro H locs ls hl hP hS
  have e : ((st.map (tr E)).map fun v => v.category).sum = (st.map fun v => v.category).sum := by
    rw [List.map_map]; congr 1; apply List.map_congr_left; intro v _; exact tr_cat _ v
  exact va_mmax_long hx hb (by rw [hml]; exact hl.1.symm) hown (hts _ hlink) (hts _ hw.1) (hts _ hw.2.1) (hts _ hw.2.2) (by omega) (by rw [e]; omega) (show cs ≤ Rm.cells from hcc.1) (show sl ≤ Rm.slots from hcc.2) dc (k H locs ls hl hP hS)
theorem R_sub {L2 : AL} (ks : List Nat) (hl2 : ks.filterMap (fun k => L[k]?) = L2) (k : R X M pc L2 st h cs sl) : R X M pc L st h cs sl := by
  obtain ⟨p, l, e, Rm, s, m, args, below, meth, c, Q, E⟩ := X
  intro H locs ls hl hP hS
  refine k H locs ls ⟨hl.1, hl.2.1, fun q hq => hl.2.2 q ?_⟩ hP hS
  obtain ⟨q0, hq0, rfl⟩ := List.mem_map.mp hq
  rw [← hl2] at hq0
  obtain ⟨i, -, hi⟩ := List.mem_filterMap.mp hq0
  exact List.mem_map.mpr ⟨q0, List.mem_of_getElem? hi, rfl⟩
end RULES
