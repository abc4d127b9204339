/-! PURE, 8: what both sides hold, as numbers; the relation; a call on both sides -/
def Sys : Type := (Nat → Nat) × Nat × (Nat → Nat → Nat) × (Nat → Nat → Nat) × Nat × (Nat → Int32) × Int32 × Int32 × (Nat → Bool) × (Nat → Nat) × (Nat → Nat) × (Nat → Nat → Int32) × Nat × (Nat → Int32)
def Sys.g (s : Sys) : Nat → Nat := s.1
def Sys.m (s : Sys) : Nat := s.2.1
def Sys.act (s : Sys) : Nat → Nat → Nat := s.2.2.1
def Sys.im (s : Sys) : Nat → Nat → Nat := s.2.2.2.1
def Sys.tl (s : Sys) : Nat := s.2.2.2.2.1
def Sys.tp (s : Sys) : Nat → Int32 := s.2.2.2.2.2.1
def Sys.flt (s : Sys) : Int32 := s.2.2.2.2.2.2.1
def Sys.sta (s : Sys) : Int32 := s.2.2.2.2.2.2.2.1
def Sys.gone (s : Sys) : Nat → Bool := s.2.2.2.2.2.2.2.2.1
def Sys.lane (s : Sys) : Nat → Nat := s.2.2.2.2.2.2.2.2.2.1
def Sys.size (s : Sys) : Nat → Nat := s.2.2.2.2.2.2.2.2.2.2.1
def Sys.item (s : Sys) : Nat → Nat → Int32 := s.2.2.2.2.2.2.2.2.2.2.2.1
def Sys.tn (s : Sys) : Nat := s.2.2.2.2.2.2.2.2.2.2.2.2.1
def Sys.tr (s : Sys) : Nat → Int32 := s.2.2.2.2.2.2.2.2.2.2.2.2.2
def Sys.w_g (s : Sys) (x : Nat → Nat) : Sys := (x, s.m, s.act, s.im, s.tl, s.tp, s.flt, s.sta, s.gone, s.lane, s.size, s.item, s.tn, s.tr)
def Sys.w_m (s : Sys) (x : Nat) : Sys := (s.g, x, s.act, s.im, s.tl, s.tp, s.flt, s.sta, s.gone, s.lane, s.size, s.item, s.tn, s.tr)
def Sys.w_act (s : Sys) (x : Nat → Nat → Nat) : Sys := (s.g, s.m, x, s.im, s.tl, s.tp, s.flt, s.sta, s.gone, s.lane, s.size, s.item, s.tn, s.tr)
def Sys.w_im (s : Sys) (x : Nat → Nat → Nat) : Sys := (s.g, s.m, s.act, x, s.tl, s.tp, s.flt, s.sta, s.gone, s.lane, s.size, s.item, s.tn, s.tr)
def Sys.w_tl (s : Sys) (x : Nat) : Sys := (s.g, s.m, s.act, s.im, x, s.tp, s.flt, s.sta, s.gone, s.lane, s.size, s.item, s.tn, s.tr)
def Sys.w_tp (s : Sys) (x : Nat → Int32) : Sys := (s.g, s.m, s.act, s.im, s.tl, x, s.flt, s.sta, s.gone, s.lane, s.size, s.item, s.tn, s.tr)
def Sys.w_flt (s : Sys) (x : Int32) : Sys := (s.g, s.m, s.act, s.im, s.tl, s.tp, x, s.sta, s.gone, s.lane, s.size, s.item, s.tn, s.tr)
def Sys.w_sta (s : Sys) (x : Int32) : Sys := (s.g, s.m, s.act, s.im, s.tl, s.tp, s.flt, x, s.gone, s.lane, s.size, s.item, s.tn, s.tr)
def Sys.w_gone (s : Sys) (x : Nat → Bool) : Sys := (s.g, s.m, s.act, s.im, s.tl, s.tp, s.flt, s.sta, x, s.lane, s.size, s.item, s.tn, s.tr)
def Sys.w_lane (s : Sys) (x : Nat → Nat) : Sys := (s.g, s.m, s.act, s.im, s.tl, s.tp, s.flt, s.sta, s.gone, x, s.size, s.item, s.tn, s.tr)
def Sys.w_size (s : Sys) (x : Nat → Nat) : Sys := (s.g, s.m, s.act, s.im, s.tl, s.tp, s.flt, s.sta, s.gone, s.lane, x, s.item, s.tn, s.tr)
def Sys.w_item (s : Sys) (x : Nat → Nat → Int32) : Sys := (s.g, s.m, s.act, s.im, s.tl, s.tp, s.flt, s.sta, s.gone, s.lane, s.size, x, s.tn, s.tr)
def Sys.w_tn (s : Sys) (x : Nat) : Sys := (s.g, s.m, s.act, s.im, s.tl, s.tp, s.flt, s.sta, s.gone, s.lane, s.size, s.item, x, s.tr)
def Sys.w_tr (s : Sys) (x : Nat → Int32) : Sys := (s.g, s.m, s.act, s.im, s.tl, s.tp, s.flt, s.sta, s.gone, s.lane, s.size, s.item, s.tn, x)
def SG (g : Nat → Nat) : Prop := SB g ∧ g 3 ≤ 999
def SysOk (s : Sys) : Prop := (SG s.g) ∧ (s.m ≤ 24) ∧ (∀ i, i < s.m → SG (s.act i) ∧ 1 ≤ s.act i 0) ∧ (0 < s.m → 1 ≤ s.g 0) ∧ (∀ i, i < 2 → SG (s.im i) ∧ (1 ≤ s.im i 0 → 1 ≤ s.g 0)) ∧ (s.tl ≤ 100) ∧ (∀ k, k < s.tl → rng (s.tp k) 0 255) ∧ (∀ r, r < 8 → s.lane r ≤ 2 ∧ s.size r ≤ 40) ∧ (s.tn ≤ 16)
theorem SysOk.og {s : Sys} (h : SysOk s) : SG s.g := h.1
theorem SysOk.om {s : Sys} (h : SysOk s) : s.m ≤ 24 := h.2.1
theorem SysOk.oa {s : Sys} (h : SysOk s) : ∀ i, i < s.m → SG (s.act i) ∧ 1 ≤ s.act i 0 := h.2.2.1
theorem SysOk.om1 {s : Sys} (h : SysOk s) : 0 < s.m → 1 ≤ s.g 0 := h.2.2.2.1
theorem SysOk.oi {s : Sys} (h : SysOk s) : ∀ i, i < 2 → SG (s.im i) ∧ (1 ≤ s.im i 0 → 1 ≤ s.g 0) := h.2.2.2.2.1
theorem SysOk.ot {s : Sys} (h : SysOk s) : s.tl ≤ 100 := h.2.2.2.2.2.1
theorem SysOk.otp {s : Sys} (h : SysOk s) : ∀ k, k < s.tl → rng (s.tp k) 0 255 := h.2.2.2.2.2.2.1
theorem SysOk.or {s : Sys} (h : SysOk s) : ∀ r, r < 8 → s.lane r ≤ 2 ∧ s.size r ≤ 40 := h.2.2.2.2.2.2.2.1
theorem SysOk.on {s : Sys} (h : SysOk s) : s.tn ≤ 16 := h.2.2.2.2.2.2.2.2
/-- one side -/
def C2 (σ : Mem) (m : Nat) (act : Nat → Nat → Nat) : Prop := ∃ o, o < 24 ∧ σ 13 1 = nI o ∧ σ 13 2 = nI m ∧ ∀ i, i < m → RS σ (15 + 4 * ((o + i) % 24)) (act i)
def C3 (σ : Mem) (im : Nat → Nat → Nat) : Prop := ∀ i, i < 2 → RS σ (175 + 4 * i) (im i)
def C4 (σ : Mem) (tl : Nat) (tp : Nat → Int32) : Prop := σ 2 1 = nI tl ∧ ∀ k, k < tl → σ 7 k = tp k
def C5 (σ : Mem) (flt sta : Int32) : Prop := σ 0 8 = flt ∧ σ 0 9 = sta ∧ σ 3 6 = nI 0 ∧ σ 3 7 = nI 0
def C6 (σ : Mem) (gone : Nat → Bool) (lane size : Nat → Nat) (item : Nat → Nat → Int32) : Prop := ∀ r, r < 8 → σ (159 + 2 * r) 1 = (if gone r then nI 1 else nI 0) ∧ (gone r = false → σ (159 + 2 * r) 2 = nI (lane r) ∧ σ (159 + 2 * r) 3 = nI (size r) ∧ ∀ k, k < 40 → σ (160 + 2 * r) k = item r k)
def C7 (σ : Mem) (tn : Nat) (tr : Nat → Int32) : Prop := σ 157 1 = nI tn ∧ ∀ k, k < tn → σ 158 k = tr k
def CI (σ : Mem) (s : Sys) : Prop := (RS σ 8 s.g) ∧ (C2 σ s.m s.act) ∧ (C3 σ s.im) ∧ (C4 σ s.tl s.tp) ∧ (C5 σ s.flt s.sta) ∧ (C6 σ s.gone s.lane s.size s.item) ∧ (C7 σ s.tn s.tr)
theorem CI.c1 {σ : Mem} {s : Sys} (h : CI σ s) : RS σ 8 s.g := h.1
theorem CI.c2 {σ : Mem} {s : Sys} (h : CI σ s) : C2 σ s.m s.act := h.2.1
theorem CI.c3 {σ : Mem} {s : Sys} (h : CI σ s) : C3 σ s.im := h.2.2.1
theorem CI.c4 {σ : Mem} {s : Sys} (h : CI σ s) : C4 σ s.tl s.tp := h.2.2.2.1
theorem CI.c5 {σ : Mem} {s : Sys} (h : CI σ s) : C5 σ s.flt s.sta := h.2.2.2.2.1
theorem CI.c6 {σ : Mem} {s : Sys} (h : CI σ s) : C6 σ s.gone s.lane s.size s.item := h.2.2.2.2.2.1
theorem CI.c7 {σ : Mem} {s : Sys} (h : CI σ s) : C7 σ s.tn s.tr := h.2.2.2.2.2.2
/-- the reference -/
def shm (σ : Mem) (a o : Nat) : Mem := fun _ k => σ a (o + k)
def R2 (σ : Mem) (m : Nat) (act : Nat → Nat → Nat) : Prop := σ 183 17 = nI m ∧ ∀ i, i < m → RA (shm σ 191 (29 * i)) 0 (act i)
def R3 (σ : Mem) (im : Nat → Nat → Nat) : Prop := ∀ i, i < 2 → σ 194 i = (if im i 0 = 0 then nI 0 else nI 1) ∧ RA (shm σ 195 (29 * i)) 0 (im i)
def R4 (σ : Mem) (tl : Nat) (tp : Nat → Int32) : Prop := σ 183 8 = nI tl ∧ ∀ k, k < tl → σ 189 k = tp k
def R5 (σ : Mem) (flt sta : Int32) : Prop := σ 183 9 = flt ∧ σ 183 3 = sta
def R6 (σ : Mem) (gone : Nat → Bool) (lane size : Nat → Nat) (item : Nat → Nat → Int32) : Prop := ∀ r, r < 8 → σ 185 r = (if gone r then -1 else nI (size r)) ∧ (gone r = false → σ 184 r = nI (lane r) ∧ ∀ k, k < 40 → σ 186 (40 * r + k) = item r k)
def R7 (σ : Mem) (tn : Nat) (tr : Nat → Int32) : Prop := σ 183 23 = nI tn ∧ ∀ k, k < tn → σ 196 k = tr k
def MI (σ : Mem) (s : Sys) : Prop := (RA σ 187 s.g) ∧ (σ 183 4 = (if s.g 0 = 0 then nI 0 else nI 1)) ∧ (R2 σ s.m s.act) ∧ (R3 σ s.im) ∧ (R4 σ s.tl s.tp) ∧ (R5 σ s.flt s.sta) ∧ (R6 σ s.gone s.lane s.size s.item) ∧ (R7 σ s.tn s.tr)
theorem MI.m1 {σ : Mem} {s : Sys} (h : MI σ s) : RA σ 187 s.g := h.1
theorem MI.m1b {σ : Mem} {s : Sys} (h : MI σ s) : σ 183 4 = (if s.g 0 = 0 then nI 0 else nI 1) := h.2.1
theorem MI.m2 {σ : Mem} {s : Sys} (h : MI σ s) : R2 σ s.m s.act := h.2.2.1
theorem MI.m3 {σ : Mem} {s : Sys} (h : MI σ s) : R3 σ s.im := h.2.2.2.1
theorem MI.m4 {σ : Mem} {s : Sys} (h : MI σ s) : R4 σ s.tl s.tp := h.2.2.2.2.1
theorem MI.m5 {σ : Mem} {s : Sys} (h : MI σ s) : R5 σ s.flt s.sta := h.2.2.2.2.2.1
theorem MI.m6 {σ : Mem} {s : Sys} (h : MI σ s) : R6 σ s.gone s.lane s.size s.item := h.2.2.2.2.2.2.1
theorem MI.m7 {σ : Mem} {s : Sys} (h : MI σ s) : R7 σ s.tn s.tr := h.2.2.2.2.2.2.2
/-- what is left alone -/
theorem RS.fr {σ τ : Mem} {b : Nat} {g : Nat → Nat} (h : RS σ b g) (e : ∀ a, b ≤ a → a ≤ b + 3 → τ a = σ a) : RS τ b g := by
  unfold RS
  rw [e b (by omega) (by omega), e (b + 1) (by omega) (by omega), e (b + 2) (by omega) (by omega), e (b + 3) (by omega) (by omega)]
  exact h
theorem RA.fr {σ τ : Mem} {a : Nat} {g : Nat → Nat} (h : RA σ a g) (e : τ a = σ a) : RA τ a g := by
  unfold RA
  rw [e]
  exact h
theorem C2.fr {σ τ : Mem} {m : Nat} {act : Nat → Nat → Nat} (h : C2 σ m act) (e : ∀ a, 13 ≤ a → a ≤ 110 → τ a = σ a) : C2 τ m act := by
  obtain ⟨o, h1, h2, h3, h4⟩ := h
  refine ⟨o, h1, by rw [e 13 (by omega) (by omega)]; exact h2, by rw [e 13 (by omega) (by omega)]; exact h3, fun i hi => (h4 i hi).fr fun a h5 h6 => e a (by omega) (by omega)⟩
theorem C3.fr {σ τ : Mem} {im : Nat → Nat → Nat} (h : C3 σ im) (e : ∀ a, 175 ≤ a → a ≤ 182 → τ a = σ a) : C3 τ im := fun i hi => (h i hi).fr fun a h5 h6 => e a (by omega) (by omega)
theorem C4.fr {σ τ : Mem} {tl : Nat} {tp : Nat → Int32} (h : C4 σ tl tp) (e2 : τ 2 = σ 2) (e7 : τ 7 = σ 7) : C4 τ tl tp := by
  unfold C4
  rw [e2, e7]
  exact h
theorem C5.fr {σ τ : Mem} {a b : Int32} (h : C5 σ a b) (e : τ 0 = σ 0) (e3 : τ 3 = σ 3) : C5 τ a b := by
  unfold C5
  rw [e, e3]
  exact h
theorem C6.fr {σ τ : Mem} {gone : Nat → Bool} {lane size : Nat → Nat} {item : Nat → Nat → Int32} (h : C6 σ gone lane size item) (e : ∀ a, 159 ≤ a → a ≤ 174 → τ a = σ a) : C6 τ gone lane size item := by
  intro r hr
  rw [e (159 + 2 * r) (by omega) (by omega), e (160 + 2 * r) (by omega) (by omega)]
  exact h r hr
theorem C7.fr {σ τ : Mem} {tn : Nat} {tr : Nat → Int32} (h : C7 σ tn tr) (e1 : τ 157 = σ 157) (e2 : τ 158 = σ 158) : C7 τ tn tr := by
  unfold C7
  rw [e1, e2]
  exact h
theorem CI.fr {σ τ : Mem} {s : Sys} (h : CI σ s) (hF : Fr (fun a => 111 ≤ a ∧ a ≤ 156 ∨ 183 ≤ a) σ τ) : CI τ s := by
  refine ⟨h.c1.fr fun a h1 h2 => hF a (by omega), h.c2.fr fun a h1 h2 => hF a (by omega), h.c3.fr fun a h1 h2 => hF a (by omega), h.c4.fr (hF 2 (by omega)) (hF 7 (by omega)), h.c5.fr (hF 0 (by omega)) (hF 3 (by omega)), h.c6.fr fun a h1 h2 => hF a (by omega), h.c7.fr (hF 157 (by omega)) (hF 158 (by omega))⟩
theorem shm_eq {σ τ : Mem} {a o : Nat} (e : τ a = σ a) : shm τ a o = shm σ a o := by
  unfold shm
  rw [e]
theorem R2.fr {σ τ : Mem} {m : Nat} {act : Nat → Nat → Nat} (h : R2 σ m act) (e1 : τ 183 = σ 183) (e2 : τ 191 = σ 191) : R2 τ m act := by
  unfold R2
  rw [e1]
  refine ⟨h.1, fun i hi => ?_⟩
  rw [shm_eq e2]
  exact h.2 i hi
theorem R3.fr {σ τ : Mem} {im : Nat → Nat → Nat} (h : R3 σ im) (e1 : τ 194 = σ 194) (e2 : τ 195 = σ 195) : R3 τ im := by
  intro i hi
  rw [e1, shm_eq e2]
  exact h i hi
theorem R4.fr {σ τ : Mem} {tl : Nat} {tp : Nat → Int32} (h : R4 σ tl tp) (e2 : τ 183 = σ 183) (e7 : τ 189 = σ 189) : R4 τ tl tp := by
  unfold R4
  rw [e2, e7]
  exact h
theorem R6.fr {σ τ : Mem} {gone : Nat → Bool} {lane size : Nat → Nat} {item : Nat → Nat → Int32} (h : R6 σ gone lane size item) (e1 : τ 184 = σ 184) (e2 : τ 185 = σ 185) (e3 : τ 186 = σ 186) : R6 τ gone lane size item := by
  unfold R6
  rw [e1, e2, e3]
  exact h
theorem R7.fr {σ τ : Mem} {tn : Nat} {tr : Nat → Int32} (h : R7 σ tn tr) (e1 : τ 183 = σ 183) (e2 : τ 196 = σ 196) : R7 τ tn tr := by
  unfold R7
  rw [e1, e2]
  exact h
theorem MI.fr {σ τ : Mem} {s : Sys} (h : MI σ s) (hF : Fr (fun a => a < 183 ∨ a = 188 ∨ a = 190 ∨ a = 192 ∨ a = 193) σ τ) : MI τ s := by
  have e3 := hF 183 (by omega)
  exact ⟨h.m1.fr (hF 187 (by omega)), by rw [e3]; exact h.m1b, h.m2.fr e3 (hF 191 (by omega)), h.m3.fr (hF 194 (by omega)) (hF 195 (by omega)), h.m4.fr e3 (hF 189 (by omega)), by unfold R5; rw [e3]; exact h.m5, h.m6.fr (hF 184 (by omega)) (hF 185 (by omega)) (hF 186 (by omega)), h.m7.fr e3 (hF 196 (by omega))⟩
/-- a call of the one, of the reference, of both -/
def XS (F : Mem → Option (Int32 × Mem)) (v : Int32) (s s' : Sys) : Prop := ∀ σ, CI σ s → ∃ τ, F σ = some (v, τ) ∧ CI τ s' ∧ Fr (fun a => a < 183) σ τ
def MS (G : Mem → Option (Int32 × Mem)) (v : Int32) (s s' : Sys) : Prop := ∀ σ, MI σ s → ∃ τ, G σ = some (v, τ) ∧ MI τ s' ∧ Fr (fun a => 183 ≤ a) σ τ
def BOTH (F G : Mem → Option (Int32 × Mem)) : Prop := ∀ s, SysOk s → ∃ v s', SysOk s' ∧ XS F v s s' ∧ MS G v s s'
theorem BOTH.go {F G : Mem → Option (Int32 × Mem)} (h : BOTH F G) {σ : Mem} {s : Sys} (hs : SysOk s) (hc : CI σ s) (hm : MI σ s) : ∃ v τ υ s', F σ = some (v, τ) ∧ G τ = some (v, υ) ∧ SysOk s' ∧ CI υ s' ∧ MI υ s' := by
  obtain ⟨v, s', h1, h2, h3⟩ := h s hs
  obtain ⟨τ, a1, a2, a3⟩ := h2 σ hc
  obtain ⟨υ, b1, b2, b3⟩ := h3 τ (hm.fr (a3.le fun a ha => Or.inl ha))
  exact ⟨v, τ, υ, s', a1, b1, h1, a2.fr (b3.le fun a ha => Or.inr ha), b2⟩
/-- a call that changes nothing -/
theorem XS.rf {F : Mem → Option (Int32 × Mem)} {v : Int32} {s : Sys} (h : ∀ σ, CI σ s → F σ = some (v, σ)) : XS F v s s := fun σ hc => ⟨σ, h σ hc, hc, Fr.rf⟩
theorem MS.rf {F : Mem → Option (Int32 × Mem)} {v : Int32} {s : Sys} (h : ∀ σ, MI σ s → F σ = some (v, σ)) : MS F v s s := fun σ hc => ⟨σ, h σ hc, hc, Fr.rf⟩
theorem BOTH.rf {F G : Mem → Option (Int32 × Mem)} {v : Sys → Int32} (h1 : ∀ s, SysOk s → ∀ σ, CI σ s → F σ = some (v s, σ)) (h2 : ∀ s, SysOk s → ∀ σ, MI σ s → G σ = some (v s, σ)) : BOTH F G := fun s hs => ⟨v s, s, hs, XS.rf (h1 s hs), MS.rf (h2 s hs)⟩
/-- at the beginning -/
def sys0 : Sys := (fun _ => 0, 0, fun _ _ => 0, fun _ _ => 0, 0, fun _ => 0, 0, 0, fun _ => true, fun _ => 0, fun _ => 0, fun _ _ => 0, 0, fun _ => 0)
theorem SG_0 : SG (fun _ => 0) := ⟨⟨Nat.zero_le _, Nat.zero_le _, Nat.zero_le _, by decide, fun h hh => absurd hh (Nat.not_lt_zero h)⟩, Nat.zero_le _⟩
theorem ok_0 : SysOk sys0 := ⟨SG_0, Nat.zero_le _, fun i hi => absurd hi (Nat.not_lt_zero i), fun h => absurd h (Nat.not_lt_zero 0), fun i _ => ⟨SG_0, fun h => absurd h (by show ¬ (1 ≤ 0); decide)⟩, Nat.zero_le _, fun k hk => absurd hk (Nat.not_lt_zero k), fun r _ => ⟨Nat.zero_le _, Nat.zero_le _⟩, Nat.zero_le _⟩
theorem M0_0 {p i : Nat} (h1 : p < 159 ∨ 175 ≤ p) (h2 : p ≠ 185) : M0 p i = 0 := by
  unfold M0
  rw [if_neg (by omega), if_neg (by omega)]
theorem ci_0 : CI M0 sys0 := by
  have z : ∀ b, b + 3 < 159 ∨ 175 ≤ b → b + 3 < 185 → RS M0 b (fun _ => 0) := fun b h1 h2 => ⟨⟨M0_0 (by omega) (by omega), M0_0 (by omega) (by omega), M0_0 (by omega) (by omega), M0_0 (by omega) (by omega), M0_0 (by omega) (by omega)⟩, fun h hh => absurd hh (Nat.not_lt_zero h)⟩
  refine ⟨z 8 (by omega) (by omega), ⟨0, by decide, M0_0 (by omega) (by omega), M0_0 (by omega) (by omega), fun i hi => absurd hi (Nat.not_lt_zero i)⟩, fun i hi => z (175 + 4 * i) (by omega) (by omega), ⟨M0_0 (by omega) (by omega), fun k hk => absurd hk (Nat.not_lt_zero k)⟩, ⟨M0_0 (by omega) (by omega), M0_0 (by omega) (by omega), M0_0 (by omega) (by omega), M0_0 (by omega) (by omega)⟩, fun r hr => ⟨?_, fun h => Bool.noConfusion h⟩, ⟨M0_0 (by omega) (by omega), fun k hk => absurd hk (Nat.not_lt_zero k)⟩⟩
  show M0 (159 + 2 * r) 1 = nI 1
  unfold M0
  rw [if_neg (by omega), if_pos (by omega)]
  rfl
theorem mi_0 : MI M0 sys0 := by
  have z : ∀ a o, 186 ≤ a → RA (shm M0 a o) 0 (fun _ => 0) := fun a o h1 => ⟨⟨M0_0 (by omega) (by omega), M0_0 (by omega) (by omega), M0_0 (by omega) (by omega), M0_0 (by omega) (by omega), M0_0 (by omega) (by omega)⟩, fun h hh => absurd hh (Nat.not_lt_zero h)⟩
  refine ⟨⟨⟨M0_0 (by omega) (by omega), M0_0 (by omega) (by omega), M0_0 (by omega) (by omega), M0_0 (by omega) (by omega), M0_0 (by omega) (by omega)⟩, fun h hh => absurd hh (Nat.not_lt_zero h)⟩, M0_0 (by omega) (by omega), ⟨M0_0 (by omega) (by omega), fun i hi => absurd hi (Nat.not_lt_zero i)⟩, fun i hi => ⟨M0_0 (by omega) (by omega), z 195 _ (by omega)⟩, ⟨M0_0 (by omega) (by omega), fun k hk => absurd hk (Nat.not_lt_zero k)⟩, ⟨M0_0 (by omega) (by omega), M0_0 (by omega) (by omega)⟩, fun r hr => ⟨?_, fun h => Bool.noConfusion h⟩, ⟨M0_0 (by omega) (by omega), fun k hk => absurd hk (Nat.not_lt_zero k)⟩⟩
  show M0 185 r = -1
  unfold M0
  rw [if_pos (by omega)]
