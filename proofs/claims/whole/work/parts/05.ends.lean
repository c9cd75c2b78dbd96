/-! the pure words: a state is a row of rows; partial answers; ends of methods; fields and rows of arrays -/
abbrev q_S : Type := Nat → Nat → Int32
abbrev q_G : Type := Nat → Int64
abbrev q_R : Type := Nat → Int32
def q_u (σ : q_S) (k j : Nat) (v : Int32) : q_S := fun k' => cond (Nat.beq k' k) (upd (σ k') j v) (σ k')
def q_uc (σ : q_S) (k : Nat) (f : q_R) : q_S := fun k' => cond (Nat.beq k' k) f (σ k')
def q_ul (g : q_G) (k : Nat) (v : Int64) : q_G := fun k' => cond (Nat.beq k' k) v (g k')
def q_ib (i : Int32) (n : Nat) : Bool := !(decide (i < 0)) && decide (i.toNatClampNeg < n)
theorem q_ib_in {i : Int32} {n : Nat} (h : q_ib i n = true) : vp_in i n := by
  simp only [q_ib, Bool.and_eq_true, Bool.not_eq_true', decide_eq_false_iff_not, decide_eq_true_eq] at h
  intro z
  rcases z with z | z
  · exact h.1 z
  · omega
def q_is (x : Int32) : Bool := decide (x = 0) || decide (x = 1)
def q_nz (x : Int32) : Bool := !(decide (x = 0))
def q_nzl (x : Int64) : Bool := !(decide (x = 0))
theorem q_is_in {x : Int32} (h : q_is x = true) : x = 0 ∨ x = 1 := by simpa [q_is] using h
theorem q_nz_in {x : Int32} (h : q_nz x = true) : ¬ x = 0 := by simpa [q_nz] using h
theorem q_nzl_in {x : Int64} (h : q_nzl x = true) : ¬ x = 0 := by simpa [q_nzl] using h
def q_gd {ρ : Type} (b : Bool) (k : Option ρ) : Option ρ := cond b k none
def q_b1 {α ρ : Type} (x : Option α) (f : α → Option ρ) : Option ρ := match x with
  | none => none
  | some a => f a
def q_b2 {α β ρ : Type} (x : Option (α × β)) (f : α → β → Option ρ) : Option ρ := match x with
  | none => none
  | some a => f a.1 a.2
def q_b3 {α β γ ρ : Type} (x : Option (α × β × γ)) (f : α → β → γ → Option ρ) : Option ρ := match x with
  | none => none
  | some a => f a.1 a.2.1 a.2.2
def q_lt {α ρ : Type} (e : α) (f : α → ρ) : ρ := f e
theorem q_o1 {α ρ : Type} {x : Option α} {f : α → Option ρ} {y : ρ} (h : q_b1 x f = some y) : ∃ a, x = some a ∧ f a = some y := by
  cases x with
  | none => cases h
  | some a => exact ⟨a, rfl, h⟩
theorem q_o2 {α β ρ : Type} {x : Option (α × β)} {f : α → β → Option ρ} {y : ρ} (h : q_b2 x f = some y) : ∃ a b, x = some (a, b) ∧ f a b = some y := by
  cases x with
  | none => cases h
  | some a => exact ⟨a.1, a.2, rfl, h⟩
theorem q_o3 {α β γ ρ : Type} {x : Option (α × β × γ)} {f : α → β → γ → Option ρ} {y : ρ} (h : q_b3 x f = some y) : ∃ a b c, x = some (a, b, c) ∧ f a b c = some y := by
  cases x with
  | none => cases h
  | some a => exact ⟨a.1, a.2.1, a.2.2, rfl, h⟩
theorem q_og {ρ : Type} {b : Bool} {k : Option ρ} {y : ρ} (h : q_gd b k = some y) : b = true ∧ k = some y := by
  cases b with
  | false => cases h
  | true => exact ⟨rfl, h⟩
theorem q_ol {α ρ : Type} {e : α} {f : α → ρ} {y : ρ} (h : q_lt e f = y) : ∃ x, x = e ∧ f x = y := ⟨e, rfl, h⟩
theorem q_i1 {ρ : Type} {c : Prop} [Decidable c] {a b : Option ρ} {y : ρ} (hc : c) (h : (if c then a else b) = some y) : a = some y := by rw [if_pos hc] at h; exact h
theorem q_i2 {ρ : Type} {c : Prop} [Decidable c] {a b : Option ρ} {y : ρ} (hc : ¬ c) (h : (if c then a else b) = some y) : b = some y := by rw [if_neg hc] at h; exact h
theorem q_nn {ρ : Type} {y : ρ} {G : Prop} (h : (none : Option ρ) = some y) : G := by cases h
/-- a class's table -/
def q_Cl (ci : Nat) (C : String) (T : u_T) (N : Nat) (ty0 : Nat → FieldType) : Prop := vwCl[ci]? = some (C, T, N) ∧ (∀ w ∈ u_ws C T N, w ∈ q_BIG) ∧ (∀ k, k < N → parseFieldDescriptor (T k).2.2.1 = some (ty0 k)) ∧ (∀ a, a < N → ∀ b, b < N → a ≠ b → (T a).2.1 ≠ (T b).2.1) ∧ ∀ k, k < N → (T k).1 = C
/-- a field's link: of one's own class, or a nest mate's -/
def q_FL (own : String) (index : Nat) (C n d : String) : Prop := Cond.fieldLink own index C n d ∈ q_BIG ∨ ∃ host : String, Cond.fieldLinkNest own index C n d host ∈ tables_1
section QE
variable {p : Program} {l : Launch} {e : Env} {R : Room} {s : State} {m : MethodId} {args : Array Value} {below : List Frame} {meth : Method} {c : Code} {H : Heap} {locs : List Loc} {cells slots : Nat} {Q : State → Prop}
variable {pc : Nat} {ls : Array Slot} {rest st0 : List Value} {a : Nat} {A : Nat → Prop} {E : q_E} {own : String} {cc : ByteArray} {nL : Nat} {ws ws1 : va_W}
theorem q_top {x z : Int32} (ex : x = z) (k : W p l e R s m args below meth c H locs cells slots Q (F0 m pc ls (.int x :: rest))) : W p l e R s m args below meth c H locs cells slots Q (F0 m pc ls (.int z :: rest)) := by
  subst ex; exact k
theorem q_topl {x z : Int64} (ex : x = z) (k : W p l e R s m args below meth c H locs cells slots Q (F0 m pc ls (.long x :: rest))) : W p l e R s m args below meth c H locs cells slots Q (F0 m pc ls (.long z :: rest)) := by
  subst ex; exact k
theorem q_rI {x v : Int32} (F : q_Fx p s m c E own cc nL) (hr : meth.sig.returnType = some .int) (hlk : meth.locks = false) (hdg : decode cc pc = .ok (.ireturn, 1)) (h : (some x : Option Int32) = some v) : W p l e R s m args below meth c s.heap [] 0 0 (MQ below (q_roQ (.int v)) args s 0 0 q_no) (F0 m pc ls [.int x]) := by
  cases h
  exact W.iret F.1 F.2.1 hr (fun t ht hW => ⟨rfl, ht⟩) (fun q h => by cases h) hdg (hlocks := hlk)
theorem q_nar {x : Int32} (h : x = 0 ∨ x = 1) : narrow .boolean (.int x) = .int x := by
  rcases h with rfl | rfl <;> rfl
theorem q_fitb {x : Int32} (h : x = 0 ∨ x = 1) : fits .boolean (.int x) = true := by
  rcases h with rfl | rfl <;> rfl
theorem q_rZ {x v : Int32} (F : q_Fx p s m c E own cc nL) (hr : meth.sig.returnType = some .boolean) (hlk : meth.locks = false) (hz : x = 0 ∨ x = 1) (hdg : decode cc pc = .ok (.ireturn, 1)) (h : (some x : Option Int32) = some v) : W p l e R s m args below meth c s.heap [] 0 0 (MQ below (q_roQ (.int v)) args s 0 0 q_no) (F0 m pc ls [.int x]) := by
  cases h
  exact W.zret F.1 F.2.1 hr (q_nar hz) (fun t ht hW => ⟨rfl, ht⟩) (fun q h => by cases h) hdg (hlocks := hlk)
theorem q_rL {x v : Int64} (F : q_Fx p s m c E own cc nL) (hr : meth.sig.returnType = some .long) (hlk : meth.locks = false) (hdg : decode cc pc = .ok (.lreturn, 1)) (h : (some x : Option Int64) = some v) : W p l e R s m args below meth c s.heap [] 0 0 (MQ below (q_roQ (.long v)) args s 0 0 q_no) (F0 m pc ls [.long x]) := by
  cases h
  exact W.lret F.1 F.2.1 hr (fun t ht hW => ⟨rfl, ht⟩) (fun q h => by cases h) hdg (hlocks := hlk)
theorem q_wI {v : Int32} (F : q_Fx p s m c E own cc nL) (hr : meth.sig.returnType = some .int) (hlk : meth.locks = false) (hdg : decode cc pc = .ok (.ireturn, 1)) (hP : va_P (q_D E) vwCl ws1 H) (hD : va_D A ws1) (hS : va_S A s.heap H locs) : W p l e R s m args below meth c H locs 0 0 (MQ below (q_muQ E A ws1 (some (.int v))) args s 0 0 A) (F0 m pc ls [.int v]) :=
  W.iret F.1 F.2.1 hr (fun t ht hW => ⟨⟨rfl, by rw [ht]; exact hP, hD⟩, hS.F ht⟩) hS.2.2 hdg (hlocks := hlk)
theorem q_wZ {v : Int32} (F : q_Fx p s m c E own cc nL) (hr : meth.sig.returnType = some .boolean) (hlk : meth.locks = false) (hz : v = 0 ∨ v = 1) (hdg : decode cc pc = .ok (.ireturn, 1)) (hP : va_P (q_D E) vwCl ws1 H) (hD : va_D A ws1) (hS : va_S A s.heap H locs) : W p l e R s m args below meth c H locs 0 0 (MQ below (q_muQ E A ws1 (some (.int v))) args s 0 0 A) (F0 m pc ls [.int v]) :=
  W.zret F.1 F.2.1 hr (q_nar hz) (fun t ht hW => ⟨⟨rfl, by rw [ht]; exact hP, hD⟩, hS.F ht⟩) hS.2.2 hdg (hlocks := hlk)
theorem q_wL {v : Int64} (F : q_Fx p s m c E own cc nL) (hr : meth.sig.returnType = some .long) (hlk : meth.locks = false) (hdg : decode cc pc = .ok (.lreturn, 1)) (hP : va_P (q_D E) vwCl ws1 H) (hD : va_D A ws1) (hS : va_S A s.heap H locs) : W p l e R s m args below meth c H locs 0 0 (MQ below (q_muQ E A ws1 (some (.long v))) args s 0 0 A) (F0 m pc ls [.long v]) :=
  W.lret F.1 F.2.1 hr (fun t ht hW => ⟨⟨rfl, by rw [ht]; exact hP, hD⟩, hS.F ht⟩) hS.2.2 hdg (hlocks := hlk)
theorem q_wV (F : q_Fx p s m c E own cc nL) (hr : meth.sig.returnType = none) (hlk : meth.locks = false) (hdg : decode cc pc = .ok (.return_, 1)) (hP : va_P (q_D E) vwCl ws1 H) (hD : va_D A ws1) (hS : va_S A s.heap H locs) : W p l e R s m args below meth c H locs 0 0 (MQ below (q_muQ E A ws1 none) args s 0 0 A) (F0 m pc ls []) :=
  W.vret F.1 F.2.1 hr (fun t ht hW => ⟨⟨rfl, by rw [ht]; exact hP, hD⟩, hS.F ht⟩) hS.2.2 hdg (hlocks := hlk)
theorem q_get {C : String} {T : u_T} {N ci index : Nat} {ty0 : Nat → FieldType} (F : q_Fx p s m c E own cc nL) (hC : q_Cl ci C T N ty0) (hP : va_P (q_D E) vwCl ws H) (q0 : Nat) {fs : List Value} (he : ws[q0]? = some (a, .inr (ci, fs))) (k : Nat) (hk : k < N) (hl : q_FL own index C (T k).2.1 (T k).2.2.1) {v : Value} (hv : fs[k]? = some v) (hdg : decode cc pc = .ok (.getfield index, 3))
    (kk : W p l e R s m args below meth c H locs cells slots Q (F0 m (pc + 3) ls (v :: rest))) : W p l e R s m args below meth c H locs cells slots Q (F0 m pc ls (.ref a :: rest)) := by
  obtain ⟨hx, hb, hml, hown, hB, hE⟩ := F
  obtain ⟨c1, c2, c3, c4, c5⟩ := hC
  have hts : ∀ w ∈ q_BIG, w.before args s = true := fun w h => hB w h args
  have hsame : ∀ x, s.fieldFound? (T k).1 (T k).2.1 (T k).2.2.1 = some x → s.fieldFound? C (T k).2.1 (T k).2.2.1 = some x := fun x h => by rw [c5 k hk] at h; exact h
  rcases hl with hl | ⟨host, hl⟩
  · exact va_get (C := C) (T := T) (N := N) hx hb hts c2 hown hE.1 hP q0 he c1 k hk (hB _ hl _) hsame hv hdg kk
  · exact va_getN (C := C) (T := T) (N := N) hx hb hts c2 hown hE.1 hP q0 he c1 k hk (va_Nw.use rfl (hE.2.1 _ hl rfl)) hsame hv hdg kk
theorem q_put {C : String} {T : u_T} {N ci index : Nat} {ty0 : Nat → FieldType} (F : q_Fx p s m c E own cc nL) (hC : q_Cl ci C T N ty0) (hP : va_P (q_D E) vwCl ws H) (hD : va_D A ws) (hS : va_S A s.heap H locs) (q0 : Nat) {fs : List Value} (he : ws[q0]? = some (a, .inr (ci, fs))) (k : Nat) (hk : k < N) (hl : q_FL own index C (T k).2.1 (T k).2.2.1) (hfin : (T k).2.2.2 = false) {v : Value} (hn : narrow (ty0 k) v = v) (hfit : fits (ty0 k) v = true) (hlen : k < fs.length) (hset : ws.set q0 (a, .inr (ci, fs.set k v)) = ws1) (hdg : decode cc pc = .ok (.putfield index, 3))
    (kk : ∀ (H1 : Heap) (locs1 : List Loc), va_P (q_D E) vwCl ws1 H1 → va_D A ws1 → va_S A s.heap H1 locs1 → W p l e R s m args below meth c H1 locs1 cells slots Q (F0 m (pc + 3) ls rest)) : W p l e R s m args below meth c H locs cells slots Q (F0 m pc ls (v :: .ref a :: rest)) := by
  obtain ⟨hx, hb, hml, hown, hB, hE⟩ := F
  obtain ⟨c1, c2, c3, c4, c5⟩ := hC
  have hts : ∀ w ∈ q_BIG, w.before args s = true := fun w h => hB w h args
  have hsame : ∀ x, s.fieldFound? (T k).1 (T k).2.1 (T k).2.2.1 = some x → s.fieldFound? C (T k).2.1 (T k).2.2.1 = some x := fun x h => by rw [c5 k hk] at h; exact h
  subst hset
  rcases hl with hl | ⟨host, hl⟩
  · exact va_put (C := C) (T := T) (N := N) hx hb hts c2 ty0 c3 c4 hown hE.1 hP hD hS q0 he c1 k hk (hB _ hl _) hsame hfin (c3 k hk) hn hfit hlen hdg kk
  · exact va_putN (C := C) (T := T) (N := N) hx hb hts c2 ty0 c3 c4 hown hE.1 hP hD hS q0 he c1 k hk (va_Nw.use rfl (hE.2.1 _ hl rfl)) hsame hfin (c3 k hk) hn hfit hlen hdg kk
theorem q_iald (F : q_Fx p s m c E own cc nL) (hP : va_P (q_D E) vwCl ws H) (q0 : Nat) {n : Nat} {f : q_R} (ha : ws[q0]? = some (a, .inl (q_cI E, n, .inl f))) {i : Int32} (hin : q_ib i n = true) (hdg : decode cc pc = .ok (.iaload, 1))
    (kk : W p l e R s m args below meth c H locs cells slots Q (F0 m (pc + 1) ls (.int (f i.toNatClampNeg) :: rest))) : W p l e R s m args below meth c H locs cells slots Q (F0 m pc ls (.int i :: .ref a :: rest)) :=
  va_iald F.1 F.2.1 F.2.2.2.2.2.1 hP q0 1 ha rfl (q_ib_in hin) hdg kk
theorem q_bald (F : q_Fx p s m c E own cc nL) (hP : va_P (q_D E) vwCl ws H) (q0 : Nat) {n : Nat} {f : q_R} (ha : ws[q0]? = some (a, .inl (q_cB E, n, .inl f))) {i : Int32} (hin : q_ib i n = true) (hdg : decode cc pc = .ok (.baload, 1))
    (kk : W p l e R s m args below meth c H locs cells slots Q (F0 m (pc + 1) ls (.int (f i.toNatClampNeg) :: rest))) : W p l e R s m args below meth c H locs cells slots Q (F0 m pc ls (.int i :: .ref a :: rest)) :=
  va_bald F.1 F.2.1 F.2.2.2.2.2.1 hP q0 0 ha rfl (q_ib_in hin) hdg kk
theorem q_zald (F : q_Fx p s m c E own cc nL) (hP : va_P (q_D E) vwCl ws H) (q0 : Nat) {n : Nat} {f : q_R} (ha : ws[q0]? = some (a, .inl (q_cZ E, n, .inl f))) {i : Int32} (hin : q_ib i n = true) (hdg : decode cc pc = .ok (.baload, 1))
    (kk : W p l e R s m args below meth c H locs cells slots Q (F0 m (pc + 1) ls (.int (f i.toNatClampNeg) :: rest))) : W p l e R s m args below meth c H locs cells slots Q (F0 m pc ls (.int i :: .ref a :: rest)) :=
  va_zald F.1 F.2.1 F.2.2.2.2.2.1 hP q0 2 ha rfl (q_ib_in hin) hdg kk
theorem q_iast (F : q_Fx p s m c E own cc nL) (hP : va_P (q_D E) vwCl ws H) (hD : va_D A ws) (hS : va_S A s.heap H locs) (q0 : Nat) {n : Nat} {f : q_R} (ha : ws[q0]? = some (a, .inl (q_cI E, n, .inl f))) {i x : Int32} (hin : q_ib i n = true) (hset : ws.set q0 (a, .inl (q_cI E, n, .inl (upd f i.toNatClampNeg x))) = ws1) (hdg : decode cc pc = .ok (.iastore, 1))
    (kk : ∀ (H1 : Heap) (locs1 : List Loc), va_P (q_D E) vwCl ws1 H1 → va_D A ws1 → va_S A s.heap H1 locs1 → W p l e R s m args below meth c H1 locs1 cells slots Q (F0 m (pc + 1) ls rest)) : W p l e R s m args below meth c H locs cells slots Q (F0 m pc ls (.int x :: .int i :: .ref a :: rest)) := by
  subst hset
  exact va_iast F.1 F.2.1 F.2.2.2.2.2.1 hP hD hS q0 1 ha rfl (q_ib_in hin) hdg kk
theorem q_bast (F : q_Fx p s m c E own cc nL) (hP : va_P (q_D E) vwCl ws H) (hD : va_D A ws) (hS : va_S A s.heap H locs) (q0 : Nat) {n : Nat} {f : q_R} (ha : ws[q0]? = some (a, .inl (q_cB E, n, .inl f))) {i x : Int32} (hin : q_ib i n = true) (hset : ws.set q0 (a, .inl (q_cB E, n, .inl (upd f i.toNatClampNeg (vp_nar .byte x)))) = ws1) (hdg : decode cc pc = .ok (.bastore, 1))
    (kk : ∀ (H1 : Heap) (locs1 : List Loc), va_P (q_D E) vwCl ws1 H1 → va_D A ws1 → va_S A s.heap H1 locs1 → W p l e R s m args below meth c H1 locs1 cells slots Q (F0 m (pc + 1) ls rest)) : W p l e R s m args below meth c H locs cells slots Q (F0 m pc ls (.int x :: .int i :: .ref a :: rest)) := by
  subst hset
  exact va_bast F.1 F.2.1 F.2.2.2.2.2.1 hP hD hS q0 0 ha rfl (q_ib_in hin) hdg kk
theorem q_zast (F : q_Fx p s m c E own cc nL) (hP : va_P (q_D E) vwCl ws H) (hD : va_D A ws) (hS : va_S A s.heap H locs) (q0 : Nat) {n : Nat} {f : q_R} (ha : ws[q0]? = some (a, .inl (q_cZ E, n, .inl f))) {i x : Int32} (hin : q_ib i n = true) (hset : ws.set q0 (a, .inl (q_cZ E, n, .inl (upd f i.toNatClampNeg (vp_nar .boolean x)))) = ws1) (hdg : decode cc pc = .ok (.bastore, 1))
    (kk : ∀ (H1 : Heap) (locs1 : List Loc), va_P (q_D E) vwCl ws1 H1 → va_D A ws1 → va_S A s.heap H1 locs1 → W p l e R s m args below meth c H1 locs1 cells slots Q (F0 m (pc + 1) ls rest)) : W p l e R s m args below meth c H locs cells slots Q (F0 m pc ls (.int x :: .int i :: .ref a :: rest)) := by
  subst hset
  exact va_zast F.1 F.2.1 F.2.2.2.2.2.1 hP hD hS q0 2 ha rfl (q_ib_in hin) hdg kk
theorem q_alen (F : q_Fx p s m c E own cc nL) (hP : va_P (q_D E) vwCl ws H) (q0 t0 : Nat) {cA : ClassId} {x : vp_A} (ha : ws[q0]? = some (a, .inl (cA, x))) {ty : FieldType} (ht : (q_tys E)[t0]? = some (cA, ty)) {v : Int32} (hv : Int32.ofNat x.1 = v) (hdg : decode cc pc = .ok (.arraylength, 1))
    (kk : W p l e R s m args below meth c H locs cells slots Q (F0 m (pc + 1) ls (.int v :: rest))) : W p l e R s m args below meth c H locs cells slots Q (F0 m pc ls (.ref a :: rest)) :=
  va_alen F.1 F.2.1 F.2.2.2.2.2.1 hP q0 t0 ha ht hv hdg kk
def q_Mm (own : String) (index : Nat) (y : MethodName) (cd : ByteArray) : Prop := Cond.methodLink own index y ∈ q_BIG ∧ Cond.static y ∈ q_BIG ∧ Cond.initialized "java/lang/Math" ∈ q_BIG ∧ Cond.code y cd 2 (some .int) ∈ q_BIG
theorem q_max {k index : Nat} (F : q_Fx p s m c E own cc nL) (hM : q_Mm own index Lib.Math.max.name Lib.Math.max.code) (hk : 1 ≤ k) (hl2 : ∃ lv, lv_has ls nL lv) (hW : (rest.map fun v => v.category).sum + 13 ≤ 64) {x y : Int32} (hdg : decode cc pc = .ok (.invokestatic index, 3))
    (kk : W p l e (q_rm k) s m args below meth c H locs 0 0 Q (F0 m (pc + 3) ls (.int (if x < y then y else x) :: rest))) : W p l e (q_rm k) s m args below meth c H locs 0 0 Q (F0 m pc ls (.int y :: .int x :: rest)) := by
  obtain ⟨hx, hb, hml, hown, hB, hE⟩ := F
  obtain ⟨lv, hl⟩ := hl2
  exact va_mmax hx hb (hml.trans hl.1.symm) hown (hB _ hM.1 _) (hB _ hM.2.1 _) (hB _ hM.2.2.1 _) (hB _ hM.2.2.2 _) hk (by show _ ≤ 64 * k; omega) (Nat.zero_le _) (Nat.zero_le _) hdg kk
theorem q_min {k index : Nat} (F : q_Fx p s m c E own cc nL) (hM : q_Mm own index Lib.Math.min.name Lib.Math.min.code) (hk : 1 ≤ k) (hl2 : ∃ lv, lv_has ls nL lv) (hW : (rest.map fun v => v.category).sum + 13 ≤ 64) {x y : Int32} (hdg : decode cc pc = .ok (.invokestatic index, 3))
    (kk : W p l e (q_rm k) s m args below meth c H locs 0 0 Q (F0 m (pc + 3) ls (.int (if y < x then y else x) :: rest))) : W p l e (q_rm k) s m args below meth c H locs 0 0 Q (F0 m pc ls (.int y :: .int x :: rest)) := by
  obtain ⟨hx, hb, hml, hown, hB, hE⟩ := F
  obtain ⟨lv, hl⟩ := hl2
  exact va_mmin hx hb (hml.trans hl.1.symm) hown (hB _ hM.1 _) (hB _ hM.2.1 _) (hB _ hM.2.2.1 _) (hB _ hM.2.2.2 _) hk (by show _ ≤ 64 * k; omega) (Nat.zero_le _) (Nat.zero_le _) hdg kk
def q_Ac (own : String) (index : Nat) : Prop := Cond.methodLink own index arraycopyName ∈ q_BIG ∧ Cond.native arraycopyName ∈ q_BIG ∧ Cond.static arraycopyName ∈ q_BIG ∧ Cond.initialized "java/lang/System" ∈ q_BIG
def q_cp (z : Bool) (f : q_R) (n0 n1 : Nat) (sp dp n : Int32) : Bool := !(decide (sp < 0)) && !(decide (dp < 0)) && !(decide (n < 0)) && decide (sp.toNatClampNeg + n.toNatClampNeg ≤ n0) && decide (dp.toNatClampNeg + n.toNatClampNeg ≤ n1) && (!z || (List.range n.toNatClampNeg).all (fun i => q_is (f (sp.toNatClampNeg + i))))
theorem q_cp_in {z : Bool} {f : q_R} {n0 n1 : Nat} {sp dp n : Int32} (h : q_cp z f n0 n1 sp dp n = true) : ¬ sp < 0 ∧ ¬ dp < 0 ∧ ¬ n < 0 ∧ sp.toNatClampNeg + n.toNatClampNeg ≤ n0 ∧ dp.toNatClampNeg + n.toNatClampNeg ≤ n1 ∧ (z = true → ∀ i, i < n.toNatClampNeg → f (sp.toNatClampNeg + i) = 0 ∨ f (sp.toNatClampNeg + i) = 1) := by
  simp only [q_cp, Bool.and_eq_true, Bool.not_eq_true', decide_eq_false_iff_not, decide_eq_true_eq] at h
  obtain ⟨⟨⟨⟨⟨h1, h2⟩, h3⟩, h4⟩, h5⟩, h6⟩ := h
  refine ⟨h1, h2, h3, h4, h5, fun hz i hi => ?_⟩
  subst hz
  rw [Bool.not_true, Bool.false_or] at h6
  exact q_is_in (List.all_eq_true.mp h6 i (List.mem_range.mpr hi))
theorem q_copyI {k index : Nat} (F : q_Fx p s m c E own cc nL) (hM : q_Ac own index) (hP : va_P (q_D E) vwCl ws H) (hD : va_D A ws) (hS : va_S A s.heap H locs) (q0 q1 : Nat) {a0 n0 n1 : Nat} {f g : q_R} (ha0 : ws[q0]? = some (a0, .inl (q_cI E, n0, .inl f))) (ha1 : ws[q1]? = some (a, .inl (q_cI E, n1, .inl g))) {sp dp n : Int32} (hg : q_cp false f n0 n1 sp dp n = true) (hk : 1 ≤ k) (hl2 : ∃ lv, lv_has ls nL lv) (hW : (rest.map fun v => v.category).sum ≤ 8)
    (hset : ws.set q1 (a, .inl (q_cI E, n1, .inl (va_cpy f g sp.toNatClampNeg dp.toNatClampNeg n.toNatClampNeg))) = ws1) (hdg : decode cc pc = .ok (.invokestatic index, 3))
    (kk : ∀ (H1 : Heap) (locs1 : List Loc), va_P (q_D E) vwCl ws1 H1 → va_D A ws1 → va_S A s.heap H1 locs1 → W p l e (q_rm k) s m args below meth c H1 locs1 cells slots Q (F0 m (pc + 3) ls rest)) : W p l e (q_rm k) s m args below meth c H locs cells slots Q (F0 m pc ls (.int n :: .int dp :: .ref a :: .int sp :: .ref a0 :: rest)) := by
  obtain ⟨hx, hb, hml, hown, hB, hE⟩ := F
  obtain ⟨lv, hl⟩ := hl2
  obtain ⟨h1, h2, h3, h4, h5, -⟩ := q_cp_in hg
  subst hset
  have hw : nativeFrameWords "java/lang/System" "arraycopy" 5 + 11 ≤ 56 := by decide
  exact va_copyi hx hb (hml.trans hl.1.symm) hown (hB _ hM.1 _) (hB _ hM.2.1 _) (hB _ hM.2.2.1 _) (hB _ hM.2.2.2 _) hE.1 hP hD hS q0 q1 1 1 ha0 ha1 rfl rfl rfl h1 h2 h3 h4 h5 (fun _ _ => rfl) hk (by show _ ≤ 64 * k; omega) hdg kk
theorem q_copyZ {k index : Nat} (F : q_Fx p s m c E own cc nL) (hM : q_Ac own index) (hP : va_P (q_D E) vwCl ws H) (hD : va_D A ws) (hS : va_S A s.heap H locs) (q0 q1 : Nat) {a0 n0 n1 : Nat} {f g : q_R} (ha0 : ws[q0]? = some (a0, .inl (q_cZ E, n0, .inl f))) (ha1 : ws[q1]? = some (a, .inl (q_cZ E, n1, .inl g))) {sp dp n : Int32} (hg : q_cp true f n0 n1 sp dp n = true) (hk : 1 ≤ k) (hl2 : ∃ lv, lv_has ls nL lv) (hW : (rest.map fun v => v.category).sum ≤ 8)
    (hset : ws.set q1 (a, .inl (q_cZ E, n1, .inl (va_cpy f g sp.toNatClampNeg dp.toNatClampNeg n.toNatClampNeg))) = ws1) (hdg : decode cc pc = .ok (.invokestatic index, 3))
    (kk : ∀ (H1 : Heap) (locs1 : List Loc), va_P (q_D E) vwCl ws1 H1 → va_D A ws1 → va_S A s.heap H1 locs1 → W p l e (q_rm k) s m args below meth c H1 locs1 cells slots Q (F0 m (pc + 3) ls rest)) : W p l e (q_rm k) s m args below meth c H locs cells slots Q (F0 m pc ls (.int n :: .int dp :: .ref a :: .int sp :: .ref a0 :: rest)) := by
  obtain ⟨hx, hb, hml, hown, hB, hE⟩ := F
  obtain ⟨lv, hl⟩ := hl2
  obtain ⟨h1, h2, h3, h4, h5, h6⟩ := q_cp_in hg
  subst hset
  have hw : nativeFrameWords "java/lang/System" "arraycopy" 5 + 11 ≤ 56 := by decide
  exact va_copyi hx hb (hml.trans hl.1.symm) hown (hB _ hM.1 _) (hB _ hM.2.1 _) (hB _ hM.2.2.1 _) (hB _ hM.2.2.2 _) hE.1 hP hD hS q0 q1 2 2 ha0 ha1 rfl rfl rfl h1 h2 h3 h4 h5 (fun i hi => q_fitb (h6 rfl i hi)) hk (by show _ ≤ 64 * k; omega) hdg kk
end QE
