/-! making: arrays, final fields, constructors -/
def q_rmN (d mc ms : Nat) : Room := { frames := d, cells := mc, slots := ms, locals := 64 * d }
def q_niQ (E : q_E) (A : Nat → Prop) (W1 : (Nat → Nat) → va_W) : Array Value → State → Outcome → State → Prop := fun _ st o t => (o = .returned none ∧ ∃ a : Nat → Nat, va_P (q_D E) vwCl (W1 a) t.heap ∧ va_D A (W1 a)) ∧ va_F A st t
/-- a constructor that makes the cells W1 out of the bare object -/
def q_NI (l : Launch) (E : q_E) (y : MethodName) (cc : ByteArray) (d mc ms : Nat) (h : Nat) (z : va_E) (W1 : (Nat → Nat) → va_W) (sz : Nat) : Prop :=
  Met l y (.code y cc 1 none :: q_BIG) (q_rmN d mc ms) (va_Pc [.ref h] (fun U => U.heap.size = sz ∧ q_EV E U ∧ va_P (q_D E) vwCl [(h, z)] U.heap ∧ va_D (fun q => q_lo E ≤ q) [(h, z)] ∧ q_lo E ≤ sz)) (q_niQ E (va_A [(h, z)] sz) W1) mc ms (va_A [(h, z)] sz)
theorem q_NI.intro {l : Launch} {E : q_E} {y : MethodName} {cc : ByteArray} {d mc ms : Nat} {h : Nat} {z : va_E} {W1 : (Nat → Nat) → va_W} {sz : Nat} (hy : plainName y.cls = true) (hyn : y.name = "<init>")
    (body : ∀ (p : Program) (e : Env) (s : State) (m : MethodId) (args : Array Value) (below : List Frame) (meth : Method) (c : Code) (A : Nat → Prop), q_CX p s m meth c E y cc 1 none → meth.name = "<init>" → va_P (q_D E) vwCl [(h, z)] s.heap → va_D A [(h, z)] → (∀ q, s.heap.size ≤ q → A q) → (∀ q, A q → q_lo E ≤ q) → q_lo E ≤ s.heap.size → ∀ ls : Array Slot, lv_has ls 1 [(0, .ref h)] → W p l e (q_rmN d mc ms) s m args below meth c s.heap [] 0 0 (MQ below (q_niQ E A W1) args s mc ms A) (F0 m 0 ls [])) : q_NI l E y cc d mc ms h z W1 sz := by
  refine Met.ofW (cc := cc) (maxL := 1) (ret := none) hy rfl ?_
  intro p e s m args below meth c s₁ B hml hv
  obtain ⟨rfl, hsz, hE, hP, hD, hlo⟩ := hv
  have hts := atoms_spec (ws := .code y cc 1 none :: q_BIG) B.pre
  have hin : ∀ (w : Cond), w ∈ q_BIG → ∀ a : Array Value, w.before a s = true := fun w hw a => by
    have hg := good_of_word (List.mem_filter.mp hw).2
    exact word_at (U := s) (by first | exact State.WarmedH.refl s | exact State.WarmedH.refl | exact State.WarmedH.rfl) hg (hts w (List.mem_cons_of_mem _ hw))
  rw [lg_entry_eq]
  subst hsz
  exact body p e s m _ below meth c (va_A [(h, z)] s.heap.size) ⟨B.exec, B.bytes, hml, B.returns, B.notSynchronized, findClass_of_methodNamed B.named, hin, hE⟩ ((name_of_methodNamed B.named B.method).1.trans hyn) hP hD.self (fun q h => Or.inr h) (fun q h => by
    rcases h with ⟨k, z, h⟩ | h
    · exact hD.2 k (q, z) h
    · exact Nat.le_trans hlo h) hlo _ (lv_entry [.ref h] (n := 1) (Nat.le_of_ble_eq_true rfl))
section QN
variable {p : Program} {l : Launch} {e : Env} {R : Room} {s : State} {m : MethodId} {args : Array Value} {below : List Frame} {meth : Method} {c : Code} {H : Heap} {locs : List Loc} {cells slots : Nat} {Q : State → Prop}
variable {pc : Nat} {ls : Array Slot} {rest st0 : List Value} {A : Nat → Prop} {E : q_E} {own : String} {index nL a : Nat} {cc : ByteArray} {ws ws1 : va_W}
theorem q_aI : Cond.arrayClass .int ∈ q_BIG := q_in (w := .arrayClass .int) (k := 104) (by decide +kernel) (by decide +kernel)
theorem q_aZ : Cond.arrayClass .boolean ∈ q_BIG := q_in (w := .arrayClass .boolean) (k := 732) (by decide +kernel) (by decide +kernel)
theorem q_aB : Cond.arrayClass .byte ∈ q_BIG := q_in (w := .arrayClass .byte) (k := 346) (by decide +kernel) (by decide +kernel)
theorem q_newI (F : q_Fx p s m c E own cc nL) (hP : va_P (q_D E) vwCl ws H) (hD : va_D A ws) (hS : va_S A s.heap H locs) (hA : ∀ q, s.heap.size ≤ q → A q) {n : Int32} {N : Nat} (hn : ¬ n < 0) (hN : n.toNatClampNeg = N) (hb : N ≤ 100) (hcells : cells + 1 ≤ R.cells) (hslots : slots + N ≤ R.slots) (hdg : decode cc pc = .ok (.newarray .int, 2))
    (kk : ∀ (q : Nat) (H1 : Heap), va_P (q_D E) vwCl (ws ++ [(q, .inl (q_cI E, N, .inl (fun _ => 0)))]) H1 → va_D A (ws ++ [(q, .inl (q_cI E, N, .inl (fun _ => 0)))]) → va_S A s.heap H1 locs → W p l e R s m args below meth c H1 locs (cells + 1) (slots + N) Q (F0 m (pc + 2) ls (.ref q :: rest))) : W p l e R s m args below meth c H locs cells slots Q (F0 m pc ls (.int n :: rest)) := by
  refine va_newa F.1 F.2.1 (atype := .int) (F.2.2.2.2.1 _ q_aI args) (ty := .int) rfl F.2.2.2.2.2.1 hP hD hS hA (a0 := (N, .inl (fun _ => 0))) (fun cA => rfl) hn hN (by show N * 4 ≤ 536870912; omega) hcells hslots hdg (fun q cA H1 hK1 hP1 hD1 hS1 => ?_)
  have e1 : s.vm.findClass ("[" ++ FieldType.int.toString) = some cA := (hK1.2 3 (cA, .int) rfl).2
  have e2 : s.vm.findClass ("[" ++ FieldType.int.toString) = some (q_cI E) := (hK1.2 1 (q_cI E, .int) rfl).2
  have : cA = q_cI E := Option.some.inj (e1.symm.trans e2)
  subst this
  exact kk q H1 hP1 hD1 hS1
theorem q_newZ (F : q_Fx p s m c E own cc nL) (hP : va_P (q_D E) vwCl ws H) (hD : va_D A ws) (hS : va_S A s.heap H locs) (hA : ∀ q, s.heap.size ≤ q → A q) {n : Int32} {N : Nat} (hn : ¬ n < 0) (hN : n.toNatClampNeg = N) (hb : N ≤ 100) (hcells : cells + 1 ≤ R.cells) (hslots : slots + N ≤ R.slots) (hdg : decode cc pc = .ok (.newarray .boolean, 2))
    (kk : ∀ (q : Nat) (H1 : Heap), va_P (q_D E) vwCl (ws ++ [(q, .inl (q_cZ E, N, .inl (fun _ => 0)))]) H1 → va_D A (ws ++ [(q, .inl (q_cZ E, N, .inl (fun _ => 0)))]) → va_S A s.heap H1 locs → W p l e R s m args below meth c H1 locs (cells + 1) (slots + N) Q (F0 m (pc + 2) ls (.ref q :: rest))) : W p l e R s m args below meth c H locs cells slots Q (F0 m pc ls (.int n :: rest)) := by
  refine va_newa F.1 F.2.1 (atype := .boolean) (F.2.2.2.2.1 _ q_aZ args) (ty := .boolean) rfl F.2.2.2.2.2.1 hP hD hS hA (a0 := (N, .inl (fun _ => 0))) (fun cA => rfl) hn hN (by show N * 1 ≤ 536870912; omega) hcells hslots hdg (fun q cA H1 hK1 hP1 hD1 hS1 => ?_)
  have e1 : s.vm.findClass ("[" ++ FieldType.boolean.toString) = some cA := (hK1.2 3 (cA, .boolean) rfl).2
  have e2 : s.vm.findClass ("[" ++ FieldType.boolean.toString) = some (q_cZ E) := (hK1.2 2 (q_cZ E, .boolean) rfl).2
  have : cA = q_cZ E := Option.some.inj (e1.symm.trans e2)
  subst this
  exact kk q H1 hP1 hD1 hS1
theorem q_newB (F : q_Fx p s m c E own cc nL) (hP : va_P (q_D E) vwCl ws H) (hD : va_D A ws) (hS : va_S A s.heap H locs) (hA : ∀ q, s.heap.size ≤ q → A q) {n : Int32} {N : Nat} (hn : ¬ n < 0) (hN : n.toNatClampNeg = N) (hb : N ≤ 100) (hcells : cells + 1 ≤ R.cells) (hslots : slots + N ≤ R.slots) (hdg : decode cc pc = .ok (.newarray .byte, 2))
    (kk : ∀ (q : Nat) (H1 : Heap), va_P (q_D E) vwCl (ws ++ [(q, .inl (q_cB E, N, .inl (fun _ => 0)))]) H1 → va_D A (ws ++ [(q, .inl (q_cB E, N, .inl (fun _ => 0)))]) → va_S A s.heap H1 locs → W p l e R s m args below meth c H1 locs (cells + 1) (slots + N) Q (F0 m (pc + 2) ls (.ref q :: rest))) : W p l e R s m args below meth c H locs cells slots Q (F0 m pc ls (.int n :: rest)) := by
  refine va_newa F.1 F.2.1 (atype := .byte) (F.2.2.2.2.1 _ q_aB args) (ty := .byte) rfl F.2.2.2.2.2.1 hP hD hS hA (a0 := (N, .inl (fun _ => 0))) (fun cA => rfl) hn hN (by show N * 1 ≤ 536870912; omega) hcells hslots hdg (fun q cA H1 hK1 hP1 hD1 hS1 => ?_)
  have e1 : s.vm.findClass ("[" ++ FieldType.byte.toString) = some cA := (hK1.2 3 (cA, .byte) rfl).2
  have e2 : s.vm.findClass ("[" ++ FieldType.byte.toString) = some (q_cB E) := (hK1.2 0 (q_cB E, .byte) rfl).2
  have : cA = q_cB E := Option.some.inj (e1.symm.trans e2)
  subst this
  exact kk q H1 hP1 hD1 hS1
def q_Ob (own : String) (index : Nat) : Prop := Cond.methodLink own index objectInit ∈ q_BIG ∧ Cond.instanceMethod objectInit ∈ q_BIG ∧ Cond.code objectInit ⟨#[0xb1]⟩ 1 none ∈ q_BIG
theorem q_obj (F : q_Fx p s m c E own cc nL) (hO : q_Ob own index) (hl2 : ∃ lv, lv_has ls nL lv) (hfr : 1 ≤ R.frames) (hlo : (rest.map fun v => v.category).sum + 12 ≤ R.locals) (hdg : decode cc pc = .ok (.invokespecial index, 3)) (kk : W p l e R s m args below meth c H locs cells slots Q (F0 m (pc + 3) ls rest)) : W p l e R s m args below meth c H locs cells slots Q (F0 m pc ls (.ref a :: rest)) := by
  obtain ⟨hx, hb, hml, hown, hB, hE⟩ := F
  obtain ⟨lv, hl⟩ := hl2
  exact W.objInit hx hb hown (hB _ hO.1 args) (hB _ hO.2.1 args) (hB _ hO.2.2 args) rfl (hl.1.trans hml.symm) rfl hdg hfr (by show 2 * 0 + _ + 12 ≤ _; omega) kk
theorem q_putF {C : String} {T : u_T} {N ci : Nat} {ty0 : Nat → FieldType} (F : q_Fx p s m c E own cc nL) (hC : q_Cl ci C T N ty0) (hin : meth.name = "<init>") (hP : va_P (q_D E) vwCl ws H) (hD : va_D A ws) (hS : va_S A s.heap H locs) (q0 : Nat) {fs : List Value} (he : ws[q0]? = some (a, .inr (ci, fs))) (k : Nat) (hk : k < N) (hl : Cond.fieldLink own index C (T k).2.1 (T k).2.2.1 ∈ q_BIG) (hoc : C = own) (hfin : (T k).2.2.2 = true) {v : Value} (hn : narrow (ty0 k) v = v) (hfit : fits (ty0 k) v = true) (hlen : k < fs.length) (hset : ws.set q0 (a, .inr (ci, fs.set k v)) = ws1) (hdg : decode cc pc = .ok (.putfield index, 3))
    (kk : ∀ (H1 : Heap) (locs1 : List Loc), va_P (q_D E) vwCl ws1 H1 → va_D A ws1 → va_S A s.heap H1 locs1 → W p l e R s m args below meth c H1 locs1 cells slots Q (F0 m (pc + 3) ls rest)) : W p l e R s m args below meth c H locs cells slots Q (F0 m pc ls (v :: .ref a :: rest)) := by
  obtain ⟨hx, hb, hml, hown, hB, hE⟩ := F
  obtain ⟨c1, c2, c3, c4, c5⟩ := hC
  have hts : ∀ w ∈ q_BIG, w.before args s = true := fun w h => hB w h args
  have hsame : ∀ x, s.fieldFound? (T k).1 (T k).2.1 (T k).2.2.1 = some x → s.fieldFound? C (T k).2.1 (T k).2.2.1 = some x := fun x h => by rw [c5 k hk] at h; exact h
  subst hset
  exact va_putF (C := C) (T := T) (N := N) hx hb hts c2 ty0 c3 c4 hown hE.1 hP hD hS q0 he c1 k hk (hB _ hl _) hsame hfin hin ((c5 k hk).trans hoc) (c3 k hk) hn hfit hlen hdg kk
theorem q_niV {W1 : (Nat → Nat) → va_W} {mc ms : Nat} (F : q_Fx p s m c E own cc nL) (hr : meth.sig.returnType = none) (hlk : meth.locks = false) (hdg : decode cc pc = .ok (.return_, 1)) (av : Nat → Nat) (hP : va_P (q_D E) vwCl (W1 av) H) (hD : va_D A (W1 av)) (hS : va_S A s.heap H locs) (hc : cells ≤ mc) (hs : slots ≤ ms) : W p l e R s m args below meth c H locs cells slots (MQ below (q_niQ E A W1) args s mc ms A) (F0 m pc ls []) := by
  refine W.widen (k := mc) (n := ms) hc hs ?_
  exact W.vret F.1 F.2.1 hr (fun t ht hW => ⟨⟨rfl, av, by rw [ht]; exact hP, hD⟩, hS.F ht⟩) hS.2.2 hdg (hlocks := hlk)
/-- a constructor's words -/
def q_CI (y : MethodName) (cc : ByteArray) : Prop := Cond.code y cc 1 none ∈ q_BIG ∧ Cond.instanceMethod y ∈ q_BIG ∧ Cond.initialized y.cls ∈ q_BIG ∧ y.name = "<init>" ∧ (y.cls ≠ "java/lang/invoke/MethodHandle" ∧ y.cls ≠ "java/lang/invoke/VarHandle" ∧ (parseMethodDescriptor y.desc).map (fun d => d.parameters.length) = some 0)
theorem q_niB {h sz : Nat} {z : va_E} : FrameBlind (va_Pc [.ref h] (fun U => U.heap.size = sz ∧ q_EV E U ∧ va_P (q_D E) vwCl [(h, z)] U.heap ∧ va_D (fun q => q_lo E ≤ q) [(h, z)] ∧ q_lo E ≤ sz)) := fun _ _ _ _ h => ⟨h.1, h.2.1, h.2.2.1.call, h.2.2.2⟩
theorem q_cNI {ar : Array Value} {mc ms b : Nat} {z : va_E} {W1 : (Nat → Nat) → va_W} (isR : List Nat) (hR : isR.map (fun i => (ws ++ [(b, z)])[i]?) = ws.map some) (hnd : va_nd isR = true) (hni : ∀ i ∈ isR, i ∉ [ws.length]) (hP : va_P (q_D E) vwCl (ws ++ [(b, z)]) H) (hD : va_D A (ws ++ [(b, z)])) (hS : va_S A s.heap H locs) (hA : ∀ q, s.heap.size ≤ q → A q)
    (hr : va_Run p l e R s m args below meth c H locs cells slots mc ms (F0 m pc ls st0) rest (q_niQ E (va_A [(b, z)] H.size) W1 ar) (va_A [(b, z)] H.size))
    (kk : ∀ (av : Nat → Nat) (H1 : Heap) (locs1 : List Loc), va_P (q_D E) vwCl (ws ++ W1 av) H1 → va_D A (ws ++ W1 av) → va_S A s.heap H1 locs1 → W p l e R s m args below meth c H1 locs1 (cells + mc) (slots + ms) Q (F0 m (pc + 3) ls rest)) : W p l e R s m args below meth c H locs cells slots Q (F0 m pc ls st0) := by
  have hC : [ws.length].map (fun i => (ws ++ [(b, z)])[i]?) = [(b, z)].map some := by simp
  have hF : ∀ q, va_A [(b, z)] H.size q → A q := va_free (wc := [(b, z)]) hD hS hA [ws.length] hC
  intro T hT X
  obtain ⟨w, st₀, t, T', L, h0, X', hL, e1, e2, ⟨⟨hv, av, hP1, hD1⟩, hz, hk⟩, st⟩ := hr T hT X
  cases hv
  rw [h0] at hz hk
  rw [← e1] at hP1 hz hk
  obtain ⟨hP2, hD2⟩ := va_join (wr := ws) (w1 := W1 av) hP hD [ws.length] isR hC hR hnd hni hk hF hP1 hD1
  obtain ⟨t2, a1, b1⟩ := kk av T'.heap (locs ++ L) hP2 hD2
    ⟨Nat.le_trans hS.1 hz, fun q h1 h2 => by rw [hk q (Nat.lt_of_lt_of_le h1 hS.1) (fun z => h2 (hF q z))]; exact hS.2.1 q h1 h2, fun q hq => by
      rcases List.mem_append.mp hq with h | h
      · exact hS.2.2 q h
      · exact hF _ (hL q h)⟩ T' rfl X'
  exact ⟨t2, st t2 a1, b1⟩
theorem q_make {C : String} {T : u_T} {N ci : Nat} {ty0 : Nat → FieldType} (F : q_Fx p s m c E own cc nL) (hC : q_Cl ci C T N ty0) {fs : List Value} (hfs : ∀ j, j < N → defaultValue (ty0 j) = vp_V fs j) {i1 i2 : Nat} (hcl : Cond.classLink own i1 C ∈ q_BIG) (hins : Cond.instantiable C N ∈ q_BIG) (hini : Cond.initialized C ∈ q_BIG)
    {y : MethodName} {bytes : ByteArray} {d mc ms : Nat} {W1 : Nat → (Nat → Nat) → va_W} (hM : ∀ q sz, q_NI l E y bytes d mc ms q (.inr (ci, fs)) (W1 q) sz) (hF : q_CI y bytes) (hl : q_L own i2 y) (hRm : d + 1 ≤ R.frames ∧ 8 + (1 + 11) + 64 * d ≤ R.locals) (hcells : cells + 1 + mc ≤ R.cells) (hslots : slots + N + ms ≤ R.slots)
    (hP : va_P (q_D E) vwCl ws H) (hD : va_D A ws) (hS : va_S A s.heap H locs) (hA : ∀ q, s.heap.size ≤ q → A q) (hAl : ∀ q, A q → q_lo E ≤ q) (hlo : q_lo E ≤ s.heap.size) (isR : List Nat) (hR : ∀ x : Nat × va_E, isR.map (fun i => (ws ++ [x])[i]?) = ws.map some) (hnd : va_nd isR = true) (hni : ∀ i ∈ isR, i ∉ [ws.length]) (hl2 : ∃ lv, lv_has ls nL lv) (hW : ((.ref 0 :: rest : List Value).map fun v => v.category).sum ≤ 8)
    (dg1 : decode cc pc = .ok (.new i1, 3)) (dg2 : decode cc (pc + 3) = .ok (.dup, 1)) (dg3 : decode cc (pc + 4) = .ok (.invokespecial i2, 3))
    (kk : ∀ (q : Nat) (av : Nat → Nat) (H1 : Heap) (locs1 : List Loc), va_P (q_D E) vwCl (ws ++ W1 q av) H1 → va_D A (ws ++ W1 q av) → va_S A s.heap H1 locs1 → W p l e R s m args below meth c H1 locs1 (cells + 1 + mc) (slots + N + ms) Q (F0 m (pc + 7) ls (.ref q :: rest))) : W p l e R s m args below meth c H locs cells slots Q (F0 m pc ls rest) := by
  have F' := F
  obtain ⟨hx, hb, hml, hown, hB, hE⟩ := F
  obtain ⟨c1, c2, c3, c4, c5⟩ := hC
  obtain ⟨f1, f2, f3, f4, f5⟩ := hF
  obtain ⟨lv, hlv⟩ := hl2
  have hts : ∀ w ∈ q_BIG, w.before args s = true := fun w h => hB w h args
  refine va_new (ci := ci) (fs := fs) (C := C) (T := T) (N := N) hx hb hts c2 ty0 c3 hown (hB _ hcl args) (hB _ hins args) (hB _ hini args) hE.1 hP hD hS hA c1 hfs (by omega) (by omega) dg1 (fun q H hP hD hS => ?_)
  refine lv_dup hx hb dg2 rfl ?_
  have hV := q_EV.go hE hAl hS
  have hD1 : va_D A [(q, .inr (ci, fs))] := hD.sub (ws' := [(q, .inr (ci, fs))]) [ws.length] (by simp [va_nd]) (by simp)
  have hDc : va_D (fun q => q_lo E ≤ q) [(q, .inr (ci, fs))] := hD1.weaken (fun _ _ _ h => hAl _ h)
  have hPc : va_P (q_D E) vwCl [(q, .inr (ci, fs))] H := hP.sub [ws.length] (by simp)
  have hPre : ∀ U : State, U.heap = H → s.WarmedH U.vm → va_Pc [.ref q] (fun U => U.heap.size = H.size ∧ q_EV E U ∧ va_P (q_D E) vwCl [(q, .inr (ci, fs))] U.heap ∧ va_D (fun q => q_lo E ≤ q) [(q, .inr (ci, fs))] ∧ q_lo E ≤ H.size) (.ref q :: ([] : List Value)).toArray U := fun U hU hW => ⟨rfl, by rw [hU], hV U hU hW, by rw [hU]; exact hPc, hDc, Nat.le_trans hlo hS.1⟩
  rcases hl with hl | ⟨host, hl⟩
  · exact q_cNI isR (hR _) hnd hni hP hD hS hA (va_runI (As := []) (rest := .ref q :: rest) ⟨hx, hb, hml, hown, hts⟩ (hM q H.size) ⟨callB_of 0 hts (q_goodB f1) rfl rfl rfl (hB _ f3 _) (hB _ hl _) f5 hRm, f4, hB _ f2 _⟩ ⟨q_niB, hPre⟩ rfl rfl hlv.1 rfl (lv_room hW) dg3 ⟨hcells, hslots⟩) (fun av H1 locs1 hP1 hD1 hS1 => kk q av H1 locs1 hP1 hD1 hS1)
  · exact q_cNI isR (hR _) hnd hni hP hD hS hA (va_runIN (As := []) (rest := .ref q :: rest) ⟨hx, hb, hml, hown, hts⟩ (hM q H.size) ⟨va_cnB 0 hts (q_goodB f1) rfl rfl rfl (hE.2.1 _ hl rfl) (hB _ f3 _) f5 hRm, f4, hB _ f2 _⟩ ⟨q_niB, hPre⟩ rfl rfl hlv.1 rfl (lv_room hW) dg3 ⟨hcells, hslots⟩) (fun av H1 locs1 hP1 hD1 hS1 => kk q av H1 locs1 hP1 hD1 hS1)
end QN
