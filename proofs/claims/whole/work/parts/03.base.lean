/-! the frame of my own: the tables' good words, the environment, contracts of readers and of writers -/
def q_BIG : List Cond := lw_tbl.filter goodWord
theorem q_in {w : Cond} {k : Nat} (h : lw_tbl[k]? = some w) (hg : goodWord w = true) : w ∈ q_BIG := List.mem_filter.mpr ⟨List.mem_of_getElem? h, hg⟩
theorem q_good {c0 c1 : Cond} (h0 : c0 ∈ q_BIG) {c : Cond} : GoodIn (c :: q_BIG) (c0 :: q_BIG) := by
  intro w hw
  have hm : w ∈ q_BIG := by
    rcases List.mem_cons.mp hw with h | h
    · rw [h]; exact h0
    · exact h
  exact ⟨List.mem_cons_of_mem _ hm, good_of_word (List.mem_filter.mp hm).2⟩
theorem q_goodB {c0 : Cond} (h0 : c0 ∈ q_BIG) : GoodIn q_BIG (c0 :: q_BIG) := by
  intro w hw
  have hm : w ∈ q_BIG := by
    rcases List.mem_cons.mp hw with h | h
    · rw [h]; exact h0
    · exact h
  exact ⟨hm, good_of_word (List.mem_filter.mp hm).2⟩
def q_isNest : Cond → Bool
  | .methodLinkNest .. => true
  | .fieldLinkNest .. => true
  | _ => false
def q_NW (U : State) : Prop := ∀ w ∈ tables_1, q_isNest w = true → va_Nw w U
theorem q_NW.warm {s U : State} (hW : s.WarmedH U.vm) (h : q_NW s) : q_NW U := by
  intro w hw hn
  cases w <;> first | exact va_Nw.warmM hW (h _ hw hn) | exact va_Nw.warmF hW (h _ hw hn) | exact absurd hn (by simp [q_isNest])
theorem q_NW.same {u U : State} (hv : u.vm = U.vm) (h : q_NW u) : q_NW U := by
  intro w hw hn
  refine va_Nw.same ?_ hv (h w hw hn)
  cases w <;> first | rfl | exact absurd hn (by simp [q_isNest])
/-- the environment: classes, array classes of bytes, ints, booleans; from where on our cells lie; the text's cells -/
abbrev q_E : Type := va_G × ClassId × ClassId × ClassId × Nat × Nat × Nat
abbrev q_D (E : q_E) : va_G := E.1
abbrev q_cB (E : q_E) : ClassId := E.2.1
abbrev q_cI (E : q_E) : ClassId := E.2.2.1
abbrev q_cZ (E : q_E) : ClassId := E.2.2.2.1
abbrev q_lo (E : q_E) : Nat := E.2.2.2.2.1
abbrev q_sk (E : q_E) : Nat := E.2.2.2.2.2.1
abbrev q_sv (E : q_E) : Nat := E.2.2.2.2.2.2
abbrev q_tys (E : q_E) : List (ClassId × FieldType) := [(q_cB E, .byte), (q_cI E, .int), (q_cZ E, .boolean)]
abbrev q_bytes : List (List Int32) := [[101, 112, 114, 98, 116]]
def q_JS (E : q_E) (U : State) (H : Heap) : Prop := vk_R "SinEaters" 246 "eprbt" (q_sk E) U ∧ vk_S 1 [5] q_bytes (fun _ => q_sk E) (fun _ => q_sv E) (fun q => q_lo E ≤ q) U H ∧ va_Z "java/lang/String" "COMPACT_STRINGS" "Z" (.int 1) (fun q => q_lo E ≤ q) U H
def q_EV (E : q_E) (U : State) : Prop := va_K (q_D E) vwCl (q_tys E) U ∧ q_NW U ∧ q_JS E U U.heap
theorem q_JS.warm {E : q_E} {s U : State} {H : Heap} (hW : s.WarmedH U.vm) (h : q_JS E s H) : q_JS E U H := ⟨h.1.warm hW, h.2.1.moved hW.alike, h.2.2.moved hW.alike⟩
theorem q_JS.kept {E : q_E} {U : State} {H H1 : Heap} (h : q_JS E U H) (hq : ∀ a : Nat, a < H.size → ¬ q_lo E ≤ a → H1[a]? = H[a]?) : q_JS E U H1 := ⟨h.1, h.2.1.kept hq, h.2.2.kept hq⟩
theorem q_EV.call {E : q_E} {U : State} {g : JFrame} {mk : MethodId} {a : Array Value} (h : q_EV E U) : q_EV E (U.calling g mk a) :=
  ⟨va_K.moved (u := U) (U := U.calling g mk a) (Vm.Alike.refl U.vm) h.1, q_NW.same (u := U) rfl h.2.1, vk_R.same (u := U) rfl h.2.2.1, h.2.2.2.1.moved (u := U) (U := U.calling g mk a) (Vm.Alike.refl U.vm), h.2.2.2.2.moved (u := U) (U := U.calling g mk a) (Vm.Alike.refl U.vm)⟩
/-- the environment at a heap that differs from the method's first only in what the method may change -/
theorem q_EV.go {E : q_E} {s : State} {H : Heap} {A : Nat → Prop} {locs : List Loc} (h : q_EV E s) (hA : ∀ q, A q → q_lo E ≤ q) (hS : va_S A s.heap H locs) : ∀ U : State, U.heap = H → s.WarmedH U.vm → q_EV E U := by
  intro U hU hW
  refine ⟨va_K.moved hW.alike h.1, h.2.1.warm hW, ?_⟩
  rw [hU]
  exact (h.2.2.warm hW).kept (fun a h1 h2 => hS.2.1 a h1 (fun z => h2 (hA a z)))
theorem q_EV.here {E : q_E} {s : State} (h : q_EV E s) : ∀ U : State, U.heap = s.heap → s.WarmedH U.vm → q_EV E U := by
  intro U hU hW
  refine ⟨va_K.moved hW.alike h.1, h.2.1.warm hW, ?_⟩
  rw [hU]
  exact h.2.2.warm hW
/-- room for d calls, one in the other -/
def q_rm (d : Nat) : Room := { frames := d, cells := 0, slots := 0, locals := 64 * d }
def q_roQ (v : Value) : Array Value → State → Outcome → State → Prop := fun _ st o t => o = .returned (some v) ∧ t.heap = st.heap
def q_no : Addr → Prop := fun _ => False
/-- a method that changes nothing and answers v -/
def q_RO (l : Launch) (E : q_E) (y : MethodName) (cc : ByteArray) (maxL : Nat) (ret : Option FieldType) (d : Nat) (As : List Value) (ws : va_W) (v : Value) : Prop :=
  Met l y (.code y cc maxL ret :: q_BIG) (q_rm d) (va_Pc As (fun U => q_EV E U ∧ va_P (q_D E) vwCl ws U.heap)) (q_roQ v) 0 0 q_no
def q_muQ (E : q_E) (A : Nat → Prop) (ws1 : va_W) (v : Option Value) : Array Value → State → Outcome → State → Prop := fun _ st o t => (o = .returned v ∧ va_P (q_D E) vwCl ws1 t.heap ∧ va_D A ws1) ∧ va_F A st t
/-- a method that changes its world from ws to ws1 and answers v -/
def q_MU (l : Launch) (E : q_E) (y : MethodName) (cc : ByteArray) (maxL : Nat) (ret : Option FieldType) (d : Nat) (As : List Value) (sz : Nat) (ws ws1 : va_W) (v : Option Value) : Prop :=
  Met l y (.code y cc maxL ret :: q_BIG) (q_rm d) (va_Pc As (fun U => U.heap.size = sz ∧ q_EV E U ∧ va_P (q_D E) vwCl ws U.heap ∧ va_D (fun q => q_lo E ≤ q) ws ∧ q_lo E ≤ sz)) (q_muQ E (va_A ws sz) ws1 v) 0 0 (va_A ws sz)
/-- what holds all through a method's body -/
def q_CX (p : Program) (s : State) (m : MethodId) (meth : Method) (c : Code) (E : q_E) (y : MethodName) (cc : ByteArray) (maxL : Nat) (ret : Option FieldType) : Prop :=
  p.tables.exec = Jvm.exec ∧ c.code = cc ∧ c.maxLocals = maxL ∧ meth.sig.returnType = ret ∧ meth.locks = false ∧ s.vm.findClass y.cls = some m.cls ∧ (∀ (w : Cond), w ∈ q_BIG → ∀ a : Array Value, w.before a s = true) ∧ q_EV E s
theorem q_RO.intro {l : Launch} {E : q_E} {y : MethodName} {cc : ByteArray} {maxL : Nat} {ret : Option FieldType} {d : Nat} {As : List Value} {ws : va_W} {v : Value} (hy : plainName y.cls = true) (hent : (lg_sl As).length ≤ maxL)
    (body : ∀ (p : Program) (e : Env) (s : State) (m : MethodId) (args : Array Value) (below : List Frame) (meth : Method) (c : Code), q_CX p s m meth c E y cc maxL ret → va_P (q_D E) vwCl ws s.heap → ∀ ls : Array Slot, lv_has ls maxL (lv_args 0 As) → W p l e (q_rm d) s m args below meth c s.heap [] 0 0 (MQ below (q_roQ v) args s 0 0 q_no) (F0 m 0 ls [])) : q_RO l E y cc maxL ret d As ws v := by
  refine Met.ofW (cc := cc) (maxL := maxL) (ret := ret) hy rfl ?_
  intro p e s m args below meth c s₁ B hml hv
  obtain ⟨rfl, hE, hP⟩ := hv
  have hts := atoms_spec (ws := .code y cc maxL ret :: q_BIG) B.pre
  have hin : ∀ (w : Cond), w ∈ q_BIG → ∀ a : Array Value, w.before a s = true := fun w hw a => by
    have hg := good_of_word (List.mem_filter.mp hw).2
    exact word_at (U := s) (by first | exact State.WarmedH.refl s | exact State.WarmedH.refl | exact State.WarmedH.rfl) hg (hts w (List.mem_cons_of_mem _ hw))
  rw [lg_entry_eq]
  exact body p e s m _ below meth c ⟨B.exec, B.bytes, hml, B.returns, B.notSynchronized, findClass_of_methodNamed B.named, hin, hE⟩ hP _ (lv_entry As hent)
theorem q_MU.intro {l : Launch} {E : q_E} {y : MethodName} {cc : ByteArray} {maxL : Nat} {ret : Option FieldType} {d : Nat} {As : List Value} {sz : Nat} {ws ws1 : va_W} {v : Option Value} (hy : plainName y.cls = true) (hent : (lg_sl As).length ≤ maxL)
    (body : ∀ (p : Program) (e : Env) (s : State) (m : MethodId) (args : Array Value) (below : List Frame) (meth : Method) (c : Code) (A : Nat → Prop), q_CX p s m meth c E y cc maxL ret → va_P (q_D E) vwCl ws s.heap → va_D A ws → (∀ q, s.heap.size ≤ q → A q) → (∀ q, A q → q_lo E ≤ q) → ∀ ls : Array Slot, lv_has ls maxL (lv_args 0 As) → W p l e (q_rm d) s m args below meth c s.heap [] 0 0 (MQ below (q_muQ E A ws1 v) args s 0 0 A) (F0 m 0 ls [])) : q_MU l E y cc maxL ret d As sz ws ws1 v := by
  refine Met.ofW (cc := cc) (maxL := maxL) (ret := ret) hy rfl ?_
  intro p e s m args below meth c s₁ B hml hv
  obtain ⟨rfl, hsz, hE, hP, hD, hlo⟩ := hv
  have hts := atoms_spec (ws := .code y cc maxL ret :: q_BIG) B.pre
  have hin : ∀ (w : Cond), w ∈ q_BIG → ∀ a : Array Value, w.before a s = true := fun w hw a => by
    have hg := good_of_word (List.mem_filter.mp hw).2
    exact word_at (U := s) (by first | exact State.WarmedH.refl s | exact State.WarmedH.refl | exact State.WarmedH.rfl) hg (hts w (List.mem_cons_of_mem _ hw))
  rw [lg_entry_eq]
  subst hsz
  exact body p e s m _ below meth c (va_A ws s.heap.size) ⟨B.exec, B.bytes, hml, B.returns, B.notSynchronized, findClass_of_methodNamed B.named, hin, hE⟩ hP hD.self (fun q h => Or.inr h) (fun q h => by
    rcases h with ⟨k, z, h⟩ | h
    · exact hD.2 k (q, z) h
    · exact Nat.le_trans hlo h) _ (lv_entry As hent)
/-- a callee's own words -/
def q_CV (C : String) (y : MethodName) (cc : ByteArray) (maxL : Nat) (ret : Option FieldType) (n : Nat) : Prop :=
  Cond.code y cc maxL ret ∈ q_BIG ∧ Cond.instanceMethod y ∈ q_BIG ∧ Cond.selects C y y ∈ q_BIG ∧ Cond.initialized C ∈ q_BIG ∧ (y.cls = C ∧ y.cls ≠ "java/lang/invoke/MethodHandle" ∧ y.cls ≠ "java/lang/invoke/VarHandle" ∧ (parseMethodDescriptor y.desc).map (fun d => d.parameters.length) = some n)
def q_CS (y : MethodName) (cc : ByteArray) (maxL : Nat) (ret : Option FieldType) (n : Nat) : Prop :=
  Cond.code y cc maxL ret ∈ q_BIG ∧ Cond.static y ∈ q_BIG ∧ Cond.initialized y.cls ∈ q_BIG ∧ (y.cls ≠ "java/lang/invoke/MethodHandle" ∧ y.cls ≠ "java/lang/invoke/VarHandle" ∧ (parseMethodDescriptor y.desc).map (fun d => d.parameters.length) = some n)
theorem q_room {d k maxL : Nat} (hd : d + 1 ≤ k) (hm : maxL ≤ 40) : (q_rm d).frames + 1 ≤ (q_rm k).frames ∧ 8 + (maxL + 11) + (q_rm d).locals ≤ (q_rm k).locals := by
  constructor
  · exact hd
  · show 8 + (maxL + 11) + 64 * d ≤ 64 * k
    omega
