/-! calls: a reader's, a writer's; of one's own class and of a nest mate -/
theorem q_fm {ws ws' : va_W} {is : List Nat} (h : is.map (fun i => ws[i]?) = ws'.map some) : is.filterMap (fun i => ws[i]?) = ws' := by
  have h1 : is.filterMap (fun i => ws[i]?) = (is.map (fun i => ws[i]?)).filterMap id := by rw [List.filterMap_map]; rfl
  rw [h1, h, List.filterMap_map]
  exact List.filterMap_some
section QC
variable {p : Program} {l : Launch} {e : Env} {R : Room} {s : State} {m : MethodId} {args : Array Value} {below : List Frame} {meth : Method} {c : Code} {H : Heap} {locs : List Loc} {cells slots : Nat} {Q : State → Prop}
variable {pc : Nat} {ls : Array Slot} {rest st0 : List Value} {a : Array Value} {A : Nat → Prop} {free : Addr → Prop}
theorem q_cRO {v : Value} (hr : va_Run p l e R s m args below meth c H locs cells slots 0 0 (F0 m pc ls st0) rest (q_roQ v a) q_no) (kk : W p l e R s m args below meth c H locs cells slots Q (F0 m (pc + 3) ls (v :: rest))) : W p l e R s m args below meth c H locs cells slots Q (F0 m pc ls st0) := by
  intro T hT X
  obtain ⟨w, st₀, t, T', L, h0, X', hL, e1, -, ⟨hv, hh⟩, st⟩ := hr T hT X
  cases hv
  obtain ⟨t2, a1, b1⟩ := kk T' (by rw [e1, hh, h0]) (Stand.forget X' (fun q h => (hL q h).elim))
  exact ⟨t2, st t2 a1, b1⟩
def q_Sub (ws wc : va_W) : Prop := ∃ is : List Nat, is.map (fun i => ws[i]?) = wc.map some
def q_Cut (ws wc ws1 wc1 : va_W) : Prop := ∃ (isC isR : List Nat) (wr : va_W) (pm : List Nat), (isC.map (fun i => ws[i]?) = wc.map some ∧ va_nd isC = true) ∧ (isR.map (fun i => ws[i]?) = wr.map some ∧ va_nd isR = true) ∧ (∀ i ∈ isR, i ∉ isC) ∧ (pm.map (fun i => (wr ++ wc1)[i]?) = ws1.map some ∧ va_nd pm = true)
theorem q_Sub.P {D : va_G} {cl : List vw_C} {ws wc : va_W} (h : q_Sub ws wc) (hP : va_P D cl ws H) : va_P D cl wc H := by
  obtain ⟨is, h⟩ := h
  exact hP.sub is (q_fm h)
theorem q_Cut.P {D : va_G} {cl : List vw_C} {ws wc ws1 wc1 : va_W} (h : q_Cut ws wc ws1 wc1) (hP : va_P D cl ws H) : va_P D cl wc H := by
  obtain ⟨is, -, -, -, h, -⟩ := h
  exact hP.sub is (q_fm h.1)
theorem q_cMU {E : q_E} {v : Option Value} {ws wc ws1 wc1 : va_W} (hc : q_Cut ws wc ws1 wc1) (hP : va_P (q_D E) vwCl ws H) (hD : va_D A ws) (hS : va_S A s.heap H locs) (hA : ∀ q, s.heap.size ≤ q → A q)
    (hr : va_Run p l e R s m args below meth c H locs cells slots 0 0 (F0 m pc ls st0) rest (q_muQ E (va_A wc H.size) wc1 v a) (va_A wc H.size))
    (kk : ∀ (H1 : Heap) (locs1 : List Loc), va_P (q_D E) vwCl ws1 H1 → va_D A ws1 → va_S A s.heap H1 locs1 → W p l e R s m args below meth c H1 locs1 cells slots Q (F0 m (pc + 3) ls (v.toList ++ rest))) : W p l e R s m args below meth c H locs cells slots Q (F0 m pc ls st0) := by
  obtain ⟨isC, isR, wr, pm, ⟨c1, c2⟩, ⟨r1, r2⟩, hdis, b1, b2⟩ := hc
  have hF : ∀ q, va_A wc H.size q → A q := va_free (wc := wc) hD hS hA isC c1
  intro T hT X
  obtain ⟨w, st₀, t, T', L, h0, X', hL, e1, e2, ⟨⟨hv, hP1, hD1⟩, hz, hk⟩, st⟩ := hr T hT X
  cases hv
  rw [h0] at hz hk
  rw [← e1] at hP1 hz hk
  obtain ⟨hP2, hD2⟩ := va_join (wr := wr) (w1 := wc1) hP hD isC isR c1 r1 r2 hdis hk hF hP1 hD1
  obtain ⟨t2, a1, b1⟩ := kk T'.heap (locs ++ L) (hP2.sub pm (q_fm b1)) (hD2.sub pm b2 b1)
    ⟨Nat.le_trans hS.1 hz, fun q h1 h2 => by rw [hk q (Nat.lt_of_lt_of_le h1 hS.1) (fun z => h2 (hF q z))]; exact hS.2.1 q h1 h2, fun q hq => by
      rcases List.mem_append.mp hq with h | h
      · exact hS.2.2 q h
      · exact hF _ (hL q h)⟩ T' rfl X'
  exact ⟨t2, st t2 a1, b1⟩
/-- what a call needs of its caller -/
def q_Fx (p : Program) (s : State) (m : MethodId) (c : Code) (E : q_E) (own : String) (cc : ByteArray) (nL : Nat) : Prop :=
  p.tables.exec = Jvm.exec ∧ c.code = cc ∧ c.maxLocals = nL ∧ s.vm.findClass own = some m.cls ∧ (∀ (w : Cond), w ∈ q_BIG → ∀ a : Array Value, w.before a s = true) ∧ q_EV E s
variable {E : q_E} {own C host : String} {index d k n maxL nL : Nat} {y : MethodName} {bytes cc : ByteArray} {ret : Option FieldType} {b : Addr} {As : List Value} {ws wc ws1 wc1 : va_W}
theorem q_roB {v : Value} : FrameBlind (va_Pc As (fun U => q_EV E U ∧ va_P (q_D E) vwCl wc U.heap)) := fun _ _ _ _ h => ⟨h.1, h.2.1.call, h.2.2⟩
theorem q_muB {sz : Nat} : FrameBlind (va_Pc As (fun U => U.heap.size = sz ∧ q_EV E U ∧ va_P (q_D E) vwCl wc U.heap ∧ va_D (fun q => q_lo E ≤ q) wc ∧ q_lo E ≤ sz)) := fun _ _ _ _ h => ⟨h.1, h.2.1, h.2.2.1.call, h.2.2.2⟩
variable {Pc : Array Value → State → Prop} {Qc : Array Value → State → Outcome → State → Prop}
theorem q_runV (F : q_Fx p s m c E own cc nL) (hM : Met l y (.code y bytes maxL ret :: q_BIG) (q_rm d) Pc Qc 0 0 free) (hbl : FrameBlind Pc) (hF : q_CV C y bytes maxL ret n) (hl : Cond.methodLink own index y ∈ q_BIG) (hd : d + 1 ≤ k) (hm : maxL ≤ 40)
    (hrec : ∃ cell : Cell, H[b]? = some cell ∧ cell.vm.isStatics = false ∧ s.vm.findClass C = some cell.cls) (hPc : ∀ U : State, U.heap = H → s.WarmedH U.vm → Pc (.ref b :: As).toArray U) (hn : As.length = n) (hsize : ls.size = nL) (hst : st0 = As.reverse ++ .ref b :: rest) (hW : (rest.map fun v => v.category).sum ≤ 8) (hdg : decode cc pc = .ok (.invokevirtual index, 3)) :
    va_Run p l e (q_rm k) s m args below meth c H locs 0 0 0 0 (F0 m pc ls st0) rest (Qc (.ref b :: As).toArray) free := by
  obtain ⟨hx, hb, hml, hown, hB, hE⟩ := F
  obtain ⟨f1, f2, f3, f4, fC, f5⟩ := hF
  subst fC
  have hts : ∀ w ∈ q_BIG, w.before args s = true := fun w h => hB w h args
  exact va_runV (As := As) (rest := rest) ⟨hx, hb, hml, hown, hts⟩ hM ⟨callB_of n hts (q_goodB f1) rfl rfl rfl (hB _ f4 _) (hB _ hl _) f5 (q_room hd hm), hB _ f2 _, hB _ f3 _⟩ ⟨hbl, hrec, hPc⟩ rfl hn hsize hst (lv_room hW) hdg ⟨Nat.zero_le _, Nat.zero_le _⟩
theorem q_runVN (F : q_Fx p s m c E own cc nL) (hM : Met l y (.code y bytes maxL ret :: q_BIG) (q_rm d) Pc Qc 0 0 free) (hbl : FrameBlind Pc) (hF : q_CV C y bytes maxL ret n) (hl : Cond.methodLinkNest own index y host ∈ tables_1) (hd : d + 1 ≤ k) (hm : maxL ≤ 40)
    (hrec : ∃ cell : Cell, H[b]? = some cell ∧ cell.vm.isStatics = false ∧ s.vm.findClass C = some cell.cls) (hPc : ∀ U : State, U.heap = H → s.WarmedH U.vm → Pc (.ref b :: As).toArray U) (hn : As.length = n) (hsize : ls.size = nL) (hst : st0 = As.reverse ++ .ref b :: rest) (hW : (rest.map fun v => v.category).sum ≤ 8) (hdg : decode cc pc = .ok (.invokevirtual index, 3)) :
    va_Run p l e (q_rm k) s m args below meth c H locs 0 0 0 0 (F0 m pc ls st0) rest (Qc (.ref b :: As).toArray) free := by
  obtain ⟨hx, hb, hml, hown, hB, hE⟩ := F
  obtain ⟨f1, f2, f3, f4, fC, f5⟩ := hF
  subst fC
  have hts : ∀ w ∈ q_BIG, w.before args s = true := fun w h => hB w h args
  exact va_runVN (As := As) (rest := rest) ⟨hx, hb, hml, hown, hts⟩ hM ⟨va_cnB n hts (q_goodB f1) rfl rfl rfl (hE.2.1 _ hl rfl) (hB _ f4 _) f5 (q_room hd hm), hB _ f2 _, hB _ f3 _⟩ ⟨hbl, hrec, hPc⟩ rfl hn hsize hst (lv_room hW) hdg ⟨Nat.zero_le _, Nat.zero_le _⟩
theorem q_runS (F : q_Fx p s m c E own cc nL) (hM : Met l y (.code y bytes maxL ret :: q_BIG) (q_rm d) Pc Qc 0 0 free) (hbl : FrameBlind Pc) (hF : q_CS y bytes maxL ret n) (hl : Cond.methodLink own index y ∈ q_BIG) (hd : d + 1 ≤ k) (hm : maxL ≤ 40)
    (hPc : ∀ U : State, U.heap = H → s.WarmedH U.vm → Pc As.toArray U) (hn : As.length = n) (hsize : ls.size = nL) (hst : st0 = As.reverse ++ rest) (hW : (rest.map fun v => v.category).sum ≤ 8) (hdg : decode cc pc = .ok (.invokestatic index, 3)) :
    va_Run p l e (q_rm k) s m args below meth c H locs 0 0 0 0 (F0 m pc ls st0) rest (Qc As.toArray) free := by
  obtain ⟨hx, hb, hml, hown, hB, hE⟩ := F
  obtain ⟨f1, f2, f3, f4⟩ := hF
  have hts : ∀ w ∈ q_BIG, w.before args s = true := fun w h => hB w h args
  exact va_runS (As := As) (rest := rest) ⟨hx, hb, hml, hown, hts⟩ hM ⟨callB_of n hts (q_goodB f1) rfl rfl rfl (hB _ f3 _) (hB _ hl _) f4 (q_room hd hm), hB _ f2 _⟩ ⟨hbl, hPc⟩ rfl hn hsize hst (lv_room hW) hdg ⟨Nat.zero_le _, Nat.zero_le _⟩
theorem q_runSN (F : q_Fx p s m c E own cc nL) (hM : Met l y (.code y bytes maxL ret :: q_BIG) (q_rm d) Pc Qc 0 0 free) (hbl : FrameBlind Pc) (hF : q_CS y bytes maxL ret n) (hl : Cond.methodLinkNest own index y host ∈ tables_1) (hd : d + 1 ≤ k) (hm : maxL ≤ 40)
    (hPc : ∀ U : State, U.heap = H → s.WarmedH U.vm → Pc As.toArray U) (hn : As.length = n) (hsize : ls.size = nL) (hst : st0 = As.reverse ++ rest) (hW : (rest.map fun v => v.category).sum ≤ 8) (hdg : decode cc pc = .ok (.invokestatic index, 3)) :
    va_Run p l e (q_rm k) s m args below meth c H locs 0 0 0 0 (F0 m pc ls st0) rest (Qc As.toArray) free := by
  obtain ⟨hx, hb, hml, hown, hB, hE⟩ := F
  obtain ⟨f1, f2, f3, f4⟩ := hF
  have hts : ∀ w ∈ q_BIG, w.before args s = true := fun w h => hB w h args
  exact va_runSN (As := As) (rest := rest) ⟨hx, hb, hml, hown, hts⟩ hM ⟨va_cnB n hts (q_goodB f1) rfl rfl rfl (hE.2.1 _ hl rfl) (hB _ f3 _) f4 (q_room hd hm), hB _ f2 _, trivial⟩ ⟨hbl, hPc⟩ rfl hn hsize hst (lv_room hW) hdg ⟨Nat.zero_le _, Nat.zero_le _⟩
/-- a callee that reads: of one's own class, or a nest mate's ('q_L': its link) -/
def q_L (own : String) (index : Nat) (y : MethodName) : Prop := Cond.methodLink own index y ∈ q_BIG ∨ ∃ host : String, Cond.methodLinkNest own index y host ∈ tables_1
theorem q_roV {v : Value} (F : q_Fx p s m c E own cc nL) (hM : q_RO l E y bytes maxL ret d (.ref b :: As) wc v) (hF : q_CV C y bytes maxL ret n) (hl : q_L own index y) (hV : ∀ U : State, U.heap = H → s.WarmedH U.vm → q_EV E U) (hP : va_P (q_D E) vwCl wc H) (hd : d + 1 ≤ k ∧ maxL ≤ 40)
    {ci q0 : Nat} {q : vw_C} {fs : List Value} (he : wc[q0]? = some (b, .inr (ci, fs))) (hc : vwCl[ci]? = some q) (hq : q.1 = C) (hn : As.length = n) (hl2 : ∃ lv, lv_has ls nL lv) (hst : st0 = As.reverse ++ .ref b :: rest) (hW : (rest.map fun v => v.category).sum ≤ 8) (hdg : decode cc pc = .ok (.invokevirtual index, 3))
    (kk : W p l e (q_rm k) s m args below meth c H locs 0 0 Q (F0 m (pc + 3) ls (v :: rest))) : W p l e (q_rm k) s m args below meth c H locs 0 0 Q (F0 m pc ls st0) := by
  obtain ⟨lv, hlv⟩ := hl2
  have hrec : ∃ cell : Cell, H[b]? = some cell ∧ cell.vm.isStatics = false ∧ s.vm.findClass C = some cell.cls := by
    rw [← hq]
    exact va_recv F.2.2.2.2.2.1 hP hc he
  rcases hl with hl | ⟨host, hl⟩
  · exact q_cRO (q_runV F hM (q_roB (v := v)) hF hl hd.1 hd.2 hrec (fun U hU hW => ⟨rfl, hV U hU hW, by rw [hU]; exact hP⟩) hn hlv.1 hst hW hdg) kk
  · exact q_cRO (q_runVN F hM (q_roB (v := v)) hF hl hd.1 hd.2 hrec (fun U hU hW => ⟨rfl, hV U hU hW, by rw [hU]; exact hP⟩) hn hlv.1 hst hW hdg) kk
theorem q_roS {v : Value} (F : q_Fx p s m c E own cc nL) (hM : q_RO l E y bytes maxL ret d As wc v) (hF : q_CS y bytes maxL ret n) (hl : q_L own index y) (hV : ∀ U : State, U.heap = H → s.WarmedH U.vm → q_EV E U) (hP : va_P (q_D E) vwCl wc H) (hd : d + 1 ≤ k ∧ maxL ≤ 40)
    (hn : As.length = n) (hl2 : ∃ lv, lv_has ls nL lv) (hst : st0 = As.reverse ++ rest) (hW : (rest.map fun v => v.category).sum ≤ 8) (hdg : decode cc pc = .ok (.invokestatic index, 3))
    (kk : W p l e (q_rm k) s m args below meth c H locs 0 0 Q (F0 m (pc + 3) ls (v :: rest))) : W p l e (q_rm k) s m args below meth c H locs 0 0 Q (F0 m pc ls st0) := by
  obtain ⟨lv, hlv⟩ := hl2
  rcases hl with hl | ⟨host, hl⟩
  · exact q_cRO (q_runS F hM (q_roB (v := v)) hF hl hd.1 hd.2 (fun U hU hW => ⟨rfl, hV U hU hW, by rw [hU]; exact hP⟩) hn hlv.1 hst hW hdg) kk
  · exact q_cRO (q_runSN F hM (q_roB (v := v)) hF hl hd.1 hd.2 (fun U hU hW => ⟨rfl, hV U hU hW, by rw [hU]; exact hP⟩) hn hlv.1 hst hW hdg) kk
theorem q_Cut.D {B : Nat → Prop} (h : q_Cut ws wc ws1 wc1) (hD : va_D A ws) (hB : ∀ q, A q → B q) : va_D B wc := by
  obtain ⟨is, -, -, -, h, -⟩ := h
  exact (hD.sub is h.2 h.1).weaken (fun _ q _ h => hB q.1 h)
theorem q_muV {v : Option Value} (F : q_Fx p s m c E own cc nL) (hM : q_MU l E y bytes maxL ret d (.ref b :: As) H.size wc wc1 v) (hF : q_CV C y bytes maxL ret n) (hl : q_L own index y) (hc : q_Cut ws wc ws1 wc1) (hP : va_P (q_D E) vwCl ws H) (hD : va_D A ws) (hS : va_S A s.heap H locs) (hA : ∀ q, s.heap.size ≤ q → A q) (hAl : ∀ q, A q → q_lo E ≤ q) (hd : d + 1 ≤ k ∧ maxL ≤ 40)
    {ci q0 : Nat} {q : vw_C} {fs : List Value} (he : wc[q0]? = some (b, .inr (ci, fs))) (hcl : vwCl[ci]? = some q) (hq : q.1 = C) (hn : As.length = n) (hl2 : ∃ lv, lv_has ls nL lv) (hst : st0 = As.reverse ++ .ref b :: rest) (hW : (rest.map fun v => v.category).sum ≤ 8) (hdg : decode cc pc = .ok (.invokevirtual index, 3))
    (kk : ∀ (H1 : Heap) (locs1 : List Loc), va_P (q_D E) vwCl ws1 H1 → va_D A ws1 → va_S A s.heap H1 locs1 → W p l e (q_rm k) s m args below meth c H1 locs1 0 0 Q (F0 m (pc + 3) ls (v.toList ++ rest))) : W p l e (q_rm k) s m args below meth c H locs 0 0 Q (F0 m pc ls st0) := by
  obtain ⟨lv, hlv⟩ := hl2
  have hPw := hc.P hP
  have hDw : va_D (fun q => q_lo E ≤ q) wc := hc.D hD hAl
  have hsz : q_lo E ≤ H.size := Nat.le_trans (hAl _ (hA _ (Nat.le_refl _))) hS.1
  have hrec : ∃ cell : Cell, H[b]? = some cell ∧ cell.vm.isStatics = false ∧ s.vm.findClass C = some cell.cls := by
    rw [← hq]
    exact va_recv F.2.2.2.2.2.1 hPw hcl he
  have hpre : ∀ U : State, U.heap = H → s.WarmedH U.vm → va_Pc (.ref b :: As) (fun U => U.heap.size = H.size ∧ q_EV E U ∧ va_P (q_D E) vwCl wc U.heap ∧ va_D (fun q => q_lo E ≤ q) wc ∧ q_lo E ≤ H.size) (.ref b :: As).toArray U :=
    fun U hU hW => ⟨rfl, by rw [hU], F.2.2.2.2.2.go hAl hS U hU hW, by rw [hU]; exact hPw, hDw, hsz⟩
  rcases hl with hl | ⟨host, hl⟩
  · exact q_cMU hc hP hD hS hA (q_runV F hM q_muB hF hl hd.1 hd.2 hrec hpre hn hlv.1 hst hW hdg) kk
  · exact q_cMU hc hP hD hS hA (q_runVN F hM q_muB hF hl hd.1 hd.2 hrec hpre hn hlv.1 hst hW hdg) kk
theorem q_muS {v : Option Value} (F : q_Fx p s m c E own cc nL) (hM : q_MU l E y bytes maxL ret d As H.size wc wc1 v) (hF : q_CS y bytes maxL ret n) (hl : q_L own index y) (hc : q_Cut ws wc ws1 wc1) (hP : va_P (q_D E) vwCl ws H) (hD : va_D A ws) (hS : va_S A s.heap H locs) (hA : ∀ q, s.heap.size ≤ q → A q) (hAl : ∀ q, A q → q_lo E ≤ q) (hd : d + 1 ≤ k ∧ maxL ≤ 40)
    (hn : As.length = n) (hl2 : ∃ lv, lv_has ls nL lv) (hst : st0 = As.reverse ++ rest) (hW : (rest.map fun v => v.category).sum ≤ 8) (hdg : decode cc pc = .ok (.invokestatic index, 3))
    (kk : ∀ (H1 : Heap) (locs1 : List Loc), va_P (q_D E) vwCl ws1 H1 → va_D A ws1 → va_S A s.heap H1 locs1 → W p l e (q_rm k) s m args below meth c H1 locs1 0 0 Q (F0 m (pc + 3) ls (v.toList ++ rest))) : W p l e (q_rm k) s m args below meth c H locs 0 0 Q (F0 m pc ls st0) := by
  obtain ⟨lv, hlv⟩ := hl2
  have hPw := hc.P hP
  have hDw : va_D (fun q => q_lo E ≤ q) wc := hc.D hD hAl
  have hsz : q_lo E ≤ H.size := Nat.le_trans (hAl _ (hA _ (Nat.le_refl _))) hS.1
  have hpre : ∀ U : State, U.heap = H → s.WarmedH U.vm → va_Pc As (fun U => U.heap.size = H.size ∧ q_EV E U ∧ va_P (q_D E) vwCl wc U.heap ∧ va_D (fun q => q_lo E ≤ q) wc ∧ q_lo E ≤ H.size) As.toArray U :=
    fun U hU hW => ⟨rfl, by rw [hU], F.2.2.2.2.2.go hAl hS U hU hW, by rw [hU]; exact hPw, hDw, hsz⟩
  rcases hl with hl | ⟨host, hl⟩
  · exact q_cMU hc hP hD hS hA (q_runS F hM q_muB hF hl hd.1 hd.2 hpre hn hlv.1 hst hW hdg) kk
  · exact q_cMU hc hP hD hS hA (q_runSN F hM q_muB hF hl hd.1 hd.2 hpre hn hlv.1 hst hW hdg) kk
end QC
