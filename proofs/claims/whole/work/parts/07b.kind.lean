theorem q_cJ0_indexOf_0f7a4 : q_CV RJ0 yJ0_indexOf_0f7a4 cJ0_indexOf_0f7a4 2 (some .int) 1 := ⟨q_in (w := .code yJ0_indexOf_0f7a4 cJ0_indexOf_0f7a4 2 (some .int)) (k := 256) (by decide +kernel) (by decide +kernel), q_in (w := .instanceMethod yJ0_indexOf_0f7a4) (k := 254) (by decide +kernel) (by decide +kernel), q_in (w := .selects RJ0 yJ0_indexOf_0f7a4 yJ0_indexOf_0f7a4) (k := 255) (by decide +kernel) (by decide +kernel), q_in (w := .initialized RJ0) (k := 73) (by decide +kernel) (by decide +kernel), rfl, by decide +kernel, by decide +kernel, by decide +kernel⟩
theorem q_cJ0_indexOf_7cf53 : q_CV RJ0 yJ0_indexOf_7cf53 cJ0_indexOf_7cf53 3 (some .int) 2 := ⟨q_in (w := .code yJ0_indexOf_7cf53 cJ0_indexOf_7cf53 3 (some .int)) (k := 260) (by decide +kernel) (by decide +kernel), q_in (w := .instanceMethod yJ0_indexOf_7cf53) (k := 258) (by decide +kernel) (by decide +kernel), q_in (w := .selects RJ0 yJ0_indexOf_7cf53 yJ0_indexOf_7cf53) (k := 259) (by decide +kernel) (by decide +kernel), q_in (w := .initialized RJ0) (k := 73) (by decide +kernel) (by decide +kernel), rfl, by decide +kernel, by decide +kernel, by decide +kernel⟩
theorem q_cJ0_isLatin1_aae02 : q_CV RJ0 yJ0_isLatin1_aae02 cJ0_isLatin1_aae02 1 (some .boolean) 0 := ⟨q_in (w := .code yJ0_isLatin1_aae02 cJ0_isLatin1_aae02 1 (some .boolean)) (k := 264) (by decide +kernel) (by decide +kernel), q_in (w := .instanceMethod yJ0_isLatin1_aae02) (k := 262) (by decide +kernel) (by decide +kernel), q_in (w := .selects RJ0 yJ0_isLatin1_aae02 yJ0_isLatin1_aae02) (k := 263) (by decide +kernel) (by decide +kernel), q_in (w := .initialized RJ0) (k := 73) (by decide +kernel) (by decide +kernel), rfl, by decide +kernel, by decide +kernel, by decide +kernel⟩
theorem q_cJ0_length_8abf5 : q_CV RJ0 yJ0_length_8abf5 cJ0_length_8abf5 1 (some .int) 0 := ⟨q_in (w := .code yJ0_length_8abf5 cJ0_length_8abf5 1 (some .int)) (k := 270) (by decide +kernel) (by decide +kernel), q_in (w := .instanceMethod yJ0_length_8abf5) (k := 268) (by decide +kernel) (by decide +kernel), q_in (w := .selects RJ0 yJ0_length_8abf5 yJ0_length_8abf5) (k := 269) (by decide +kernel) (by decide +kernel), q_in (w := .initialized RJ0) (k := 73) (by decide +kernel) (by decide +kernel), rfl, by decide +kernel, by decide +kernel, by decide +kernel⟩
theorem q_cJ0_coder_7d493 : q_CV RJ0 yJ0_coder_7d493 cJ0_coder_7d493 1 (some .byte) 0 := ⟨q_in (w := .code yJ0_coder_7d493 cJ0_coder_7d493 1 (some .byte)) (k := 274) (by decide +kernel) (by decide +kernel), q_in (w := .instanceMethod yJ0_coder_7d493) (k := 272) (by decide +kernel) (by decide +kernel), q_in (w := .selects RJ0 yJ0_coder_7d493 yJ0_coder_7d493) (k := 273) (by decide +kernel) (by decide +kernel), q_in (w := .initialized RJ0) (k := 73) (by decide +kernel) (by decide +kernel), rfl, by decide +kernel, by decide +kernel, by decide +kernel⟩
theorem q_cJ1_indexOf_4cfef : q_CS yJ1_indexOf_4cfef cJ1_indexOf_4cfef 4 (some .int) 4 := ⟨q_in (w := .code yJ1_indexOf_4cfef cJ1_indexOf_4cfef 4 (some .int)) (k := 277) (by decide +kernel) (by decide +kernel), q_in (w := .static yJ1_indexOf_4cfef) (k := 276) (by decide +kernel) (by decide +kernel), q_in (w := .initialized yJ1_indexOf_4cfef.cls) (k := 74) (by decide +kernel) (by decide +kernel), by decide +kernel, by decide +kernel, by decide +kernel⟩
theorem q_cJ1_canEncode_9a6ad : q_CS yJ1_canEncode_9a6ad cJ1_canEncode_9a6ad 1 (some .boolean) 1 := ⟨q_in (w := .code yJ1_canEncode_9a6ad cJ1_canEncode_9a6ad 1 (some .boolean)) (k := 280) (by decide +kernel) (by decide +kernel), q_in (w := .static yJ1_canEncode_9a6ad) (k := 279) (by decide +kernel) (by decide +kernel), q_in (w := .initialized yJ1_canEncode_9a6ad.cls) (k := 74) (by decide +kernel) (by decide +kernel), by decide +kernel, by decide +kernel, by decide +kernel⟩
theorem q_cJ1_indexOfChar_4cfef : q_CS yJ1_indexOfChar_4cfef cJ1_indexOfChar_4cfef 6 (some .int) 4 := ⟨q_in (w := .code yJ1_indexOfChar_4cfef cJ1_indexOfChar_4cfef 6 (some .int)) (k := 289) (by decide +kernel) (by decide +kernel), q_in (w := .static yJ1_indexOfChar_4cfef) (k := 288) (by decide +kernel) (by decide +kernel), q_in (w := .initialized yJ1_indexOfChar_4cfef.cls) (k := 74) (by decide +kernel) (by decide +kernel), by decide +kernel, by decide +kernel, by decide +kernel⟩
theorem q_lX3_248 : Cond.methodLink RX3 248 yJ0_indexOf_0f7a4 ∈ q_BIG := q_in (w := .methodLink RX3 248 yJ0_indexOf_0f7a4) (k := 253) (by decide +kernel) (by decide +kernel)
theorem q_lJ0_633 : Cond.methodLink RJ0 633 yJ0_indexOf_7cf53 ∈ q_BIG := q_in (w := .methodLink RJ0 633 yJ0_indexOf_7cf53) (k := 257) (by decide +kernel) (by decide +kernel)
theorem q_lJ0_492 : Cond.methodLink RJ0 492 yJ0_isLatin1_aae02 ∈ q_BIG := q_in (w := .methodLink RJ0 492 yJ0_isLatin1_aae02) (k := 261) (by decide +kernel) (by decide +kernel)
theorem q_lJ0_505 : Cond.methodLink RJ0 505 yJ0_length_8abf5 ∈ q_BIG := q_in (w := .methodLink RJ0 505 yJ0_length_8abf5) (k := 267) (by decide +kernel) (by decide +kernel)
theorem q_lJ0_335 : Cond.methodLink RJ0 335 yJ0_coder_7d493 ∈ q_BIG := q_in (w := .methodLink RJ0 335 yJ0_coder_7d493) (k := 271) (by decide +kernel) (by decide +kernel)
theorem q_lJ0_637 : Cond.methodLink RJ0 637 yJ1_indexOf_4cfef ∈ q_BIG := q_in (w := .methodLink RJ0 637 yJ1_indexOf_4cfef) (k := 275) (by decide +kernel) (by decide +kernel)
theorem q_lJ1_88 : Cond.methodLink RJ1 88 yJ1_canEncode_9a6ad ∈ q_BIG := q_in (w := .methodLink RJ1 88 yJ1_canEncode_9a6ad) (k := 278) (by decide +kernel) (by decide +kernel)
theorem q_lJ1_95 : Cond.methodLink RJ1 95 yJ1_indexOfChar_4cfef ∈ q_BIG := q_in (w := .methodLink RJ1 95 yJ1_indexOfChar_4cfef) (k := 287) (by decide +kernel) (by decide +kernel)
theorem q_mJ1_92 : q_Mm RJ1 92 Lib.Math.max.name Lib.Math.max.code := ⟨q_in (w := .methodLink RJ1 92 Lib.Math.max.name) (k := 281) (by decide +kernel) (by decide +kernel), q_in (w := .static Lib.Math.max.name) (k := 282) (by decide +kernel) (by decide +kernel), q_in (w := .initialized "java/lang/Math") (k := 75) (by decide +kernel) (by decide +kernel), q_in (w := .code Lib.Math.max.name Lib.Math.max.code 2 (some .int)) (k := 283) (by decide +kernel) (by decide +kernel)⟩
theorem q_mJ1_38 : q_Mm RJ1 38 Lib.Math.min.name Lib.Math.min.code := ⟨q_in (w := .methodLink RJ1 38 Lib.Math.min.name) (k := 284) (by decide +kernel) (by decide +kernel), q_in (w := .static Lib.Math.min.name) (k := 285) (by decide +kernel) (by decide +kernel), q_in (w := .initialized "java/lang/Math") (k := 75) (by decide +kernel) (by decide +kernel), q_in (w := .code Lib.Math.min.name Lib.Math.min.code 2 (some .int)) (k := 286) (by decide +kernel) (by decide +kernel)⟩
theorem q_fJ0_38 : Cond.fieldLink RJ0 38 RJ0 "COMPACT_STRINGS" "Z" ∈ q_BIG := q_in (w := .fieldLink RJ0 38 RJ0 "COMPACT_STRINGS" "Z") (k := 265) (by decide +kernel) (by decide +kernel)
theorem q_fJ0_15 : Cond.fieldLink RJ0 15 RJ0 "coder" "B" ∈ q_BIG := q_in (w := .fieldLink RJ0 15 RJ0 "coder" "B") (k := 953) (by decide +kernel) (by decide +kernel)
theorem q_fJ0_9 : Cond.fieldLink RJ0 9 RJ0 "value" "[B" ∈ q_BIG := q_in (w := .fieldLink RJ0 9 RJ0 "value" "[B") (k := 954) (by decide +kernel) (by decide +kernel)
def q_kind (c : Int32) : Int32 := if c = 101 then 0 else if c = 112 then 1 else if c = 114 then 2 else if c = 98 then 3 else if c = 116 then 4 else -1
def zX3_kindOf (v0 : Int32) : Option (Int32) := some (q_kind (v0.toUInt32 % 65536).toInt32)
section QK
variable {p : Program} {l : Launch} {e : Env} {s : State} {m : MethodId} {args : Array Value} {below : List Frame} {meth : Method} {c : Code} {H : Heap} {locs : List Loc} {Q : State → Prop}
variable {pc : Nat} {ls : Array Slot} {rest st0 : List Value} {E : q_E} {own C : String} {index d k n maxL nL : Nat} {y : MethodName} {bytes cc : ByteArray} {ret : Option FieldType} {b : Addr} {As : List Value} {wc : va_W}
theorem q_roK {v : Value} (F : q_Fx p s m c E own cc nL) (hM : q_RO l E y bytes maxL ret d (.ref b :: As) wc v) (hF : q_CV C y bytes maxL ret n) (hl : Cond.methodLink own index y ∈ q_BIG) (hV : ∀ U : State, U.heap = H → s.WarmedH U.vm → q_EV E U) (hP : va_P (q_D E) vwCl wc H) (hd : d + 1 ≤ k ∧ maxL ≤ 40)
    (hrec : ∃ cell : Cell, H[b]? = some cell ∧ cell.vm.isStatics = false ∧ s.vm.findClass C = some cell.cls) (hn : As.length = n) (hl2 : ∃ lv, lv_has ls nL lv) (hst : st0 = As.reverse ++ .ref b :: rest) (hW : (rest.map fun v => v.category).sum ≤ 8) (hdg : decode cc pc = .ok (.invokevirtual index, 3))
    (kk : W p l e (q_rm k) s m args below meth c H locs 0 0 Q (F0 m (pc + 3) ls (v :: rest))) : W p l e (q_rm k) s m args below meth c H locs 0 0 Q (F0 m pc ls st0) := by
  obtain ⟨lv, hlv⟩ := hl2
  exact q_cRO (q_runV F hM (q_roB (v := v)) hF hl hd.1 hd.2 hrec (fun U hU hW => ⟨rfl, hV U hU hW, by rw [hU]; exact hP⟩) hn hlv.1 hst hW hdg) kk
theorem q_recK (hE : q_EV E s) : ∃ cell : Cell, s.heap[q_sk E]? = some cell ∧ cell.vm.isStatics = false ∧ s.vm.findClass RJ0 = some cell.cls := vk_recv hE.2.2.2.1 (i := 0) (by omega) va_S.rf
theorem q_txK (hE : q_EV E s) : va_OF "java/lang/String" "coder" "B" (.int 0) (q_sk E) (fun q => q_lo E ≤ q) s s.heap ∧ va_OF "java/lang/String" "value" "[B" (.ref (q_sv E)) (q_sk E) (fun q => q_lo E ≤ q) s s.heap ∧ va_T .byte (q_sv E) 5 (fun j => .int ([101, 112, 114, 98, 116].getD j 0)) (fun q => q_lo E ≤ q) s s.heap := (hE.2.2.2.1.1 0 (by omega)).2
end QK
theorem kJ0_isLatin1 (l : Launch) (E : q_E) : q_RO l E yJ0_isLatin1_aae02 cJ0_isLatin1_aae02 1 (some .boolean) 1 [.ref (q_sk E)] ([]) (.int 1) := by
  refine q_RO.intro (by decide) (Nat.le_of_ble_eq_true rfl) ?_
  intro p e s m args below meth c X hP ls hl
  obtain ⟨hx, hb, hml, hr, hlk, hown, hB, hE⟩ := X
  have hown : s.vm.findClass RJ0 = some m.cls := hown
  have F : q_Fx p s m c E RJ0 cJ0_isLatin1_aae02 1 := ⟨hx, hb, hml, hown, hB, hE⟩
  have hl : lv_has ls 1 [(0, .ref (q_sk E))] := hl
  obtain ⟨t1, t2, t3⟩ := q_txK hE
  refine va_gets hx hb hE.2.2.2.2 va_S.rf hown (hB _ q_fJ0_38 args) (fun _ h => h) dJ0_isLatin1_aae02_0 ?_
  refine lv_if_eq (tgt := 17) hx hb dJ0_isLatin1_aae02_3 (by decide) (fun c1 => absurd c1 (by decide)) (fun c1 => ?_)
  refine lv_aload_n hx hb dJ0_isLatin1_aae02_6 rfl (lv_at hl 0 rfl) ?_
  refine vk_getf hx hb t1 va_S.rf hown (hB _ q_fJ0_15 args) (fun _ h => h) dJ0_isLatin1_aae02_7 ?_
  refine lv_if_ne (tgt := 17) hx hb dJ0_isLatin1_aae02_10 (by decide) (fun c1 => absurd rfl c1) (fun c1 => ?_)
  refine lv_iconst (v := 1) hx hb dJ0_isLatin1_aae02_13 (by decide) ?_
  refine lv_goto (tgt := 18) hx hb dJ0_isLatin1_aae02_14 (by decide) ?_
  exact q_rZ F hr hlk (Or.inr rfl) dJ0_isLatin1_aae02_18 rfl
theorem kJ0_coder (l : Launch) (E : q_E) : q_RO l E yJ0_coder_7d493 cJ0_coder_7d493 1 (some .byte) 1 [.ref (q_sk E)] ([]) (.int 0) := by
  refine q_RO.intro (by decide) (Nat.le_of_ble_eq_true rfl) ?_
  intro p e s m args below meth c X hP ls hl
  obtain ⟨hx, hb, hml, hr, hlk, hown, hB, hE⟩ := X
  have hown : s.vm.findClass RJ0 = some m.cls := hown
  have F : q_Fx p s m c E RJ0 cJ0_coder_7d493 1 := ⟨hx, hb, hml, hown, hB, hE⟩
  have hl : lv_has ls 1 [(0, .ref (q_sk E))] := hl
  obtain ⟨t1, t2, t3⟩ := q_txK hE
  refine va_gets hx hb hE.2.2.2.2 va_S.rf hown (hB _ q_fJ0_38 args) (fun _ h => h) dJ0_coder_7d493_0 ?_
  refine lv_if_eq (tgt := 13) hx hb dJ0_coder_7d493_3 (by decide) (fun c1 => absurd c1 (by decide)) (fun c1 => ?_)
  refine lv_aload_n hx hb dJ0_coder_7d493_6 rfl (lv_at hl 0 rfl) ?_
  refine vk_getf hx hb t1 va_S.rf hown (hB _ q_fJ0_15 args) (fun _ h => h) dJ0_coder_7d493_7 ?_
  refine lv_goto (tgt := 14) hx hb dJ0_coder_7d493_10 (by decide) ?_
  exact W.zret F.1 F.2.1 hr rfl (fun t ht hW => ⟨rfl, ht⟩) (fun q h => by cases h) dJ0_coder_7d493_14 (hlocks := hlk)
theorem kJ0_length (l : Launch) (E : q_E) : q_RO l E yJ0_length_8abf5 cJ0_length_8abf5 1 (some .int) 2 [.ref (q_sk E)] ([]) (.int 5) := by
  refine q_RO.intro (by decide) (Nat.le_of_ble_eq_true rfl) ?_
  intro p e s m args below meth c X hP ls hl
  obtain ⟨hx, hb, hml, hr, hlk, hown, hB, hE⟩ := X
  have hown : s.vm.findClass RJ0 = some m.cls := hown
  have F : q_Fx p s m c E RJ0 cJ0_length_8abf5 1 := ⟨hx, hb, hml, hown, hB, hE⟩
  have hV := q_EV.here hE
  have hl : lv_has ls 1 [(0, .ref (q_sk E))] := hl
  obtain ⟨t1, t2, t3⟩ := q_txK hE
  refine lv_aload_n hx hb dJ0_length_8abf5_0 rfl (lv_at hl 0 rfl) ?_
  refine vk_getf hx hb t2 va_S.rf hown (hB _ q_fJ0_9 args) (fun _ h => h) dJ0_length_8abf5_1 ?_
  refine va_tlen hx hb t3 va_S.rf (v := 5) rfl dJ0_length_8abf5_4 ?_
  refine lv_aload_n hx hb dJ0_length_8abf5_5 rfl (lv_at hl 0 rfl) ?_
  refine q_roK F (kJ0_coder l E) q_cJ0_coder_7d493 q_lJ0_335 hV hP ⟨by decide, by decide⟩ (q_recK hE) rfl ⟨_, hl⟩ (rest := [.int 5]) rfl (Nat.le_of_ble_eq_true rfl) dJ0_length_8abf5_6 ?_
  refine lv_ishr hx hb dJ0_length_8abf5_9 ?_
  exact q_rI F hr hlk dJ0_length_8abf5_10 (by decide)
theorem kJ1_canEncode (l : Launch) (E : q_E) (v0 : Int32) : q_RO l E yJ1_canEncode_9a6ad cJ1_canEncode_9a6ad 1 (some .boolean) 1 [.int v0] ([]) (.int (if v0 < 0 then 0 else if 255 < v0 then 0 else 1)) := by
  refine q_RO.intro (by decide) (Nat.le_of_ble_eq_true rfl) ?_
  intro p e s m args below meth c X hP ls hl
  obtain ⟨hx, hb, hml, hr, hlk, hown, hB, hE⟩ := X
  have hown : s.vm.findClass RJ1 = some m.cls := hown
  have F : q_Fx p s m c E RJ1 cJ1_canEncode_9a6ad 1 := ⟨hx, hb, hml, hown, hB, hE⟩
  have hl : lv_has ls 1 [(0, .int v0)] := hl
  refine lv_iload_n hx hb dJ1_canEncode_9a6ad_0 rfl (lv_at hl 0 rfl) ?_
  refine lv_if_lt (tgt := 15) hx hb dJ1_canEncode_9a6ad_1 (by decide) (fun c1 => ?_) (fun c1 => ?_)
  · refine lv_iconst (v := 0) hx hb dJ1_canEncode_9a6ad_15 (by decide) ?_
    exact q_rZ F hr hlk (Or.inl rfl) dJ1_canEncode_9a6ad_16 (by rw [if_pos c1])
  · refine lv_iload_n hx hb dJ1_canEncode_9a6ad_4 rfl (lv_at hl 0 rfl) ?_
    refine lv_sipush (v := 255) hx hb dJ1_canEncode_9a6ad_5 (by decide) ?_
    refine lv_icmp_gt (tgt := 15) hx hb dJ1_canEncode_9a6ad_8 (by decide) (fun c2 => ?_) (fun c2 => ?_)
    · refine lv_iconst (v := 0) hx hb dJ1_canEncode_9a6ad_15 (by decide) ?_
      exact q_rZ F hr hlk (Or.inl rfl) dJ1_canEncode_9a6ad_16 (by rw [if_neg c1, if_pos c2])
    · refine lv_iconst (v := 1) hx hb dJ1_canEncode_9a6ad_11 (by decide) ?_
      refine lv_goto (tgt := 16) hx hb dJ1_canEncode_9a6ad_12 (by decide) ?_
      exact q_rZ F hr hlk (Or.inr rfl) dJ1_canEncode_9a6ad_16 (by rw [if_neg c1, if_neg c2])
def q_kb (b : Int32) : Int32 := if (101 : Int32) = b then 0 else if (112 : Int32) = b then 1 else if (114 : Int32) = b then 2 else if (98 : Int32) = b then 3 else if (116 : Int32) = b then 4 else -1
theorem a_kb : ∀ j, j < 256 → q_kind (nI j) = q_kb (nI j).toInt8.toInt32 := by decide +kernel
theorem kJ1_indexOfChar (l : Launch) (E : q_E) (v1 : Int32) : q_RO l E yJ1_indexOfChar_4cfef cJ1_indexOfChar_4cfef 6 (some .int) 1 [.ref (q_sv E), .int v1, .int 0, .int 5] ([]) (.int (q_kb v1.toInt8.toInt32)) := by
  refine q_RO.intro (by decide) (Nat.le_of_ble_eq_true rfl) ?_
  intro p e s m args below meth c X hP ls hl
  obtain ⟨hx, hb, hml, hr, hlk, hown, hB, hE⟩ := X
  have hown : s.vm.findClass RJ1 = some m.cls := hown
  have F : q_Fx p s m c E RJ1 cJ1_indexOfChar_4cfef 6 := ⟨hx, hb, hml, hown, hB, hE⟩
  have hl : lv_has ls 6 [(0, .ref (q_sv E)), (1, .int v1), (2, .int 0), (3, .int 5)] := hl
  obtain ⟨t1, t2, t3⟩ := q_txK hE
  have step : ∀ (i : Nat) (a i' : Int32), i < 5 → [101, 112, 114, 98, 116].getD i 0 = a → nI i + Int32.ofInt 1 = i' → ((a = v1.toInt8.toInt32) → nI i = q_kb v1.toInt8.toInt32) → ((¬ a = v1.toInt8.toInt32) → ∀ ls : Array Slot, lv_has ls 6 [(5, .int i'), (4, .int v1.toInt8.toInt32), (0, .ref (q_sv E)), (3, .int 5)] → W p l e (q_rm 1) s m args below meth c s.heap [] 0 0 (MQ below (q_roQ (.int (q_kb v1.toInt8.toInt32))) args s 0 0 q_no) (F0 m 7 ls [])) → ∀ ls : Array Slot, lv_has ls 6 [(5, .int (nI i)), (4, .int v1.toInt8.toInt32), (0, .ref (q_sv E)), (3, .int 5)] → W p l e (q_rm 1) s m args below meth c s.heap [] 0 0 (MQ below (q_roQ (.int (q_kb v1.toInt8.toInt32))) args s 0 0 q_no) (F0 m 7 ls []) := by
    intro i a i' hi ha hi' h1 h2 ls hl
    refine lv_iload hx hb dJ1_indexOfChar_4cfef_7 (lv_at hl 0 rfl) ?_
    refine lv_iload_n hx hb dJ1_indexOfChar_4cfef_9 rfl (lv_at hl 3 rfl) ?_
    refine lv_icmp_ge (tgt := 31) hx hb dJ1_indexOfChar_4cfef_10 (by decide) (fun c1 => ?_) (fun c1 => ?_)
    · rw [show (5 : Int32) = nI 5 from rfl, nI_leI (by omega) (by omega)] at c1
      omega
    · refine lv_aload_n hx hb dJ1_indexOfChar_4cfef_13 rfl (lv_at hl 2 rfl) ?_
      refine lv_iload hx hb dJ1_indexOfChar_4cfef_14 (lv_at hl 0 rfl) ?_
      refine va_tb hx hb t3 va_S.rf (v := .int a) (vp_in_nI hi (by omega)) (by rw [nI_clamp (by omega), ha]) dJ1_indexOfChar_4cfef_16 ?_
      refine lv_iload hx hb dJ1_indexOfChar_4cfef_17 (lv_at hl 1 rfl) ?_
      refine lv_icmp_ne (tgt := 25) hx hb dJ1_indexOfChar_4cfef_19 (by decide) (fun c2 => ?_) (fun c2 => ?_)
      · refine lv_iinc (v := i') (lv' := [(5, .int i'), (4, .int v1.toInt8.toInt32), (0, .ref (q_sv E)), (3, .int 5)]) hx hb dJ1_indexOfChar_4cfef_25 hl (k := 0) rfl hi' (by decide) rfl (fun ls hl => ?_)
        refine lv_goto (tgt := 7) hx hb dJ1_indexOfChar_4cfef_28 (by decide) ?_
        exact h2 c2 ls hl
      · refine lv_iload hx hb dJ1_indexOfChar_4cfef_22 (lv_at hl 0 rfl) ?_
        exact q_rI F hr hlk dJ1_indexOfChar_4cfef_24 (by rw [h1 c2])
  refine lv_iload_n hx hb dJ1_indexOfChar_4cfef_0 rfl (lv_at hl 1 rfl) ?_
  refine lv_i2b hx hb dJ1_indexOfChar_4cfef_1 rfl ?_
  refine lv_istore (lv' := [(4, .int v1.toInt8.toInt32), (0, .ref (q_sv E)), (1, .int v1), (2, .int 0), (3, .int 5)]) hx hb dJ1_indexOfChar_4cfef_2 hl (by decide) rfl (fun ls hl => ?_)
  refine lv_iload_n hx hb dJ1_indexOfChar_4cfef_4 rfl (lv_at hl 3 rfl) ?_
  refine lv_istore (lv' := [(5, .int 0), (4, .int v1.toInt8.toInt32), (0, .ref (q_sv E)), (1, .int v1), (2, .int 0), (3, .int 5)]) hx hb dJ1_indexOfChar_4cfef_5 hl (by decide) rfl (fun ls hl => ?_)
  have hl : lv_has ls 6 [(5, .int (nI 0)), (4, .int v1.toInt8.toInt32), (0, .ref (q_sv E)), (3, .int 5)] := lv_sub hl [0, 1, 2, 5] rfl
  unfold q_kb at step ⊢
  refine step 0 101 (nI 1) (by omega) rfl rfl (fun c1 => by rw [if_pos c1]; rfl) (fun c1 => ?_) ls hl
  refine step 1 112 (nI 2) (by omega) rfl rfl (fun c2 => by rw [if_neg c1, if_pos c2]; rfl) (fun c2 => ?_)
  refine step 2 114 (nI 3) (by omega) rfl rfl (fun c3 => by rw [if_neg c1, if_neg c2, if_pos c3]; rfl) (fun c3 => ?_)
  refine step 3 98 (nI 4) (by omega) rfl rfl (fun c4 => by rw [if_neg c1, if_neg c2, if_neg c3, if_pos c4]; rfl) (fun c4 => ?_)
  refine step 4 116 (nI 5) (by omega) rfl rfl (fun c5 => by rw [if_neg c1, if_neg c2, if_neg c3, if_neg c4, if_pos c5]; rfl) (fun c5 => ?_)
  intro ls hl
  refine lv_iload hx hb dJ1_indexOfChar_4cfef_7 (lv_at hl 0 rfl) ?_
  refine lv_iload_n hx hb dJ1_indexOfChar_4cfef_9 rfl (lv_at hl 3 rfl) ?_
  refine lv_icmp_ge (tgt := 31) hx hb dJ1_indexOfChar_4cfef_10 (by decide) (fun c6 => ?_) (fun c6 => absurd (by decide) c6)
  refine lv_iconst (v := (-1)) hx hb dJ1_indexOfChar_4cfef_31 (by decide) ?_
  exact q_rI F hr hlk dJ1_indexOfChar_4cfef_32 (by rw [if_neg c1, if_neg c2, if_neg c3, if_neg c4, if_neg c5])
theorem kJ1_indexOf (l : Launch) (E : q_E) (j : Nat) (hj : j < 65536) : q_RO l E yJ1_indexOf_4cfef cJ1_indexOf_4cfef 4 (some .int) 2 [.ref (q_sv E), .int (nI j), .int 0, .int 5] ([]) (.int (q_kind (nI j))) := by
  refine q_RO.intro (by decide) (Nat.le_of_ble_eq_true rfl) ?_
  intro p e s m args below meth c X hP ls hl
  obtain ⟨hx, hb, hml, hr, hlk, hown, hB, hE⟩ := X
  have hown : s.vm.findClass RJ1 = some m.cls := hown
  have F : q_Fx p s m c E RJ1 cJ1_indexOf_4cfef 4 := ⟨hx, hb, hml, hown, hB, hE⟩
  have hV := q_EV.here hE
  have hl : lv_has ls 4 [(0, .ref (q_sv E)), (1, .int (nI j)), (2, .int 0), (3, .int 5)] := hl
  obtain ⟨t1, t2, t3⟩ := q_txK hE
  refine lv_iload_n hx hb dJ1_indexOf_4cfef_0 rfl (lv_at hl 1 rfl) ?_
  refine q_roS F (kJ1_canEncode l E (nI j)) q_cJ1_canEncode_9a6ad (Or.inl q_lJ1_88) hV hP ⟨by decide, by decide⟩ rfl ⟨_, hl⟩ (rest := []) rfl (Nat.le_of_ble_eq_true rfl) dJ1_indexOf_4cfef_1 ?_
  by_cases h255 : j < 256
  · have hv : (if nI j < 0 then (0 : Int32) else if 255 < nI j then 0 else 1) = 1 := by
      rw [if_neg (nI_pos (by omega)), if_neg (by rw [show (255 : Int32) = nI 255 from rfl, nI_ltI (by omega) (by omega)]; omega)]
    rw [hv]
    refine lv_if_ne (tgt := 9) hx hb dJ1_indexOf_4cfef_4 (by decide) (fun c1 => ?_) (fun c1 => absurd c1 (by decide))
    refine lv_iload_n hx hb dJ1_indexOf_4cfef_9 rfl (lv_at hl 2 rfl) ?_
    refine lv_iconst (v := 0) hx hb dJ1_indexOf_4cfef_10 (by decide) ?_
    refine q_max F q_mJ1_92 (by decide) ⟨_, hl⟩ (Nat.le_of_ble_eq_true rfl) dJ1_indexOf_4cfef_11 ?_
    refine lv_istore_n (lv' := [(2, .int 0), (0, .ref (q_sv E)), (1, .int (nI j)), (3, .int 5)]) hx hb dJ1_indexOf_4cfef_14 rfl hl (by decide) rfl (fun ls hl => ?_)
    refine lv_iload_n hx hb dJ1_indexOf_4cfef_15 rfl (lv_at hl 3 rfl) ?_
    refine lv_aload_n hx hb dJ1_indexOf_4cfef_16 rfl (lv_at hl 1 rfl) ?_
    refine va_tlen hx hb t3 va_S.rf (v := 5) rfl dJ1_indexOf_4cfef_17 ?_
    refine q_min F q_mJ1_38 (by decide) ⟨_, hl⟩ (Nat.le_of_ble_eq_true rfl) dJ1_indexOf_4cfef_18 ?_
    refine lv_istore_n (lv' := [(3, .int 5), (2, .int 0), (0, .ref (q_sv E)), (1, .int (nI j))]) hx hb dJ1_indexOf_4cfef_21 rfl hl (by decide) rfl (fun ls hl => ?_)
    refine lv_iload_n hx hb dJ1_indexOf_4cfef_22 rfl (lv_at hl 1 rfl) ?_
    refine lv_iload_n hx hb dJ1_indexOf_4cfef_23 rfl (lv_at hl 0 rfl) ?_
    refine lv_icmp_lt (tgt := 29) hx hb dJ1_indexOf_4cfef_24 (by decide) (fun c2 => ?_) (fun c2 => absurd (by decide) c2)
    refine lv_aload_n hx hb dJ1_indexOf_4cfef_29 rfl (lv_at hl 2 rfl) ?_
    refine lv_iload_n hx hb dJ1_indexOf_4cfef_30 rfl (lv_at hl 3 rfl) ?_
    refine lv_iload_n hx hb dJ1_indexOf_4cfef_31 rfl (lv_at hl 1 rfl) ?_
    refine lv_iload_n hx hb dJ1_indexOf_4cfef_32 rfl (lv_at hl 0 rfl) ?_
    refine q_roS F (kJ1_indexOfChar l E (nI j)) q_cJ1_indexOfChar_4cfef (Or.inl q_lJ1_95) hV hP ⟨by decide, by decide⟩ rfl ⟨_, hl⟩ (rest := []) rfl (Nat.le_of_ble_eq_true rfl) dJ1_indexOf_4cfef_33 ?_
    exact q_rI F hr hlk dJ1_indexOf_4cfef_36 (by rw [a_kb j h255])
  · have hv : (if nI j < 0 then (0 : Int32) else if 255 < nI j then 0 else 1) = 0 := by
      rw [if_neg (nI_pos (by omega)), if_pos (by rw [show (255 : Int32) = nI 255 from rfl, nI_ltI (by omega) (by omega)]; omega)]
    rw [hv]
    refine lv_if_ne (tgt := 9) hx hb dJ1_indexOf_4cfef_4 (by decide) (fun c1 => absurd rfl c1) (fun c1 => ?_)
    refine lv_iconst (v := (-1)) hx hb dJ1_indexOf_4cfef_7 (by decide) ?_
    have hk : q_kind (nI j) = -1 := by
      unfold q_kind
      rw [if_neg (show ¬ nI j = (101 : Int32) from fun z => by have := (nI_eq (b := 101) (by omega) (by omega)).mp z; omega), if_neg (show ¬ nI j = (112 : Int32) from fun z => by have := (nI_eq (b := 112) (by omega) (by omega)).mp z; omega), if_neg (show ¬ nI j = (114 : Int32) from fun z => by have := (nI_eq (b := 114) (by omega) (by omega)).mp z; omega), if_neg (show ¬ nI j = (98 : Int32) from fun z => by have := (nI_eq (b := 98) (by omega) (by omega)).mp z; omega), if_neg (show ¬ nI j = (116 : Int32) from fun z => by have := (nI_eq (b := 116) (by omega) (by omega)).mp z; omega)]
    exact q_rI F hr hlk dJ1_indexOf_4cfef_8 (by rw [hk])
theorem kJ0_indexOf2 (l : Launch) (E : q_E) (j : Nat) (hj : j < 65536) : q_RO l E yJ0_indexOf_7cf53 cJ0_indexOf_7cf53 3 (some .int) 3 [.ref (q_sk E), .int (nI j), .int 0] ([]) (.int (q_kind (nI j))) := by
  refine q_RO.intro (by decide) (Nat.le_of_ble_eq_true rfl) ?_
  intro p e s m args below meth c X hP ls hl
  obtain ⟨hx, hb, hml, hr, hlk, hown, hB, hE⟩ := X
  have hown : s.vm.findClass RJ0 = some m.cls := hown
  have F : q_Fx p s m c E RJ0 cJ0_indexOf_7cf53 3 := ⟨hx, hb, hml, hown, hB, hE⟩
  have hV := q_EV.here hE
  have hl : lv_has ls 3 [(0, .ref (q_sk E)), (1, .int (nI j)), (2, .int 0)] := hl
  obtain ⟨t1, t2, t3⟩ := q_txK hE
  refine lv_aload_n hx hb dJ0_indexOf_7cf53_0 rfl (lv_at hl 0 rfl) ?_
  refine q_roK F (kJ0_isLatin1 l E) q_cJ0_isLatin1_aae02 q_lJ0_492 hV hP ⟨by decide, by decide⟩ (q_recK hE) rfl ⟨_, hl⟩ (rest := []) rfl (Nat.le_of_ble_eq_true rfl) dJ0_indexOf_7cf53_1 ?_
  refine lv_if_eq (tgt := 23) hx hb dJ0_indexOf_7cf53_4 (by decide) (fun c1 => absurd c1 (by decide)) (fun c1 => ?_)
  refine lv_aload_n hx hb dJ0_indexOf_7cf53_7 rfl (lv_at hl 0 rfl) ?_
  refine vk_getf hx hb t2 va_S.rf hown (hB _ q_fJ0_9 args) (fun _ h => h) dJ0_indexOf_7cf53_8 ?_
  refine lv_iload_n hx hb dJ0_indexOf_7cf53_11 rfl (lv_at hl 1 rfl) ?_
  refine lv_iload_n hx hb dJ0_indexOf_7cf53_12 rfl (lv_at hl 2 rfl) ?_
  refine lv_aload_n hx hb dJ0_indexOf_7cf53_13 rfl (lv_at hl 0 rfl) ?_
  refine q_roK F (kJ0_length l E) q_cJ0_length_8abf5 q_lJ0_505 hV hP ⟨by decide, by decide⟩ (q_recK hE) rfl ⟨_, hl⟩ (rest := [.int 0, .int (nI j), .ref (q_sv E)]) rfl (Nat.le_of_ble_eq_true rfl) dJ0_indexOf_7cf53_14 ?_
  refine q_roS F (kJ1_indexOf l E j hj) q_cJ1_indexOf_4cfef (Or.inl q_lJ0_637) hV hP ⟨by decide, by decide⟩ rfl ⟨_, hl⟩ (rest := []) rfl (Nat.le_of_ble_eq_true rfl) dJ0_indexOf_7cf53_17 ?_
  refine lv_goto (tgt := 36) hx hb dJ0_indexOf_7cf53_20 (by decide) ?_
  exact q_rI F hr hlk dJ0_indexOf_7cf53_36 rfl
theorem kJ0_indexOf1 (l : Launch) (E : q_E) (j : Nat) (hj : j < 65536) : q_RO l E yJ0_indexOf_0f7a4 cJ0_indexOf_0f7a4 2 (some .int) 4 [.ref (q_sk E), .int (nI j)] ([]) (.int (q_kind (nI j))) := by
  refine q_RO.intro (by decide) (Nat.le_of_ble_eq_true rfl) ?_
  intro p e s m args below meth c X hP ls hl
  obtain ⟨hx, hb, hml, hr, hlk, hown, hB, hE⟩ := X
  have hown : s.vm.findClass RJ0 = some m.cls := hown
  have F : q_Fx p s m c E RJ0 cJ0_indexOf_0f7a4 2 := ⟨hx, hb, hml, hown, hB, hE⟩
  have hV := q_EV.here hE
  have hl : lv_has ls 2 [(0, .ref (q_sk E)), (1, .int (nI j))] := hl
  refine lv_aload_n hx hb dJ0_indexOf_0f7a4_0 rfl (lv_at hl 0 rfl) ?_
  refine lv_iload_n hx hb dJ0_indexOf_0f7a4_1 rfl (lv_at hl 1 rfl) ?_
  refine lv_iconst (v := 0) hx hb dJ0_indexOf_0f7a4_2 (by decide) ?_
  refine q_roK F (kJ0_indexOf2 l E j hj) q_cJ0_indexOf_7cf53 q_lJ0_633 hV hP ⟨by decide, by decide⟩ (q_recK hE) rfl ⟨_, hl⟩ (rest := []) rfl (Nat.le_of_ble_eq_true rfl) dJ0_indexOf_0f7a4_3 ?_
  exact q_rI F hr hlk dJ0_indexOf_0f7a4_6 rfl
theorem kX3_kindOf (l : Launch) (E : q_E) (v0 : Int32) (r : Int32) (h : zX3_kindOf v0 = some r) : q_RO l E yX3_kindOf cX3_kindOf 1 (some .int) 8 [.int v0] ([]) (.int r) := by
  refine q_RO.intro (by decide) (Nat.le_of_ble_eq_true rfl) ?_
  intro p e s m args below meth c X hP ls hl
  obtain ⟨hx, hb, hml, hr, hlk, hown, hB, hE⟩ := X
  have hown : s.vm.findClass RX3 = some m.cls := hown
  have F : q_Fx p s m c E RX3 cX3_kindOf 1 := ⟨hx, hb, hml, hown, hB, hE⟩
  have hV := q_EV.here hE
  have hl : lv_has ls 1 [(0, .int v0)] := hl
  unfold zX3_kindOf at h
  rw [pk_char] at h
  refine va_ldcS (own := RX3) hx hb hown hE.2.2.1 dX3_kindOf_0 ?_
  refine lv_iload_n hx hb dX3_kindOf_2 rfl (lv_at hl 0 rfl) ?_
  refine lv_i2c hx hb dX3_kindOf_3 (pk_char v0) ?_
  refine q_roK F (kJ0_indexOf1 l E _ (Nat.mod_lt _ (by omega))) q_cJ0_indexOf_0f7a4 q_lX3_248 hV hP ⟨by decide, by decide⟩ (q_recK hE) rfl ⟨_, hl⟩ (rest := []) rfl (Nat.le_of_ble_eq_true rfl) dX3_kindOf_4 ?_
  exact q_rI F hr hlk dX3_kindOf_7 h
