def zX0_write (s0 : q_S) (v1 : Int32) : Option (Int32 × q_S) := if (s0 1 0) < 0 then (some ((0 : Int32), s0)) else (if (s0 1 0) < (24 : Int32) then (q_gd (q_ib (s0 1 0) 24) (q_lt (q_u s0 0 (s0 1 0).toNatClampNeg v1) fun y4 => q_lt (q_u y4 1 0 ((y4 1 0) + (1 : Int32))) fun y5 => some ((1 : Int32), y5))) else (some ((0 : Int32), s0)))
set_option maxHeartbeats 4000000 in
set_option maxRecDepth 100000 in
theorem kX0_write (l : Launch) (E : q_E) (h0 : Nat) (a0 : Nat → Nat) (s0 : q_S) (v1 : Int32) (sz : Nat) (r : Int32) (rs0 : q_S) (h : zX0_write s0 v1 = some (r, rs0)) : q_MU l E yX0_write cX0_write 2 (some .boolean) 1 [.ref h0, .int v1] sz (q_cP E h0 a0 s0) (q_cP E h0 a0 rs0) (some (.int r)) := by
  refine q_MU.intro (by decide) (Nat.le_of_ble_eq_true rfl) ?_
  intro p e s m args below meth c A X hP hD hA hAl ls hl
  obtain ⟨hx, hb, hml, hr, hlk, hown, hB, hE⟩ := X
  have hown : s.vm.findClass RX0 = some m.cls := hown
  have F : q_Fx p s m c E RX0 cX0_write 2 := ⟨hx, hb, hml, hown, hB, hE⟩
  have hS : va_S A s.heap s.heap [] := va_S.rf
  have hl : lv_has ls 2 [(0, .ref h0), (1, .int v1)] := hl
  unfold zX0_write at h
  refine lv_aload_n hx hb dX0_write_0 rfl (lv_at hl 0 rfl) ?_
  refine q_get F q_K0 hP 0 rfl 1 (by decide) q_fX0_15 rfl dX0_write_1 ?_
  refine lv_if_lt (tgt := 19) hx hb dX0_write_4 (by decide) (fun c1 => ?_) (fun c1 => ?_)
  · replace h := q_i1 c1 h
    refine lv_iconst (v := 0) hx hb dX0_write_19 (by decide) ?_
    cases h
    exact q_wZ F hr hlk (by decide) dX0_write_20 hP hD hS
  · replace h := q_i2 c1 h
    refine lv_aload_n hx hb dX0_write_7 rfl (lv_at hl 0 rfl) ?_
    refine q_get F q_K0 hP 0 rfl 1 (by decide) q_fX0_15 rfl dX0_write_8 ?_
    refine lv_aload_n hx hb dX0_write_11 rfl (lv_at hl 0 rfl) ?_
    refine q_get F q_K0 hP 0 rfl 0 (by decide) q_fX0_9 rfl dX0_write_12 ?_
    refine q_alen F hP 1 1 rfl rfl (v := 24) rfl dX0_write_15 ?_
    refine lv_icmp_lt (tgt := 21) hx hb dX0_write_16 (by decide) (fun c2 => ?_) (fun c2 => ?_)
    · replace h := q_i1 c2 h
      refine lv_aload_n hx hb dX0_write_21 rfl (lv_at hl 0 rfl) ?_
      refine q_get F q_K0 hP 0 rfl 0 (by decide) q_fX0_9 rfl dX0_write_22 ?_
      refine lv_aload_n hx hb dX0_write_25 rfl (lv_at hl 0 rfl) ?_
      refine q_get F q_K0 hP 0 rfl 1 (by decide) q_fX0_15 rfl dX0_write_26 ?_
      refine lv_iload_n hx hb dX0_write_29 rfl (lv_at hl 1 rfl) ?_
      obtain ⟨eg3, h⟩ := q_og h
      obtain ⟨y4, ey4, h⟩ := q_ol h
      refine q_iast F hP hD hS 1 rfl eg3 (by rw [ey4]; rfl) dX0_write_30 (fun H locs (hP : va_P (q_D E) vwCl (q_cP E h0 a0 y4) H) hD hS => ?_)
      refine lv_aload_n hx hb dX0_write_31 rfl (lv_at hl 0 rfl) ?_
      refine lv_dup hx hb dX0_write_32 rfl ?_
      refine q_get F q_K0 hP 0 rfl 1 (by decide) q_fX0_15 rfl dX0_write_33 ?_
      refine lv_iconst (v := 1) hx hb dX0_write_36 (by decide) ?_
      refine lv_iadd hx hb dX0_write_37 ?_
      obtain ⟨y5, ey5, h⟩ := q_ol h
      refine q_put F q_K0 hP hD hS 0 rfl 1 (by decide) q_fX0_15 rfl rfl rfl (Nat.le_of_ble_eq_true rfl) (by rw [ey5]; rfl) dX0_write_38 (fun H locs (hP : va_P (q_D E) vwCl (q_cP E h0 a0 y5) H) hD hS => ?_)
      refine lv_iconst (v := 1) hx hb dX0_write_41 (by decide) ?_
      cases h
      exact q_wZ F hr hlk (by decide) dX0_write_42 hP hD hS
    · replace h := q_i2 c2 h
      refine lv_iconst (v := 0) hx hb dX0_write_19 (by decide) ?_
      cases h
      exact q_wZ F hr hlk (by decide) dX0_write_20 hP hD hS
def zX0_letterAt (s0 : q_S) (v1 : Int32) : Option (Int32) := if v1 < 0 then (some (0 : Int32)) else (if (s0 1 0) ≤ v1 then (some (0 : Int32)) else (if (24 : Int32) ≤ v1 then (some (0 : Int32)) else (q_gd (q_ib v1 24) (some (s0 0 v1.toNatClampNeg)))))
set_option maxHeartbeats 4000000 in
set_option maxRecDepth 100000 in
theorem kX0_letterAt (l : Launch) (E : q_E) (h0 : Nat) (a0 : Nat → Nat) (s0 : q_S) (v1 : Int32) (r : Int32) (h : zX0_letterAt s0 v1 = some r) : q_RO l E yX0_letterAt cX0_letterAt 2 (some .int) 1 [.ref h0, .int v1] (q_cP E h0 a0 s0) (.int r) := by
  refine q_RO.intro (by decide) (Nat.le_of_ble_eq_true rfl) ?_
  intro p e s m args below meth c X hP ls hl
  obtain ⟨hx, hb, hml, hr, hlk, hown, hB, hE⟩ := X
  have hown : s.vm.findClass RX0 = some m.cls := hown
  have F : q_Fx p s m c E RX0 cX0_letterAt 2 := ⟨hx, hb, hml, hown, hB, hE⟩
  have hV := q_EV.here hE
  have hl : lv_has ls 2 [(0, .ref h0), (1, .int v1)] := hl
  unfold zX0_letterAt at h
  refine lv_iload_n hx hb dX0_letterAt_0 rfl (lv_at hl 1 rfl) ?_
  refine lv_if_lt (tgt := 30) hx hb dX0_letterAt_1 (by decide) (fun c1 => ?_) (fun c1 => ?_)
  · replace h := q_i1 c1 h
    refine lv_iconst (v := 0) hx hb dX0_letterAt_30 (by decide) ?_
    exact q_rI F hr hlk dX0_letterAt_31 h
  · replace h := q_i2 c1 h
    refine lv_iload_n hx hb dX0_letterAt_4 rfl (lv_at hl 1 rfl) ?_
    refine lv_aload_n hx hb dX0_letterAt_5 rfl (lv_at hl 0 rfl) ?_
    refine q_get F q_K0 hP 0 rfl 1 (by decide) q_fX0_15 rfl dX0_letterAt_6 ?_
    refine lv_icmp_ge (tgt := 30) hx hb dX0_letterAt_9 (by decide) (fun c2 => ?_) (fun c2 => ?_)
    · replace h := q_i1 c2 h
      refine lv_iconst (v := 0) hx hb dX0_letterAt_30 (by decide) ?_
      exact q_rI F hr hlk dX0_letterAt_31 h
    · replace h := q_i2 c2 h
      refine lv_iload_n hx hb dX0_letterAt_12 rfl (lv_at hl 1 rfl) ?_
      refine lv_aload_n hx hb dX0_letterAt_13 rfl (lv_at hl 0 rfl) ?_
      refine q_get F q_K0 hP 0 rfl 0 (by decide) q_fX0_9 rfl dX0_letterAt_14 ?_
      refine q_alen F hP 1 1 rfl rfl (v := 24) rfl dX0_letterAt_17 ?_
      refine lv_icmp_ge (tgt := 30) hx hb dX0_letterAt_18 (by decide) (fun c3 => ?_) (fun c3 => ?_)
      · replace h := q_i1 c3 h
        refine lv_iconst (v := 0) hx hb dX0_letterAt_30 (by decide) ?_
        exact q_rI F hr hlk dX0_letterAt_31 h
      · replace h := q_i2 c3 h
        refine lv_aload_n hx hb dX0_letterAt_21 rfl (lv_at hl 0 rfl) ?_
        refine q_get F q_K0 hP 0 rfl 0 (by decide) q_fX0_9 rfl dX0_letterAt_22 ?_
        refine lv_iload_n hx hb dX0_letterAt_25 rfl (lv_at hl 1 rfl) ?_
        obtain ⟨eg4, h⟩ := q_og h
        refine q_iald F hP 1 rfl eg4 dX0_letterAt_26 ?_
        refine lv_goto (tgt := 31) hx hb dX0_letterAt_27 (by decide) ?_
        exact q_rI F hr hlk dX0_letterAt_31 h
def zX0_digitAt (s0 : q_S) (v1 : Int32) : Option (Int32) := q_b1 (zX0_letterAt s0 v1) fun x1 => some (x1 - (48 : Int32))
set_option maxHeartbeats 4000000 in
set_option maxRecDepth 100000 in
theorem kX0_digitAt (l : Launch) (E : q_E) (h0 : Nat) (a0 : Nat → Nat) (s0 : q_S) (v1 : Int32) (r : Int32) (h : zX0_digitAt s0 v1 = some r) : q_RO l E yX0_digitAt cX0_digitAt 2 (some .int) 2 [.ref h0, .int v1] (q_cP E h0 a0 s0) (.int r) := by
  refine q_RO.intro (by decide) (Nat.le_of_ble_eq_true rfl) ?_
  intro p e s m args below meth c X hP ls hl
  obtain ⟨hx, hb, hml, hr, hlk, hown, hB, hE⟩ := X
  have hown : s.vm.findClass RX0 = some m.cls := hown
  have F : q_Fx p s m c E RX0 cX0_digitAt 2 := ⟨hx, hb, hml, hown, hB, hE⟩
  have hV := q_EV.here hE
  have hl : lv_has ls 2 [(0, .ref h0), (1, .int v1)] := hl
  unfold zX0_digitAt at h
  refine lv_aload_n hx hb dX0_digitAt_0 rfl (lv_at hl 0 rfl) ?_
  refine lv_iload_n hx hb dX0_digitAt_1 rfl (lv_at hl 1 rfl) ?_
  obtain ⟨x1, c2, h⟩ := q_o1 h
  refine q_roV F (kX0_letterAt l E h0 a0 s0 v1 x1 c2) q_cX0_letterAt q_lX0_19 hV hP ⟨by decide, by decide⟩ (q0 := 0) rfl rfl rfl rfl ⟨_, hl⟩ (rest := []) rfl (Nat.le_of_ble_eq_true rfl) dX0_digitAt_2 ?_
  refine lv_bipush (v := 48) hx hb dX0_digitAt_5 (by decide) ?_
  refine lv_isub hx hb dX0_digitAt_7 ?_
  exact q_rI F hr hlk dX0_digitAt_8 h
def jX0_eatersEnd_2 (s0 : q_S) (k2 : Int32 → Option (Int32)) (v1 : Int32) : Option (Int32) := if (s0 1 0) ≤ v1 then (some (-1 : Int32)) else (q_b1 (zX0_letterAt s0 v1) fun x2 => if x2 = (59 : Int32) then (some v1) else (q_lt (v1 + 1) fun x5 => k2 x5))
def zX0_eatersEnd_2 (s0 : q_S) : Nat → Int32 → Option (Int32)
  | 0, _ => none
  | n + 1, v1 => jX0_eatersEnd_2 s0 (zX0_eatersEnd_2 s0 n) v1
theorem zX0_eatersEnd_2_s (s0 : q_S) (n : Nat) (v1 : Int32) : zX0_eatersEnd_2 s0 (n + 1) v1 = jX0_eatersEnd_2 s0 (zX0_eatersEnd_2 s0 n) v1 := rfl
def zX0_eatersEnd (s0 : q_S) : Option (Int32) := zX0_eatersEnd_2 s0 70000 (0 : Int32)
set_option maxHeartbeats 4000000 in
set_option maxRecDepth 100000 in
theorem kX0_eatersEnd (l : Launch) (E : q_E) (h0 : Nat) (a0 : Nat → Nat) (s0 : q_S)  (r : Int32) (h : zX0_eatersEnd s0 = some r) : q_RO l E yX0_eatersEnd cX0_eatersEnd 2 (some .int) 2 [.ref h0] (q_cP E h0 a0 s0) (.int r) := by
  refine q_RO.intro (by decide) (Nat.le_of_ble_eq_true rfl) ?_
  intro p e s m args below meth c X hP ls hl
  obtain ⟨hx, hb, hml, hr, hlk, hown, hB, hE⟩ := X
  have hown : s.vm.findClass RX0 = some m.cls := hown
  have F : q_Fx p s m c E RX0 cX0_eatersEnd 2 := ⟨hx, hb, hml, hown, hB, hE⟩
  have hV := q_EV.here hE
  have hl : lv_has ls 2 [(0, .ref h0)] := hl
  have K2 : ∀ (n2_ : Nat), ∀ (v1 : Int32), ∀ ls : Array Slot, lv_has ls 2 [(0, .ref h0), (1, .int v1)] → zX0_eatersEnd_2 s0 n2_ v1 = some r → W p l e (q_rm 2) s m args below meth c s.heap [] 0 0 (MQ below (q_roQ (.int r)) args s 0 0 q_no) (F0 m 2 ls []) := by
    intro n2_
    induction n2_ with
    | zero => intro v1 ls hl h; exact q_nn h
    | succ n2_ ih2 =>
      intro v1 ls hl h
      rw [zX0_eatersEnd_2_s] at h
      unfold jX0_eatersEnd_2 at h
      refine lv_iload_n hx hb dX0_eatersEnd_2 rfl (lv_at hl 1 rfl) ?_
      refine lv_aload_n hx hb dX0_eatersEnd_3 rfl (lv_at hl 0 rfl) ?_
      refine q_get F q_K0 hP 0 rfl 1 (by decide) q_fX0_15 rfl dX0_eatersEnd_4 ?_
      refine lv_icmp_ge (tgt := 28) hx hb dX0_eatersEnd_7 (by decide) (fun c1 => ?_) (fun c1 => ?_)
      · replace h := q_i1 c1 h
        refine lv_iconst (v := (-1)) hx hb dX0_eatersEnd_28 (by decide) ?_
        exact q_rI F hr hlk dX0_eatersEnd_29 h
      · replace h := q_i2 c1 h
        refine lv_aload_n hx hb dX0_eatersEnd_10 rfl (lv_at hl 0 rfl) ?_
        refine lv_iload_n hx hb dX0_eatersEnd_11 rfl (lv_at hl 1 rfl) ?_
        obtain ⟨x2, c3, h⟩ := q_o1 h
        refine q_roV F (kX0_letterAt l E h0 a0 s0 v1 x2 c3) q_cX0_letterAt q_lX0_19 hV hP ⟨by decide, by decide⟩ (q0 := 0) rfl rfl rfl rfl ⟨_, hl⟩ (rest := []) rfl (Nat.le_of_ble_eq_true rfl) dX0_eatersEnd_12 ?_
        refine lv_bipush (v := 59) hx hb dX0_eatersEnd_15 (by decide) ?_
        refine lv_icmp_ne (tgt := 22) hx hb dX0_eatersEnd_17 (by decide) (fun c4 => ?_) (fun c4 => ?_)
        · replace h := q_i2 c4 h
          obtain ⟨x5, ex5, h⟩ := q_ol h
          refine lv_iinc (v := x5) (lv' := [(1, .int x5), (0, .ref h0)]) hx hb dX0_eatersEnd_22 hl (k := 1) rfl (by rw [ex5]; rfl) (by decide) rfl (fun ls hl => ?_)
          refine lv_goto (tgt := 2) hx hb dX0_eatersEnd_25 (by decide) ?_
          exact ih2 x5 ls (lv_sub hl [1, 0] rfl) h
        · replace h := q_i1 c4 h
          refine lv_iload_n hx hb dX0_eatersEnd_20 rfl (lv_at hl 1 rfl) ?_
          exact q_rI F hr hlk dX0_eatersEnd_21 h
  unfold zX0_eatersEnd at h
  refine lv_iconst (v := 0) hx hb dX0_eatersEnd_0 (by decide) ?_
  refine lv_istore_n (lv' := [(1, .int (0 : Int32)), (0, .ref h0)]) hx hb dX0_eatersEnd_1 rfl hl (by decide) rfl (fun ls hl => ?_)
  exact K2 70000 (0 : Int32) ls (lv_sub hl [1, 0] rfl) h
def zX3_isDigit (v0 : Int32) : Option (Int32) := if v0 < (48 : Int32) then (some (0 : Int32)) else (if (57 : Int32) < v0 then (some (0 : Int32)) else (some (1 : Int32)))
set_option maxHeartbeats 4000000 in
set_option maxRecDepth 100000 in
theorem kX3_isDigit (l : Launch) (E : q_E)   (v0 : Int32) (r : Int32) (h : zX3_isDigit v0 = some r) : q_RO l E yX3_isDigit cX3_isDigit 1 (some .boolean) 1 [.int v0] ([]) (.int r) := by
  refine q_RO.intro (by decide) (Nat.le_of_ble_eq_true rfl) ?_
  intro p e s m args below meth c X hP ls hl
  obtain ⟨hx, hb, hml, hr, hlk, hown, hB, hE⟩ := X
  have hown : s.vm.findClass RX3 = some m.cls := hown
  have F : q_Fx p s m c E RX3 cX3_isDigit 1 := ⟨hx, hb, hml, hown, hB, hE⟩
  have hV := q_EV.here hE
  have hl : lv_has ls 1 [(0, .int v0)] := hl
  unfold zX3_isDigit at h
  refine lv_iload_n hx hb dX3_isDigit_0 rfl (lv_at hl 0 rfl) ?_
  refine lv_bipush (v := 48) hx hb dX3_isDigit_1 (by decide) ?_
  refine lv_icmp_lt (tgt := 16) hx hb dX3_isDigit_3 (by decide) (fun c1 => ?_) (fun c1 => ?_)
  · replace h := q_i1 c1 h
    refine lv_iconst (v := 0) hx hb dX3_isDigit_16 (by decide) ?_
    exact q_rZ F hr hlk (by decide) dX3_isDigit_17 h
  · replace h := q_i2 c1 h
    refine lv_iload_n hx hb dX3_isDigit_6 rfl (lv_at hl 0 rfl) ?_
    refine lv_bipush (v := 57) hx hb dX3_isDigit_7 (by decide) ?_
    refine lv_icmp_gt (tgt := 16) hx hb dX3_isDigit_9 (by decide) (fun c2 => ?_) (fun c2 => ?_)
    · replace h := q_i1 c2 h
      refine lv_iconst (v := 0) hx hb dX3_isDigit_16 (by decide) ?_
      exact q_rZ F hr hlk (by decide) dX3_isDigit_17 h
    · replace h := q_i2 c2 h
      refine lv_iconst (v := 1) hx hb dX3_isDigit_12 (by decide) ?_
      refine lv_goto (tgt := 17) hx hb dX3_isDigit_13 (by decide) ?_
      exact q_rZ F hr hlk (by decide) dX3_isDigit_17 h
def zX0_fitsEaters_69 (v2 : Int32) (v3 : Int32) : Option (Int32) := if v2 = (59 : Int32) then (if v3 < (2 : Int32) then (some (0 : Int32)) else (if (4 : Int32) < v3 then (some (0 : Int32)) else (some (1 : Int32)))) else (some (0 : Int32))
def zX0_fitsEaters (s0 : q_S) (v1 : Int32) : Option (Int32) := q_b1 (zX0_letterAt s0 v1) fun x4 => q_lt ((v1 / (3 : Int32)) + (1 : Int32)) fun x6 => if (v1 - v1 / (3 : Int32) * (3 : Int32)) = 0 then (q_b1 (zX3_kindOf x4) fun x8 => if x8 < 0 then (some (0 : Int32)) else (some (1 : Int32))) else (if (v1 - v1 / (3 : Int32) * (3 : Int32)) = 1 then (q_b1 (zX3_isDigit x4) fun x12 => q_gd (q_is x12) (some x12)) else (if x4 = (44 : Int32) then (if x6 < (4 : Int32) then (some (1 : Int32)) else (zX0_fitsEaters_69 x4 x6)) else (zX0_fitsEaters_69 x4 x6)))
set_option maxHeartbeats 4000000 in
set_option maxRecDepth 100000 in
theorem kX0_fitsEaters (l : Launch) (E : q_E) (h0 : Nat) (a0 : Nat → Nat) (s0 : q_S) (v1 : Int32) (r : Int32) (h : zX0_fitsEaters s0 v1 = some r) : q_RO l E yX0_fitsEaters cX0_fitsEaters 4 (some .boolean) 9 [.ref h0, .int v1] (q_cP E h0 a0 s0) (.int r) := by
  refine q_RO.intro (by decide) (Nat.le_of_ble_eq_true rfl) ?_
  intro p e s m args below meth c X hP ls hl
  obtain ⟨hx, hb, hml, hr, hlk, hown, hB, hE⟩ := X
  have hown : s.vm.findClass RX0 = some m.cls := hown
  have F : q_Fx p s m c E RX0 cX0_fitsEaters 4 := ⟨hx, hb, hml, hown, hB, hE⟩
  have hV := q_EV.here hE
  have hl : lv_has ls 4 [(0, .ref h0), (1, .int v1)] := hl
  have K69 : ∀ (v2 : Int32) (v3 : Int32), ∀ ls : Array Slot, lv_has ls 4 [(2, .int v2), (3, .int v3)] → zX0_fitsEaters_69 v2 v3 = some r → W p l e (q_rm 9) s m args below meth c s.heap [] 0 0 (MQ below (q_roQ (.int r)) args s 0 0 q_no) (F0 m 69 ls []) := by
    intro v2 v3 ls hl h
    unfold zX0_fitsEaters_69 at h
    refine lv_iload_n hx hb dX0_fitsEaters_69 rfl (lv_at hl 0 rfl) ?_
    refine lv_bipush (v := 59) hx hb dX0_fitsEaters_70 (by decide) ?_
    refine lv_icmp_ne (tgt := 89) hx hb dX0_fitsEaters_72 (by decide) (fun c1 => ?_) (fun c1 => ?_)
    · replace h := q_i2 c1 h
      refine lv_iconst (v := 0) hx hb dX0_fitsEaters_89 (by decide) ?_
      exact q_rZ F hr hlk (by decide) dX0_fitsEaters_90 h
    · replace h := q_i1 c1 h
      refine lv_iload_n hx hb dX0_fitsEaters_75 rfl (lv_at hl 1 rfl) ?_
      refine lv_iconst (v := 2) hx hb dX0_fitsEaters_76 (by decide) ?_
      refine lv_icmp_lt (tgt := 89) hx hb dX0_fitsEaters_77 (by decide) (fun c2 => ?_) (fun c2 => ?_)
      · replace h := q_i1 c2 h
        refine lv_iconst (v := 0) hx hb dX0_fitsEaters_89 (by decide) ?_
        exact q_rZ F hr hlk (by decide) dX0_fitsEaters_90 h
      · replace h := q_i2 c2 h
        refine lv_iload_n hx hb dX0_fitsEaters_80 rfl (lv_at hl 1 rfl) ?_
        refine lv_iconst (v := 4) hx hb dX0_fitsEaters_81 (by decide) ?_
        refine lv_icmp_gt (tgt := 89) hx hb dX0_fitsEaters_82 (by decide) (fun c3 => ?_) (fun c3 => ?_)
        · replace h := q_i1 c3 h
          refine lv_iconst (v := 0) hx hb dX0_fitsEaters_89 (by decide) ?_
          exact q_rZ F hr hlk (by decide) dX0_fitsEaters_90 h
        · replace h := q_i2 c3 h
          refine lv_iconst (v := 1) hx hb dX0_fitsEaters_85 (by decide) ?_
          refine lv_goto (tgt := 90) hx hb dX0_fitsEaters_86 (by decide) ?_
          exact q_rZ F hr hlk (by decide) dX0_fitsEaters_90 h
  unfold zX0_fitsEaters at h
  refine lv_aload_n hx hb dX0_fitsEaters_0 rfl (lv_at hl 0 rfl) ?_
  refine lv_iload_n hx hb dX0_fitsEaters_1 rfl (lv_at hl 1 rfl) ?_
  obtain ⟨x4, c5, h⟩ := q_o1 h
  refine q_roV F (kX0_letterAt l E h0 a0 s0 v1 x4 c5) q_cX0_letterAt q_lX0_19 hV hP ⟨by decide, by decide⟩ (q0 := 0) rfl rfl rfl rfl ⟨_, hl⟩ (rest := []) rfl (Nat.le_of_ble_eq_true rfl) dX0_fitsEaters_2 ?_
  refine lv_istore_n (lv' := [(2, .int x4), (0, .ref h0), (1, .int v1)]) hx hb dX0_fitsEaters_5 rfl hl (by decide) rfl (fun ls hl => ?_)
  refine lv_iload_n hx hb dX0_fitsEaters_6 rfl (lv_at hl 2 rfl) ?_
  refine lv_iconst (v := 3) hx hb dX0_fitsEaters_7 (by decide) ?_
  refine lv_idiv hx hb dX0_fitsEaters_8 (by decide) ?_
  refine lv_iconst (v := 1) hx hb dX0_fitsEaters_9 (by decide) ?_
  refine lv_iadd hx hb dX0_fitsEaters_10 ?_
  obtain ⟨x6, ex6, h⟩ := q_ol h
  refine q_top ex6 ?_
  refine lv_istore_n (lv' := [(3, .int x6), (2, .int x4), (0, .ref h0), (1, .int v1)]) hx hb dX0_fitsEaters_11 rfl hl (by decide) rfl (fun ls hl => ?_)
  refine lv_iload_n hx hb dX0_fitsEaters_12 rfl (lv_at hl 3 rfl) ?_
  refine lv_iconst (v := 3) hx hb dX0_fitsEaters_13 (by decide) ?_
  refine lv_irem hx hb dX0_fitsEaters_14 (by decide) ?_
  by_cases c7 : (v1 - v1 / (3 : Int32) * (3 : Int32)) = 0
  · replace h := q_i1 c7 h
    refine lv_lookup (off := 25) (tgt := 40) hx hb dX0_fitsEaters_15 (by decide) (by rw [c7]; rfl) (by decide) ?_
    refine lv_iload_n hx hb dX0_fitsEaters_40 rfl (lv_at hl 1 rfl) ?_
    obtain ⟨x8, c9, h⟩ := q_o1 h
    refine q_roS F (kX3_kindOf l E  x4 x8 c9) q_cX3_kindOf q_lX0_35 hV (fun k q h => by simp at h) ⟨by decide, by decide⟩ rfl ⟨_, hl⟩ (rest := []) rfl (Nat.le_of_ble_eq_true rfl) dX0_fitsEaters_41 ?_
    refine lv_if_lt (tgt := 51) hx hb dX0_fitsEaters_44 (by decide) (fun c10 => ?_) (fun c10 => ?_)
    · replace h := q_i1 c10 h
      refine lv_iconst (v := 0) hx hb dX0_fitsEaters_51 (by decide) ?_
      exact q_rZ F hr hlk (by decide) dX0_fitsEaters_52 h
    · replace h := q_i2 c10 h
      refine lv_iconst (v := 1) hx hb dX0_fitsEaters_47 (by decide) ?_
      refine lv_goto (tgt := 52) hx hb dX0_fitsEaters_48 (by decide) ?_
      exact q_rZ F hr hlk (by decide) dX0_fitsEaters_52 h
  · replace h := q_i2 c7 h
    by_cases c11 : (v1 - v1 / (3 : Int32) * (3 : Int32)) = 1
    · replace h := q_i1 c11 h
      refine lv_lookup (off := 38) (tgt := 53) hx hb dX0_fitsEaters_15 (by decide) (by rw [c11]; rfl) (by decide) ?_
      refine lv_iload_n hx hb dX0_fitsEaters_53 rfl (lv_at hl 1 rfl) ?_
      obtain ⟨x12, c13, h⟩ := q_o1 h
      refine q_roS F (kX3_isDigit l E  x4 x12 c13) q_cX3_isDigit q_lX0_38 hV (fun k q h => by simp at h) ⟨by decide, by decide⟩ rfl ⟨_, hl⟩ (rest := []) rfl (Nat.le_of_ble_eq_true rfl) dX0_fitsEaters_54 ?_
      obtain ⟨eg14, h⟩ := q_og h
      exact q_rZ F hr hlk (q_is_in eg14) dX0_fitsEaters_57 h
    · replace h := q_i2 c11 h
      refine lv_lookup (off := 43) (tgt := 58) hx hb dX0_fitsEaters_15 (by decide) (by rw [lv_osw c7 (by decide)]; rw [lv_osw c11 (by decide)]; rfl) (by decide) ?_
      refine lv_iload_n hx hb dX0_fitsEaters_58 rfl (lv_at hl 1 rfl) ?_
      refine lv_bipush (v := 44) hx hb dX0_fitsEaters_59 (by decide) ?_
      refine lv_icmp_ne (tgt := 69) hx hb dX0_fitsEaters_61 (by decide) (fun c15 => ?_) (fun c15 => ?_)
      · replace h := q_i2 c15 h
        exact K69 x4 x6 ls (lv_sub hl [1, 0] rfl) h
      · replace h := q_i1 c15 h
        refine lv_iload_n hx hb dX0_fitsEaters_64 rfl (lv_at hl 0 rfl) ?_
        refine lv_iconst (v := 4) hx hb dX0_fitsEaters_65 (by decide) ?_
        refine lv_icmp_lt (tgt := 85) hx hb dX0_fitsEaters_66 (by decide) (fun c16 => ?_) (fun c16 => ?_)
        · replace h := q_i1 c16 h
          refine lv_iconst (v := 1) hx hb dX0_fitsEaters_85 (by decide) ?_
          refine lv_goto (tgt := 90) hx hb dX0_fitsEaters_86 (by decide) ?_
          exact q_rZ F hr hlk (by decide) dX0_fitsEaters_90 h
        · replace h := q_i2 c16 h
          exact K69 x4 x6 ls (lv_sub hl [1, 0] rfl) h
def zX0_fitsLoaves (s0 : q_S) (v1 : Int32) (v2 : Int32) : Option (Int32) := if (10 : Int32) < (v1 - v2) then (some (0 : Int32)) else (q_b1 (zX0_letterAt s0 v1) fun x2 => q_b1 (zX3_isDigit x2) fun x4 => if x4 = 0 then (some (0 : Int32)) else (some (1 : Int32)))
set_option maxHeartbeats 4000000 in
set_option maxRecDepth 100000 in
theorem kX0_fitsLoaves (l : Launch) (E : q_E) (h0 : Nat) (a0 : Nat → Nat) (s0 : q_S) (v1 : Int32) (v2 : Int32) (r : Int32) (h : zX0_fitsLoaves s0 v1 v2 = some r) : q_RO l E yX0_fitsLoaves cX0_fitsLoaves 3 (some .boolean) 2 [.ref h0, .int v1, .int v2] (q_cP E h0 a0 s0) (.int r) := by
  refine q_RO.intro (by decide) (Nat.le_of_ble_eq_true rfl) ?_
  intro p e s m args below meth c X hP ls hl
  obtain ⟨hx, hb, hml, hr, hlk, hown, hB, hE⟩ := X
  have hown : s.vm.findClass RX0 = some m.cls := hown
  have F : q_Fx p s m c E RX0 cX0_fitsLoaves 3 := ⟨hx, hb, hml, hown, hB, hE⟩
  have hV := q_EV.here hE
  have hl : lv_has ls 3 [(0, .ref h0), (1, .int v1), (2, .int v2)] := hl
  unfold zX0_fitsLoaves at h
  refine lv_iload_n hx hb dX0_fitsLoaves_0 rfl (lv_at hl 1 rfl) ?_
  refine lv_iload_n hx hb dX0_fitsLoaves_1 rfl (lv_at hl 2 rfl) ?_
  refine lv_isub hx hb dX0_fitsLoaves_2 ?_
  refine lv_bipush (v := 10) hx hb dX0_fitsLoaves_3 (by decide) ?_
  refine lv_icmp_gt (tgt := 23) hx hb dX0_fitsLoaves_5 (by decide) (fun c1 => ?_) (fun c1 => ?_)
  · replace h := q_i1 c1 h
    refine lv_iconst (v := 0) hx hb dX0_fitsLoaves_23 (by decide) ?_
    exact q_rZ F hr hlk (by decide) dX0_fitsLoaves_24 h
  · replace h := q_i2 c1 h
    refine lv_aload_n hx hb dX0_fitsLoaves_8 rfl (lv_at hl 0 rfl) ?_
    refine lv_iload_n hx hb dX0_fitsLoaves_9 rfl (lv_at hl 1 rfl) ?_
    obtain ⟨x2, c3, h⟩ := q_o1 h
    refine q_roV F (kX0_letterAt l E h0 a0 s0 v1 x2 c3) q_cX0_letterAt q_lX0_19 hV hP ⟨by decide, by decide⟩ (q0 := 0) rfl rfl rfl rfl ⟨_, hl⟩ (rest := []) rfl (Nat.le_of_ble_eq_true rfl) dX0_fitsLoaves_10 ?_
    obtain ⟨x4, c5, h⟩ := q_o1 h
    refine q_roS F (kX3_isDigit l E  x2 x4 c5) q_cX3_isDigit q_lX0_38 hV (fun k q h => by simp at h) ⟨by decide, by decide⟩ rfl ⟨_, hl⟩ (rest := []) rfl (Nat.le_of_ble_eq_true rfl) dX0_fitsLoaves_13 ?_
    refine lv_if_eq (tgt := 23) hx hb dX0_fitsLoaves_16 (by decide) (fun c6 => ?_) (fun c6 => ?_)
    · replace h := q_i1 c6 h
      refine lv_iconst (v := 0) hx hb dX0_fitsLoaves_23 (by decide) ?_
      exact q_rZ F hr hlk (by decide) dX0_fitsLoaves_24 h
    · replace h := q_i2 c6 h
      refine lv_iconst (v := 1) hx hb dX0_fitsLoaves_19 (by decide) ?_
      refine lv_goto (tgt := 24) hx hb dX0_fitsLoaves_20 (by decide) ?_
      exact q_rZ F hr hlk (by decide) dX0_fitsLoaves_24 h
def zX0_faultPlace_39 (k7 : Int32 → Option (Int32)) (v2 : Int32) (t0 : Int32) : Option (Int32) := if t0 = 0 then (some v2) else (q_lt (v2 + 1) fun x2 => k7 x2)
def zX0_faultPlace_25 (k7 : Int32 → Option (Int32)) (s0 : q_S) (v2 : Int32) : Option (Int32) := q_b1 (zX0_fitsEaters s0 v2) fun x3 => zX0_faultPlace_39 k7 v2 x3
def jX0_faultPlace_7 (s0 : q_S) (v1 : Int32) (k7 : Int32 → Option (Int32)) (v2 : Int32) : Option (Int32) := if (s0 1 0) ≤ v2 then (some (s0 1 0)) else (if v1 = (-1 : Int32) then (zX0_faultPlace_25 k7 s0 v2) else (if v1 < v2 then (q_b1 (zX0_fitsLoaves s0 v2 v1) fun x8 => zX0_faultPlace_39 k7 v2 x8) else (zX0_faultPlace_25 k7 s0 v2)))
def zX0_faultPlace_7 (s0 : q_S) (v1 : Int32) : Nat → Int32 → Option (Int32)
  | 0, _ => none
  | n + 1, v2 => jX0_faultPlace_7 s0 v1 (zX0_faultPlace_7 s0 v1 n) v2
theorem zX0_faultPlace_7_s (s0 : q_S) (v1 : Int32) (n : Nat) (v2 : Int32) : zX0_faultPlace_7 s0 v1 (n + 1) v2 = jX0_faultPlace_7 s0 v1 (zX0_faultPlace_7 s0 v1 n) v2 := rfl
def zX0_faultPlace (s0 : q_S) : Option (Int32) := q_b1 (zX0_eatersEnd s0) fun x10 => zX0_faultPlace_7 s0 x10 70000 (0 : Int32)
set_option maxHeartbeats 4000000 in
set_option maxRecDepth 100000 in
theorem kX0_faultPlace (l : Launch) (E : q_E) (h0 : Nat) (a0 : Nat → Nat) (s0 : q_S)  (r : Int32) (h : zX0_faultPlace s0 = some r) : q_RO l E yX0_faultPlace cX0_faultPlace 4 (some .int) 10 [.ref h0] (q_cP E h0 a0 s0) (.int r) := by
  refine q_RO.intro (by decide) (Nat.le_of_ble_eq_true rfl) ?_
  intro p e s m args below meth c X hP ls hl
  obtain ⟨hx, hb, hml, hr, hlk, hown, hB, hE⟩ := X
  have hown : s.vm.findClass RX0 = some m.cls := hown
  have F : q_Fx p s m c E RX0 cX0_faultPlace 4 := ⟨hx, hb, hml, hown, hB, hE⟩
  have hV := q_EV.here hE
  have hl : lv_has ls 4 [(0, .ref h0)] := hl
  have K7 : ∀ (n7_ : Nat), ∀ (v1 : Int32) (v2 : Int32), ∀ ls : Array Slot, lv_has ls 4 [(0, .ref h0), (1, .int v1), (2, .int v2)] → zX0_faultPlace_7 s0 v1 n7_ v2 = some r → W p l e (q_rm 10) s m args below meth c s.heap [] 0 0 (MQ below (q_roQ (.int r)) args s 0 0 q_no) (F0 m 7 ls []) := by
    intro n7_
    induction n7_ with
    | zero => intro v1 v2 ls hl h; exact q_nn h
    | succ n7_ ih7 =>
      have K39 : ∀ (v1 : Int32) (v2 : Int32) (t0 : Int32), ∀ ls : Array Slot, lv_has ls 4 [(0, .ref h0), (1, .int v1), (2, .int v2)] → zX0_faultPlace_39 (zX0_faultPlace_7 s0 v1 n7_) v2 t0 = some r → W p l e (q_rm 10) s m args below meth c s.heap [] 0 0 (MQ below (q_roQ (.int r)) args s 0 0 q_no) (F0 m 39 ls [.int t0]) := by
        intro v1 v2 t0 ls hl h
        unfold zX0_faultPlace_39 at h
        refine lv_istore_n (lv' := [(3, .int t0), (0, .ref h0), (1, .int v1), (2, .int v2)]) hx hb dX0_faultPlace_39 rfl hl (by decide) rfl (fun ls hl => ?_)
        refine lv_iload_n hx hb dX0_faultPlace_40 rfl (lv_at hl 0 rfl) ?_
        refine lv_if_ne (tgt := 46) hx hb dX0_faultPlace_41 (by decide) (fun c1 => ?_) (fun c1 => ?_)
        · replace h := q_i2 c1 h
          obtain ⟨x2, ex2, h⟩ := q_ol h
          refine lv_iinc (v := x2) (lv' := [(2, .int x2), (3, .int t0), (0, .ref h0), (1, .int v1)]) hx hb dX0_faultPlace_46 hl (k := 3) rfl (by rw [ex2]; rfl) (by decide) rfl (fun ls hl => ?_)
          refine lv_goto (tgt := 7) hx hb dX0_faultPlace_49 (by decide) ?_
          exact ih7 v1 x2 ls (lv_sub hl [2, 3, 0] rfl) h
        · replace h := q_i1 c1 h
          refine lv_iload_n hx hb dX0_faultPlace_44 rfl (lv_at hl 3 rfl) ?_
          exact q_rI F hr hlk dX0_faultPlace_45 h
      have K25 : ∀ (v1 : Int32) (v2 : Int32), ∀ ls : Array Slot, lv_has ls 4 [(0, .ref h0), (1, .int v1), (2, .int v2)] → zX0_faultPlace_25 (zX0_faultPlace_7 s0 v1 n7_) s0 v2 = some r → W p l e (q_rm 10) s m args below meth c s.heap [] 0 0 (MQ below (q_roQ (.int r)) args s 0 0 q_no) (F0 m 25 ls []) := by
        intro v1 v2 ls hl h
        unfold zX0_faultPlace_25 at h
        refine lv_aload_n hx hb dX0_faultPlace_25 rfl (lv_at hl 0 rfl) ?_
        refine lv_iload_n hx hb dX0_faultPlace_26 rfl (lv_at hl 2 rfl) ?_
        obtain ⟨x3, c4, h⟩ := q_o1 h
        refine q_roV F (kX0_fitsEaters l E h0 a0 s0 v2 x3 c4) q_cX0_fitsEaters q_lX0_27 hV hP ⟨by decide, by decide⟩ (q0 := 0) rfl rfl rfl rfl ⟨_, hl⟩ (rest := []) rfl (Nat.le_of_ble_eq_true rfl) dX0_faultPlace_27 ?_
        refine lv_goto (tgt := 39) hx hb dX0_faultPlace_30 (by decide) ?_
        exact K39 v1 v2 x3 ls (lv_sub hl [0, 1, 2] rfl) h
      intro v1 v2 ls hl h
      rw [zX0_faultPlace_7_s] at h
      unfold jX0_faultPlace_7 at h
      refine lv_iload_n hx hb dX0_faultPlace_7 rfl (lv_at hl 2 rfl) ?_
      refine lv_aload_n hx hb dX0_faultPlace_8 rfl (lv_at hl 0 rfl) ?_
      refine q_get F q_K0 hP 0 rfl 1 (by decide) q_fX0_15 rfl dX0_faultPlace_9 ?_
      refine lv_icmp_ge (tgt := 52) hx hb dX0_faultPlace_12 (by decide) (fun c5 => ?_) (fun c5 => ?_)
      · replace h := q_i1 c5 h
        refine lv_aload_n hx hb dX0_faultPlace_52 rfl (lv_at hl 0 rfl) ?_
        refine q_get F q_K0 hP 0 rfl 1 (by decide) q_fX0_15 rfl dX0_faultPlace_53 ?_
        exact q_rI F hr hlk dX0_faultPlace_56 h
      · replace h := q_i2 c5 h
        refine lv_iload_n hx hb dX0_faultPlace_15 rfl (lv_at hl 1 rfl) ?_
        refine lv_iconst (v := (-1)) hx hb dX0_faultPlace_16 (by decide) ?_
        refine lv_icmp_eq (tgt := 25) hx hb dX0_faultPlace_17 (by decide) (fun c6 => ?_) (fun c6 => ?_)
        · replace h := q_i1 c6 h
          exact K25 v1 v2 ls (lv_sub hl [0, 1, 2] rfl) h
        · replace h := q_i2 c6 h
          refine lv_iload_n hx hb dX0_faultPlace_20 rfl (lv_at hl 2 rfl) ?_
          refine lv_iload_n hx hb dX0_faultPlace_21 rfl (lv_at hl 1 rfl) ?_
          refine lv_icmp_gt (tgt := 33) hx hb dX0_faultPlace_22 (by decide) (fun c7 => ?_) (fun c7 => ?_)
          · replace h := q_i1 c7 h
            refine lv_aload_n hx hb dX0_faultPlace_33 rfl (lv_at hl 0 rfl) ?_
            refine lv_iload_n hx hb dX0_faultPlace_34 rfl (lv_at hl 2 rfl) ?_
            refine lv_iload_n hx hb dX0_faultPlace_35 rfl (lv_at hl 1 rfl) ?_
            obtain ⟨x8, c9, h⟩ := q_o1 h
            refine q_roV F (kX0_fitsLoaves l E h0 a0 s0 v2 v1 x8 c9) q_cX0_fitsLoaves q_lX0_31 hV hP ⟨by decide, by decide⟩ (q0 := 0) rfl rfl rfl rfl ⟨_, hl⟩ (rest := []) rfl (Nat.le_of_ble_eq_true rfl) dX0_faultPlace_36 ?_
            exact K39 v1 v2 x8 ls (lv_sub hl [0, 1, 2] rfl) h
          · replace h := q_i2 c7 h
            exact K25 v1 v2 ls (lv_sub hl [0, 1, 2] rfl) h
  unfold zX0_faultPlace at h
  refine lv_aload_n hx hb dX0_faultPlace_0 rfl (lv_at hl 0 rfl) ?_
  obtain ⟨x10, c11, h⟩ := q_o1 h
  refine q_roV F (kX0_eatersEnd l E h0 a0 s0 x10 c11) q_cX0_eatersEnd q_lX0_23 hV hP ⟨by decide, by decide⟩ (q0 := 0) rfl rfl rfl rfl ⟨_, hl⟩ (rest := []) rfl (Nat.le_of_ble_eq_true rfl) dX0_faultPlace_1 ?_
  refine lv_istore_n (lv' := [(1, .int x10), (0, .ref h0)]) hx hb dX0_faultPlace_4 rfl hl (by decide) rfl (fun ls hl => ?_)
  refine lv_iconst (v := 0) hx hb dX0_faultPlace_5 (by decide) ?_
  refine lv_istore_n (lv' := [(2, .int (0 : Int32)), (1, .int x10), (0, .ref h0)]) hx hb dX0_faultPlace_6 rfl hl (by decide) rfl (fun ls hl => ?_)
  exact K7 70000 x10 (0 : Int32) ls (lv_sub hl [2, 1, 0] rfl) h
def zX0_isValley (s0 : q_S) : Option (Int32) := q_b1 (zX0_eatersEnd s0) fun x1 => q_lt (((s0 1 0) - (1 : Int32)) - x1) fun x3 => if x1 = (-1 : Int32) then (some (0 : Int32)) else (q_b1 (zX0_faultPlace s0) fun x5 => if x5 = (s0 1 0) then (if x3 < (2 : Int32) then (some (0 : Int32)) else (if (x3 - x3 / (2 : Int32) * (2 : Int32)) = 0 then (some (1 : Int32)) else (some (0 : Int32)))) else (some (0 : Int32)))
set_option maxHeartbeats 4000000 in
set_option maxRecDepth 100000 in
theorem kX0_isValley (l : Launch) (E : q_E) (h0 : Nat) (a0 : Nat → Nat) (s0 : q_S)  (r : Int32) (h : zX0_isValley s0 = some r) : q_RO l E yX0_isValley cX0_isValley 3 (some .boolean) 11 [.ref h0] (q_cP E h0 a0 s0) (.int r) := by
  refine q_RO.intro (by decide) (Nat.le_of_ble_eq_true rfl) ?_
  intro p e s m args below meth c X hP ls hl
  obtain ⟨hx, hb, hml, hr, hlk, hown, hB, hE⟩ := X
  have hown : s.vm.findClass RX0 = some m.cls := hown
  have F : q_Fx p s m c E RX0 cX0_isValley 3 := ⟨hx, hb, hml, hown, hB, hE⟩
  have hV := q_EV.here hE
  have hl : lv_has ls 3 [(0, .ref h0)] := hl
  unfold zX0_isValley at h
  refine lv_aload_n hx hb dX0_isValley_0 rfl (lv_at hl 0 rfl) ?_
  obtain ⟨x1, c2, h⟩ := q_o1 h
  refine q_roV F (kX0_eatersEnd l E h0 a0 s0 x1 c2) q_cX0_eatersEnd q_lX0_23 hV hP ⟨by decide, by decide⟩ (q0 := 0) rfl rfl rfl rfl ⟨_, hl⟩ (rest := []) rfl (Nat.le_of_ble_eq_true rfl) dX0_isValley_1 ?_
  refine lv_istore_n (lv' := [(1, .int x1), (0, .ref h0)]) hx hb dX0_isValley_4 rfl hl (by decide) rfl (fun ls hl => ?_)
  refine lv_aload_n hx hb dX0_isValley_5 rfl (lv_at hl 1 rfl) ?_
  refine q_get F q_K0 hP 0 rfl 1 (by decide) q_fX0_15 rfl dX0_isValley_6 ?_
  refine lv_iconst (v := 1) hx hb dX0_isValley_9 (by decide) ?_
  refine lv_isub hx hb dX0_isValley_10 ?_
  refine lv_iload_n hx hb dX0_isValley_11 rfl (lv_at hl 0 rfl) ?_
  refine lv_isub hx hb dX0_isValley_12 ?_
  obtain ⟨x3, ex3, h⟩ := q_ol h
  refine q_top ex3 ?_
  refine lv_istore_n (lv' := [(2, .int x3), (1, .int x1), (0, .ref h0)]) hx hb dX0_isValley_13 rfl hl (by decide) rfl (fun ls hl => ?_)
  refine lv_iload_n hx hb dX0_isValley_14 rfl (lv_at hl 1 rfl) ?_
  refine lv_iconst (v := (-1)) hx hb dX0_isValley_15 (by decide) ?_
  refine lv_icmp_eq (tgt := 45) hx hb dX0_isValley_16 (by decide) (fun c4 => ?_) (fun c4 => ?_)
  · replace h := q_i1 c4 h
    refine lv_iconst (v := 0) hx hb dX0_isValley_45 (by decide) ?_
    exact q_rZ F hr hlk (by decide) dX0_isValley_46 h
  · replace h := q_i2 c4 h
    refine lv_aload_n hx hb dX0_isValley_19 rfl (lv_at hl 2 rfl) ?_
    obtain ⟨x5, c6, h⟩ := q_o1 h
    refine q_roV F (kX0_faultPlace l E h0 a0 s0 x5 c6) q_cX0_faultPlace q_lX0_41 hV hP ⟨by decide, by decide⟩ (q0 := 0) rfl rfl rfl rfl ⟨_, hl⟩ (rest := []) rfl (Nat.le_of_ble_eq_true rfl) dX0_isValley_20 ?_
    refine lv_aload_n hx hb dX0_isValley_23 rfl (lv_at hl 2 rfl) ?_
    refine q_get F q_K0 hP 0 rfl 1 (by decide) q_fX0_15 rfl dX0_isValley_24 ?_
    refine lv_icmp_ne (tgt := 45) hx hb dX0_isValley_27 (by decide) (fun c7 => ?_) (fun c7 => ?_)
    · replace h := q_i2 c7 h
      refine lv_iconst (v := 0) hx hb dX0_isValley_45 (by decide) ?_
      exact q_rZ F hr hlk (by decide) dX0_isValley_46 h
    · replace h := q_i1 c7 h
      refine lv_iload_n hx hb dX0_isValley_30 rfl (lv_at hl 0 rfl) ?_
      refine lv_iconst (v := 2) hx hb dX0_isValley_31 (by decide) ?_
      refine lv_icmp_lt (tgt := 45) hx hb dX0_isValley_32 (by decide) (fun c8 => ?_) (fun c8 => ?_)
      · replace h := q_i1 c8 h
        refine lv_iconst (v := 0) hx hb dX0_isValley_45 (by decide) ?_
        exact q_rZ F hr hlk (by decide) dX0_isValley_46 h
      · replace h := q_i2 c8 h
        refine lv_iload_n hx hb dX0_isValley_35 rfl (lv_at hl 0 rfl) ?_
        refine lv_iconst (v := 2) hx hb dX0_isValley_36 (by decide) ?_
        refine lv_irem hx hb dX0_isValley_37 (by decide) ?_
        refine lv_if_ne (tgt := 45) hx hb dX0_isValley_38 (by decide) (fun c9 => ?_) (fun c9 => ?_)
        · replace h := q_i2 c9 h
          refine lv_iconst (v := 0) hx hb dX0_isValley_45 (by decide) ?_
          exact q_rZ F hr hlk (by decide) dX0_isValley_46 h
        · replace h := q_i1 c9 h
          refine lv_iconst (v := 1) hx hb dX0_isValley_41 (by decide) ?_
          refine lv_goto (tgt := 46) hx hb dX0_isValley_42 (by decide) ?_
          exact q_rZ F hr hlk (by decide) dX0_isValley_46 h
def jX1_start_2 (k2 : q_S → Int32 → Option (q_S)) (s0 : q_S) (v1 : Int32) : Option (q_S) := if (8 : Int32) ≤ v1 then (q_lt (q_u s0 3 0 (0 : Int32)) fun y2 => some y2) else (q_gd (q_ib v1 8) (q_lt (q_u s0 0 v1.toNatClampNeg (-1 : Int32)) fun y4 => q_lt (v1 + 1) fun x5 => k2 y4 x5))
def zX1_start_2  : Nat → q_S → Int32 → Option (q_S)
  | 0, _, _ => none
  | n + 1, s0, v1 => jX1_start_2  (zX1_start_2  n) s0 v1
theorem zX1_start_2_s  (n : Nat) (s0 : q_S) (v1 : Int32) : zX1_start_2  (n + 1) s0 v1 = jX1_start_2  (zX1_start_2  n) s0 v1 := rfl
def zX1_start (s0 : q_S) : Option (q_S) := zX1_start_2  70000 s0 (0 : Int32)
set_option maxHeartbeats 4000000 in
set_option maxRecDepth 100000 in
theorem kX1_start (l : Launch) (E : q_E) (h0 : Nat) (a0 : Nat → Nat) (s0 : q_S)  (sz : Nat) (rs0 : q_S) (h : zX1_start s0 = some rs0) : q_MU l E yX1_start cX1_start 2 none 1 [.ref h0] sz (q_cL E h0 a0 s0) (q_cL E h0 a0 rs0) none := by
  refine q_MU.intro (by decide) (Nat.le_of_ble_eq_true rfl) ?_
  intro p e s m args below meth c A X hP hD hA hAl ls hl
  obtain ⟨hx, hb, hml, hr, hlk, hown, hB, hE⟩ := X
  have hown : s.vm.findClass RX1 = some m.cls := hown
  have F : q_Fx p s m c E RX1 cX1_start 2 := ⟨hx, hb, hml, hown, hB, hE⟩
  have hS : va_S A s.heap s.heap [] := va_S.rf
  have hl : lv_has ls 2 [(0, .ref h0)] := hl
  have K2 : ∀ (n2_ : Nat), ∀ (v1 : Int32) (s0 : q_S), ∀ (H : Heap) (locs : List Loc), va_P (q_D E) vwCl (q_cL E h0 a0 s0) H → va_D A (q_cL E h0 a0 s0) → va_S A s.heap H locs → ∀ ls : Array Slot, lv_has ls 2 [(0, .ref h0), (1, .int v1)] → zX1_start_2  n2_ s0 v1 = some rs0 → W p l e (q_rm 1) s m args below meth c H locs 0 0 (MQ below (q_muQ E A (q_cL E h0 a0 rs0) none) args s 0 0 A) (F0 m 2 ls []) := by
    intro n2_
    induction n2_ with
    | zero => intro v1 s0 H locs hP hD hS ls hl h; exact q_nn h
    | succ n2_ ih2 =>
      intro v1 s0 H locs hP hD hS ls hl h
      rw [zX1_start_2_s] at h
      unfold jX1_start_2 at h
      refine lv_iload_n hx hb dX1_start_2 rfl (lv_at hl 1 rfl) ?_
      refine lv_bipush (v := 8) hx hb dX1_start_3 (by decide) ?_
      refine lv_icmp_ge (tgt := 21) hx hb dX1_start_5 (by decide) (fun c1 => ?_) (fun c1 => ?_)
      · replace h := q_i1 c1 h
        refine lv_aload_n hx hb dX1_start_21 rfl (lv_at hl 0 rfl) ?_
        refine lv_iconst (v := 0) hx hb dX1_start_22 (by decide) ?_
        obtain ⟨y2, ey2, h⟩ := q_ol h
        refine q_put F q_K1 hP hD hS 0 rfl 3 (by decide) q_fX1_18 rfl rfl rfl (Nat.le_of_ble_eq_true rfl) (by rw [ey2]; rfl) dX1_start_23 (fun H locs (hP : va_P (q_D E) vwCl (q_cL E h0 a0 y2) H) hD hS => ?_)
        cases h
        exact q_wV F hr hlk dX1_start_26 hP hD hS
      · replace h := q_i2 c1 h
        refine lv_aload_n hx hb dX1_start_8 rfl (lv_at hl 0 rfl) ?_
        refine q_get F q_K1 hP 0 rfl 0 (by decide) q_fX1_9 rfl dX1_start_9 ?_
        refine lv_iload_n hx hb dX1_start_12 rfl (lv_at hl 1 rfl) ?_
        refine lv_iconst (v := (-1)) hx hb dX1_start_13 (by decide) ?_
        obtain ⟨eg3, h⟩ := q_og h
        obtain ⟨y4, ey4, h⟩ := q_ol h
        refine q_iast F hP hD hS 1 rfl eg3 (by rw [ey4]; rfl) dX1_start_14 (fun H locs (hP : va_P (q_D E) vwCl (q_cL E h0 a0 y4) H) hD hS => ?_)
        obtain ⟨x5, ex5, h⟩ := q_ol h
        refine lv_iinc (v := x5) (lv' := [(1, .int x5), (0, .ref h0)]) hx hb dX1_start_15 hl (k := 1) rfl (by rw [ex5]; rfl) (by decide) rfl (fun ls hl => ?_)
        refine lv_goto (tgt := 2) hx hb dX1_start_18 (by decide) ?_
        exact ih2 x5 y4 H _ hP hD hS ls (lv_sub hl [1, 0] rfl) h
  unfold zX1_start at h
  refine lv_iconst (v := 0) hx hb dX1_start_0 (by decide) ?_
  refine lv_istore_n (lv' := [(1, .int (0 : Int32)), (0, .ref h0)]) hx hb dX1_start_1 rfl hl (by decide) rfl (fun ls hl => ?_)
  exact K2 70000 (0 : Int32) s0 _ _ hP hD hS ls (lv_sub hl [1, 0] rfl) h
def zX3_copyRow (n0 : Nat) (n1 : Nat) (f0 : q_R) (f1 : q_R) : Option (q_R) := q_gd (q_cp false f0 n0 n1 (0 : Int32) (0 : Int32) (if (Int32.ofNat n1) < (Int32.ofNat n0) then (Int32.ofNat n1) else (Int32.ofNat n0))) (q_lt (va_cpy f0 f1 (0 : Int32).toNatClampNeg (0 : Int32).toNatClampNeg (if (Int32.ofNat n1) < (Int32.ofNat n0) then (Int32.ofNat n1) else (Int32.ofNat n0)).toNatClampNeg) fun y2 => some y2)
set_option maxHeartbeats 4000000 in
set_option maxRecDepth 100000 in
theorem kX3_copyRow (l : Launch) (E : q_E) (b0 : Nat) (n0 : Nat) (b1 : Nat) (n1 : Nat) (f0 : q_R) (f1 : q_R)  (sz : Nat) (rf1 : q_R) (h : zX3_copyRow n0 n1 f0 f1 = some rf1) : q_MU l E yX3_copyRow cX3_copyRow 2 none 1 [.ref b0, .ref b1] sz ((q_cR E b0 n0 f0) ++ (q_cR E b1 n1 f1)) ((q_cR E b0 n0 f0) ++ (q_cR E b1 n1 rf1)) none := by
  refine q_MU.intro (by decide) (Nat.le_of_ble_eq_true rfl) ?_
  intro p e s m args below meth c A X hP hD hA hAl ls hl
  obtain ⟨hx, hb, hml, hr, hlk, hown, hB, hE⟩ := X
  have hown : s.vm.findClass RX3 = some m.cls := hown
  have F : q_Fx p s m c E RX3 cX3_copyRow 2 := ⟨hx, hb, hml, hown, hB, hE⟩
  have hS : va_S A s.heap s.heap [] := va_S.rf
  have hl : lv_has ls 2 [(0, .ref b0), (1, .ref b1)] := hl
  unfold zX3_copyRow at h
  refine lv_aload_n hx hb dX3_copyRow_0 rfl (lv_at hl 0 rfl) ?_
  refine lv_iconst (v := 0) hx hb dX3_copyRow_1 (by decide) ?_
  refine lv_aload_n hx hb dX3_copyRow_2 rfl (lv_at hl 1 rfl) ?_
  refine lv_iconst (v := 0) hx hb dX3_copyRow_3 (by decide) ?_
  refine lv_aload_n hx hb dX3_copyRow_4 rfl (lv_at hl 0 rfl) ?_
  refine q_alen F hP 0 1 rfl rfl rfl dX3_copyRow_5 ?_
  refine lv_aload_n hx hb dX3_copyRow_6 rfl (lv_at hl 1 rfl) ?_
  refine q_alen F hP 1 1 rfl rfl rfl dX3_copyRow_7 ?_
  refine q_min F q_mX3_253 (by decide) ⟨_, hl⟩ (Nat.le_of_ble_eq_true rfl) dX3_copyRow_8 ?_
  obtain ⟨eg1, h⟩ := q_og h
  obtain ⟨y2, ey2, h⟩ := q_ol h
  refine q_copyI F q_aX3_256 hP hD hS 0 1 rfl rfl eg1 (by decide) ⟨_, hl⟩ (Nat.le_of_ble_eq_true rfl) (by rw [ey2]; rfl) dX3_copyRow_11 (fun H locs (hP : va_P (q_D E) vwCl ((q_cR E b0 n0 f0) ++ (q_cR E b1 n1 y2)) H) hD hS => ?_)
  cases h
  exact q_wV F hr hlk dX3_copyRow_14 hP hD hS
def zX1_keep (s0 : q_S) (v1 : Int32) : Option (q_S) := q_lt (q_u s0 2 0 v1) fun y1 => q_lt (q_u y1 3 0 (1 : Int32)) fun y2 => q_b1 (zX3_copyRow 8 8 (y2 0) (y2 1)) fun y3 => q_lt (q_uc y2 1 y3) fun y5 => some y5
set_option maxHeartbeats 4000000 in
set_option maxRecDepth 100000 in
theorem kX1_keep (l : Launch) (E : q_E) (h0 : Nat) (a0 : Nat → Nat) (s0 : q_S) (v1 : Int32) (sz : Nat) (rs0 : q_S) (h : zX1_keep s0 v1 = some rs0) : q_MU l E yX1_keep cX1_keep 2 none 2 [.ref h0, .int v1] sz (q_cL E h0 a0 s0) (q_cL E h0 a0 rs0) none := by
  refine q_MU.intro (by decide) (Nat.le_of_ble_eq_true rfl) ?_
  intro p e s m args below meth c A X hP hD hA hAl ls hl
  obtain ⟨hx, hb, hml, hr, hlk, hown, hB, hE⟩ := X
  have hown : s.vm.findClass RX1 = some m.cls := hown
  have F : q_Fx p s m c E RX1 cX1_keep 2 := ⟨hx, hb, hml, hown, hB, hE⟩
  have hS : va_S A s.heap s.heap [] := va_S.rf
  have hl : lv_has ls 2 [(0, .ref h0), (1, .int v1)] := hl
  unfold zX1_keep at h
  refine lv_aload_n hx hb dX1_keep_0 rfl (lv_at hl 0 rfl) ?_
  refine lv_iload_n hx hb dX1_keep_1 rfl (lv_at hl 1 rfl) ?_
  obtain ⟨y1, ey1, h⟩ := q_ol h
  refine q_put F q_K1 hP hD hS 0 rfl 2 (by decide) q_fX1_22 rfl rfl rfl (Nat.le_of_ble_eq_true rfl) (by rw [ey1]; rfl) dX1_keep_2 (fun H locs (hP : va_P (q_D E) vwCl (q_cL E h0 a0 y1) H) hD hS => ?_)
  refine lv_aload_n hx hb dX1_keep_5 rfl (lv_at hl 0 rfl) ?_
  refine lv_iconst (v := 1) hx hb dX1_keep_6 (by decide) ?_
  obtain ⟨y2, ey2, h⟩ := q_ol h
  refine q_put F q_K1 hP hD hS 0 rfl 3 (by decide) q_fX1_18 rfl rfl rfl (Nat.le_of_ble_eq_true rfl) (by rw [ey2]; rfl) dX1_keep_7 (fun H locs (hP : va_P (q_D E) vwCl (q_cL E h0 a0 y2) H) hD hS => ?_)
  refine lv_aload_n hx hb dX1_keep_10 rfl (lv_at hl 0 rfl) ?_
  refine q_get F q_K1 hP 0 rfl 0 (by decide) q_fX1_9 rfl dX1_keep_11 ?_
  refine lv_aload_n hx hb dX1_keep_14 rfl (lv_at hl 0 rfl) ?_
  refine q_get F q_K1 hP 0 rfl 1 (by decide) q_fX1_15 rfl dX1_keep_15 ?_
  obtain ⟨y3, c4, h⟩ := q_o1 h
  refine q_muS F (kX3_copyRow l E (a0 0) 8 (a0 1) 8 (y2 0) (y2 1) H.size y3 c4) q_cX3_copyRow q_lX1_26 (q_s_L_RR_0f0_0f1w E h0 a0 y2 y3) hP hD hS hA hAl ⟨by decide, by decide⟩ rfl ⟨_, hl⟩ (rest := []) rfl (Nat.le_of_ble_eq_true rfl) dX1_keep_18 (fun H locs (hP : va_P (q_D E) vwCl (q_cL E h0 a0 (q_uc y2 1 y3)) H) hD hS => ?_)
  obtain ⟨y5, ey5, h⟩ := q_ol h
  rw [← ey5] at hP hD
  cases h
  exact q_wV F hr hlk dX1_keep_21 hP hD hS
def zX3_hasBit (v0 : Int32) (v1 : Int32) : Option (Int32) := if ((v0 >>> (v1 &&& 31)) &&& (1 : Int32)) = (1 : Int32) then (some (1 : Int32)) else (some (0 : Int32))
set_option maxHeartbeats 4000000 in
set_option maxRecDepth 100000 in
theorem kX3_hasBit (l : Launch) (E : q_E)   (v0 : Int32) (v1 : Int32) (r : Int32) (h : zX3_hasBit v0 v1 = some r) : q_RO l E yX3_hasBit cX3_hasBit 2 (some .boolean) 1 [.int v0, .int v1] ([]) (.int r) := by
  refine q_RO.intro (by decide) (Nat.le_of_ble_eq_true rfl) ?_
  intro p e s m args below meth c X hP ls hl
  obtain ⟨hx, hb, hml, hr, hlk, hown, hB, hE⟩ := X
  have hown : s.vm.findClass RX3 = some m.cls := hown
  have F : q_Fx p s m c E RX3 cX3_hasBit 2 := ⟨hx, hb, hml, hown, hB, hE⟩
  have hV := q_EV.here hE
  have hl : lv_has ls 2 [(0, .int v0), (1, .int v1)] := hl
  unfold zX3_hasBit at h
  refine lv_iload_n hx hb dX3_hasBit_0 rfl (lv_at hl 0 rfl) ?_
  refine lv_iload_n hx hb dX3_hasBit_1 rfl (lv_at hl 1 rfl) ?_
  refine lv_ishr hx hb dX3_hasBit_2 ?_
  refine lv_iconst (v := 1) hx hb dX3_hasBit_3 (by decide) ?_
  refine lv_iand hx hb dX3_hasBit_4 ?_
  refine lv_iconst (v := 1) hx hb dX3_hasBit_5 (by decide) ?_
  refine lv_icmp_ne (tgt := 13) hx hb dX3_hasBit_6 (by decide) (fun c1 => ?_) (fun c1 => ?_)
  · replace h := q_i2 c1 h
    refine lv_iconst (v := 0) hx hb dX3_hasBit_13 (by decide) ?_
    exact q_rZ F hr hlk (by decide) dX3_hasBit_14 h
  · replace h := q_i1 c1 h
    refine lv_iconst (v := 1) hx hb dX3_hasBit_9 (by decide) ?_
    refine lv_goto (tgt := 14) hx hb dX3_hasBit_10 (by decide) ?_
    exact q_rZ F hr hlk (by decide) dX3_hasBit_14 h
def zX3_isSuch (v0 : Int32) (v1 : Int32) : Option (Int32) := if v1 = 0 then (some (1 : Int32)) else (if v1 = v0 then (some (1 : Int32)) else (if v1 = (1 : Int32) then (if v0 = (4 : Int32) then (some (1 : Int32)) else (some (0 : Int32))) else (some (0 : Int32))))
set_option maxHeartbeats 4000000 in
set_option maxRecDepth 100000 in
theorem kX3_isSuch (l : Launch) (E : q_E)   (v0 : Int32) (v1 : Int32) (r : Int32) (h : zX3_isSuch v0 v1 = some r) : q_RO l E yX3_isSuch cX3_isSuch 2 (some .boolean) 1 [.int v0, .int v1] ([]) (.int r) := by
  refine q_RO.intro (by decide) (Nat.le_of_ble_eq_true rfl) ?_
  intro p e s m args below meth c X hP ls hl
  obtain ⟨hx, hb, hml, hr, hlk, hown, hB, hE⟩ := X
  have hown : s.vm.findClass RX3 = some m.cls := hown
  have F : q_Fx p s m c E RX3 cX3_isSuch 2 := ⟨hx, hb, hml, hown, hB, hE⟩
  have hV := q_EV.here hE
  have hl : lv_has ls 2 [(0, .int v0), (1, .int v1)] := hl
  unfold zX3_isSuch at h
  refine lv_iload_n hx hb dX3_isSuch_0 rfl (lv_at hl 1 rfl) ?_
  refine lv_if_eq (tgt := 19) hx hb dX3_isSuch_1 (by decide) (fun c1 => ?_) (fun c1 => ?_)
  · replace h := q_i1 c1 h
    refine lv_iconst (v := 1) hx hb dX3_isSuch_19 (by decide) ?_
    refine lv_goto (tgt := 24) hx hb dX3_isSuch_20 (by decide) ?_
    exact q_rZ F hr hlk (by decide) dX3_isSuch_24 h
  · replace h := q_i2 c1 h
    refine lv_iload_n hx hb dX3_isSuch_4 rfl (lv_at hl 1 rfl) ?_
    refine lv_iload_n hx hb dX3_isSuch_5 rfl (lv_at hl 0 rfl) ?_
    refine lv_icmp_eq (tgt := 19) hx hb dX3_isSuch_6 (by decide) (fun c2 => ?_) (fun c2 => ?_)
    · replace h := q_i1 c2 h
      refine lv_iconst (v := 1) hx hb dX3_isSuch_19 (by decide) ?_
      refine lv_goto (tgt := 24) hx hb dX3_isSuch_20 (by decide) ?_
      exact q_rZ F hr hlk (by decide) dX3_isSuch_24 h
    · replace h := q_i2 c2 h
      refine lv_iload_n hx hb dX3_isSuch_9 rfl (lv_at hl 1 rfl) ?_
      refine lv_iconst (v := 1) hx hb dX3_isSuch_10 (by decide) ?_
      refine lv_icmp_ne (tgt := 23) hx hb dX3_isSuch_11 (by decide) (fun c3 => ?_) (fun c3 => ?_)
      · replace h := q_i2 c3 h
        refine lv_iconst (v := 0) hx hb dX3_isSuch_23 (by decide) ?_
        exact q_rZ F hr hlk (by decide) dX3_isSuch_24 h
      · replace h := q_i1 c3 h
        refine lv_iload_n hx hb dX3_isSuch_14 rfl (lv_at hl 0 rfl) ?_
        refine lv_iconst (v := 4) hx hb dX3_isSuch_15 (by decide) ?_
        refine lv_icmp_ne (tgt := 23) hx hb dX3_isSuch_16 (by decide) (fun c4 => ?_) (fun c4 => ?_)
        · replace h := q_i2 c4 h
          refine lv_iconst (v := 0) hx hb dX3_isSuch_23 (by decide) ?_
          exact q_rZ F hr hlk (by decide) dX3_isSuch_24 h
        · replace h := q_i1 c4 h
          refine lv_iconst (v := 1) hx hb dX3_isSuch_19 (by decide) ?_
          refine lv_goto (tgt := 24) hx hb dX3_isSuch_20 (by decide) ?_
          exact q_rZ F hr hlk (by decide) dX3_isSuch_24 h
def zX3_stomachs (v0 : Int32) (v1 : Int32) (v2 : Int32) : Option (Int32) := if v0 = (2 : Int32) then (some (0 : Int32)) else (q_b1 (zX3_isSuch v0 (1 : Int32)) fun x2 => if x2 = 0 then (if v1 < v2 then (some (0 : Int32)) else (some (1 : Int32))) else (some (1 : Int32)))
set_option maxHeartbeats 4000000 in
set_option maxRecDepth 100000 in
theorem kX3_stomachs (l : Launch) (E : q_E)   (v0 : Int32) (v1 : Int32) (v2 : Int32) (r : Int32) (h : zX3_stomachs v0 v1 v2 = some r) : q_RO l E yX3_stomachs cX3_stomachs 3 (some .boolean) 2 [.int v0, .int v1, .int v2] ([]) (.int r) := by
  refine q_RO.intro (by decide) (Nat.le_of_ble_eq_true rfl) ?_
  intro p e s m args below meth c X hP ls hl
  obtain ⟨hx, hb, hml, hr, hlk, hown, hB, hE⟩ := X
  have hown : s.vm.findClass RX3 = some m.cls := hown
  have F : q_Fx p s m c E RX3 cX3_stomachs 3 := ⟨hx, hb, hml, hown, hB, hE⟩
  have hV := q_EV.here hE
  have hl : lv_has ls 3 [(0, .int v0), (1, .int v1), (2, .int v2)] := hl
  unfold zX3_stomachs at h
  refine lv_iload_n hx hb dX3_stomachs_0 rfl (lv_at hl 0 rfl) ?_
  refine lv_iconst (v := 2) hx hb dX3_stomachs_1 (by decide) ?_
  refine lv_icmp_eq (tgt := 22) hx hb dX3_stomachs_2 (by decide) (fun c1 => ?_) (fun c1 => ?_)
  · replace h := q_i1 c1 h
    refine lv_iconst (v := 0) hx hb dX3_stomachs_22 (by decide) ?_
    exact q_rZ F hr hlk (by decide) dX3_stomachs_23 h
  · replace h := q_i2 c1 h
    refine lv_iload_n hx hb dX3_stomachs_5 rfl (lv_at hl 0 rfl) ?_
    refine lv_iconst (v := 1) hx hb dX3_stomachs_6 (by decide) ?_
    obtain ⟨x2, c3, h⟩ := q_o1 h
    refine q_roS F (kX3_isSuch l E  v0 (1 : Int32) x2 c3) q_cX3_isSuch q_lX3_77 hV (fun k q h => by simp at h) ⟨by decide, by decide⟩ rfl ⟨_, hl⟩ (rest := []) rfl (Nat.le_of_ble_eq_true rfl) dX3_stomachs_7 ?_
    refine lv_if_ne (tgt := 18) hx hb dX3_stomachs_10 (by decide) (fun c4 => ?_) (fun c4 => ?_)
    · replace h := q_i2 c4 h
      refine lv_iconst (v := 1) hx hb dX3_stomachs_18 (by decide) ?_
      refine lv_goto (tgt := 23) hx hb dX3_stomachs_19 (by decide) ?_
      exact q_rZ F hr hlk (by decide) dX3_stomachs_23 h
    · replace h := q_i1 c4 h
      refine lv_iload_n hx hb dX3_stomachs_13 rfl (lv_at hl 2 rfl) ?_
      refine lv_iload_n hx hb dX3_stomachs_14 rfl (lv_at hl 1 rfl) ?_
      refine lv_icmp_gt (tgt := 22) hx hb dX3_stomachs_15 (by decide) (fun c5 => ?_) (fun c5 => ?_)
      · replace h := q_i1 c5 h
        refine lv_iconst (v := 0) hx hb dX3_stomachs_22 (by decide) ?_
        exact q_rZ F hr hlk (by decide) dX3_stomachs_23 h
      · replace h := q_i2 c5 h
        refine lv_iconst (v := 1) hx hb dX3_stomachs_18 (by decide) ?_
        refine lv_goto (tgt := 23) hx hb dX3_stomachs_19 (by decide) ?_
        exact q_rZ F hr hlk (by decide) dX3_stomachs_23 h
def zX3_carriedBy (v0 : Int32) (v1 : Int32) : Option (Int32) := if v0 = (3 : Int32) then (some (v1 / (2 : Int32))) else (some v1)
set_option maxHeartbeats 4000000 in
set_option maxRecDepth 100000 in
theorem kX3_carriedBy (l : Launch) (E : q_E)   (v0 : Int32) (v1 : Int32) (r : Int32) (h : zX3_carriedBy v0 v1 = some r) : q_RO l E yX3_carriedBy cX3_carriedBy 2 (some .int) 1 [.int v0, .int v1] ([]) (.int r) := by
  refine q_RO.intro (by decide) (Nat.le_of_ble_eq_true rfl) ?_
  intro p e s m args below meth c X hP ls hl
  obtain ⟨hx, hb, hml, hr, hlk, hown, hB, hE⟩ := X
  have hown : s.vm.findClass RX3 = some m.cls := hown
  have F : q_Fx p s m c E RX3 cX3_carriedBy 2 := ⟨hx, hb, hml, hown, hB, hE⟩
  have hV := q_EV.here hE
  have hl : lv_has ls 2 [(0, .int v0), (1, .int v1)] := hl
  unfold zX3_carriedBy at h
  refine lv_iload_n hx hb dX3_carriedBy_0 rfl (lv_at hl 0 rfl) ?_
  refine lv_iconst (v := 3) hx hb dX3_carriedBy_1 (by decide) ?_
  refine lv_icmp_ne (tgt := 11) hx hb dX3_carriedBy_2 (by decide) (fun c1 => ?_) (fun c1 => ?_)
  · replace h := q_i2 c1 h
    refine lv_iload_n hx hb dX3_carriedBy_11 rfl (lv_at hl 1 rfl) ?_
    exact q_rI F hr hlk dX3_carriedBy_12 h
  · replace h := q_i1 c1 h
    refine lv_iload_n hx hb dX3_carriedBy_5 rfl (lv_at hl 1 rfl) ?_
    refine lv_iconst (v := 2) hx hb dX3_carriedBy_6 (by decide) ?_
    refine lv_idiv hx hb dX3_carriedBy_7 (by decide) ?_
    refine lv_goto (tgt := 12) hx hb dX3_carriedBy_8 (by decide) ?_
    exact q_rI F hr hlk dX3_carriedBy_12 h
def zX3_lessHungry (v0 : Int32) (v1 : Int32) : Option (Int32) := some (if (v0 - v1) < (0 : Int32) then (0 : Int32) else (v0 - v1))
set_option maxHeartbeats 4000000 in
set_option maxRecDepth 100000 in
theorem kX3_lessHungry (l : Launch) (E : q_E)   (v0 : Int32) (v1 : Int32) (r : Int32) (h : zX3_lessHungry v0 v1 = some r) : q_RO l E yX3_lessHungry cX3_lessHungry 2 (some .int) 1 [.int v0, .int v1] ([]) (.int r) := by
  refine q_RO.intro (by decide) (Nat.le_of_ble_eq_true rfl) ?_
  intro p e s m args below meth c X hP ls hl
  obtain ⟨hx, hb, hml, hr, hlk, hown, hB, hE⟩ := X
  have hown : s.vm.findClass RX3 = some m.cls := hown
  have F : q_Fx p s m c E RX3 cX3_lessHungry 2 := ⟨hx, hb, hml, hown, hB, hE⟩
  have hV := q_EV.here hE
  have hl : lv_has ls 2 [(0, .int v0), (1, .int v1)] := hl
  unfold zX3_lessHungry at h
  refine lv_iload_n hx hb dX3_lessHungry_0 rfl (lv_at hl 0 rfl) ?_
  refine lv_iload_n hx hb dX3_lessHungry_1 rfl (lv_at hl 1 rfl) ?_
  refine lv_isub hx hb dX3_lessHungry_2 ?_
  refine lv_iconst (v := 0) hx hb dX3_lessHungry_3 (by decide) ?_
  refine q_max F q_mX3_231 (by decide) ⟨_, hl⟩ (Nat.le_of_ble_eq_true rfl) dX3_lessHungry_4 ?_
  exact q_rI F hr hlk dX3_lessHungry_7 h
def zX3_roundedUpHalf (v0 : Int32) : Option (Int32) := some ((v0 + (1 : Int32)) / (2 : Int32))
set_option maxHeartbeats 4000000 in
set_option maxRecDepth 100000 in
theorem kX3_roundedUpHalf (l : Launch) (E : q_E)   (v0 : Int32) (r : Int32) (h : zX3_roundedUpHalf v0 = some r) : q_RO l E yX3_roundedUpHalf cX3_roundedUpHalf 1 (some .int) 1 [.int v0] ([]) (.int r) := by
  refine q_RO.intro (by decide) (Nat.le_of_ble_eq_true rfl) ?_
  intro p e s m args below meth c X hP ls hl
  obtain ⟨hx, hb, hml, hr, hlk, hown, hB, hE⟩ := X
  have hown : s.vm.findClass RX3 = some m.cls := hown
  have F : q_Fx p s m c E RX3 cX3_roundedUpHalf 1 := ⟨hx, hb, hml, hown, hB, hE⟩
  have hV := q_EV.here hE
  have hl : lv_has ls 1 [(0, .int v0)] := hl
  unfold zX3_roundedUpHalf at h
  refine lv_iload_n hx hb dX3_roundedUpHalf_0 rfl (lv_at hl 0 rfl) ?_
  refine lv_iconst (v := 1) hx hb dX3_roundedUpHalf_1 (by decide) ?_
  refine lv_iadd hx hb dX3_roundedUpHalf_2 ?_
  refine lv_iconst (v := 2) hx hb dX3_roundedUpHalf_3 (by decide) ?_
  refine lv_idiv hx hb dX3_roundedUpHalf_4 (by decide) ?_
  exact q_rI F hr hlk dX3_roundedUpHalf_5 h
def zJ6_bitCount_0f7a4 (v0 : Int32) : Option (Int32) := q_lt (v0 - ((v0.toUInt32 >>> ((1 : Int32).toUInt32 &&& Int32.toUInt32 31)).toInt32 &&& (1431655765 : Int32))) fun x1 => q_lt ((x1 &&& (858993459 : Int32)) + ((x1.toUInt32 >>> ((2 : Int32).toUInt32 &&& Int32.toUInt32 31)).toInt32 &&& (858993459 : Int32))) fun x2 => q_lt ((x2 + (x2.toUInt32 >>> ((4 : Int32).toUInt32 &&& Int32.toUInt32 31)).toInt32) &&& (252645135 : Int32)) fun x3 => q_lt (x3 + (x3.toUInt32 >>> ((8 : Int32).toUInt32 &&& Int32.toUInt32 31)).toInt32) fun x4 => q_lt (x4 + (x4.toUInt32 >>> ((16 : Int32).toUInt32 &&& Int32.toUInt32 31)).toInt32) fun x5 => some (x5 &&& (63 : Int32))
set_option maxHeartbeats 4000000 in
set_option maxRecDepth 100000 in
theorem kJ6_bitCount_0f7a4 (l : Launch) (E : q_E)   (v0 : Int32) (r : Int32) (h : zJ6_bitCount_0f7a4 v0 = some r) : q_RO l E yJ6_bitCount_0f7a4 cJ6_bitCount_0f7a4 1 (some .int) 1 [.int v0] ([]) (.int r) := by
  refine q_RO.intro (by decide) (Nat.le_of_ble_eq_true rfl) ?_
  intro p e s m args below meth c X hP ls hl
  obtain ⟨hx, hb, hml, hr, hlk, hown, hB, hE⟩ := X
  have hown : s.vm.findClass RJ6 = some m.cls := hown
  have F : q_Fx p s m c E RJ6 cJ6_bitCount_0f7a4 1 := ⟨hx, hb, hml, hown, hB, hE⟩
  have hV := q_EV.here hE
  have hl : lv_has ls 1 [(0, .int v0)] := hl
  unfold zJ6_bitCount_0f7a4 at h
  refine lv_iload_n hx hb dJ6_bitCount_0f7a4_0 rfl (lv_at hl 0 rfl) ?_
  refine lv_iload_n hx hb dJ6_bitCount_0f7a4_1 rfl (lv_at hl 0 rfl) ?_
  refine lv_iconst (v := 1) hx hb dJ6_bitCount_0f7a4_2 (by decide) ?_
  refine lv_iushr hx hb dJ6_bitCount_0f7a4_3 rfl ?_
  refine lv_ldcw (v := 1431655765) hx hb hown (hB _ q_kJ6_265 _) dJ6_bitCount_0f7a4_4 ?_
  refine lv_iand hx hb dJ6_bitCount_0f7a4_7 ?_
  refine lv_isub hx hb dJ6_bitCount_0f7a4_8 ?_
  obtain ⟨x1, ex1, h⟩ := q_ol h
  refine q_top ex1 ?_
  refine lv_istore_n (lv' := [(0, .int x1)]) hx hb dJ6_bitCount_0f7a4_9 rfl hl (by decide) rfl (fun ls hl => ?_)
  refine lv_iload_n hx hb dJ6_bitCount_0f7a4_10 rfl (lv_at hl 0 rfl) ?_
  refine lv_ldcw (v := 858993459) hx hb hown (hB _ q_kJ6_266 _) dJ6_bitCount_0f7a4_11 ?_
  refine lv_iand hx hb dJ6_bitCount_0f7a4_14 ?_
  refine lv_iload_n hx hb dJ6_bitCount_0f7a4_15 rfl (lv_at hl 0 rfl) ?_
  refine lv_iconst (v := 2) hx hb dJ6_bitCount_0f7a4_16 (by decide) ?_
  refine lv_iushr hx hb dJ6_bitCount_0f7a4_17 rfl ?_
  refine lv_ldcw (v := 858993459) hx hb hown (hB _ q_kJ6_266 _) dJ6_bitCount_0f7a4_18 ?_
  refine lv_iand hx hb dJ6_bitCount_0f7a4_21 ?_
  refine lv_iadd hx hb dJ6_bitCount_0f7a4_22 ?_
  obtain ⟨x2, ex2, h⟩ := q_ol h
  refine q_top ex2 ?_
  refine lv_istore_n (lv' := [(0, .int x2)]) hx hb dJ6_bitCount_0f7a4_23 rfl hl (by decide) rfl (fun ls hl => ?_)
  refine lv_iload_n hx hb dJ6_bitCount_0f7a4_24 rfl (lv_at hl 0 rfl) ?_
  refine lv_iload_n hx hb dJ6_bitCount_0f7a4_25 rfl (lv_at hl 0 rfl) ?_
  refine lv_iconst (v := 4) hx hb dJ6_bitCount_0f7a4_26 (by decide) ?_
  refine lv_iushr hx hb dJ6_bitCount_0f7a4_27 rfl ?_
  refine lv_iadd hx hb dJ6_bitCount_0f7a4_28 ?_
  refine lv_ldcw (v := 252645135) hx hb hown (hB _ q_kJ6_267 _) dJ6_bitCount_0f7a4_29 ?_
  refine lv_iand hx hb dJ6_bitCount_0f7a4_32 ?_
  obtain ⟨x3, ex3, h⟩ := q_ol h
  refine q_top ex3 ?_
  refine lv_istore_n (lv' := [(0, .int x3)]) hx hb dJ6_bitCount_0f7a4_33 rfl hl (by decide) rfl (fun ls hl => ?_)
  refine lv_iload_n hx hb dJ6_bitCount_0f7a4_34 rfl (lv_at hl 0 rfl) ?_
  refine lv_iload_n hx hb dJ6_bitCount_0f7a4_35 rfl (lv_at hl 0 rfl) ?_
  refine lv_bipush (v := 8) hx hb dJ6_bitCount_0f7a4_36 (by decide) ?_
  refine lv_iushr hx hb dJ6_bitCount_0f7a4_38 rfl ?_
  refine lv_iadd hx hb dJ6_bitCount_0f7a4_39 ?_
  obtain ⟨x4, ex4, h⟩ := q_ol h
  refine q_top ex4 ?_
  refine lv_istore_n (lv' := [(0, .int x4)]) hx hb dJ6_bitCount_0f7a4_40 rfl hl (by decide) rfl (fun ls hl => ?_)
  refine lv_iload_n hx hb dJ6_bitCount_0f7a4_41 rfl (lv_at hl 0 rfl) ?_
  refine lv_iload_n hx hb dJ6_bitCount_0f7a4_42 rfl (lv_at hl 0 rfl) ?_
  refine lv_bipush (v := 16) hx hb dJ6_bitCount_0f7a4_43 (by decide) ?_
  refine lv_iushr hx hb dJ6_bitCount_0f7a4_45 rfl ?_
  refine lv_iadd hx hb dJ6_bitCount_0f7a4_46 ?_
  obtain ⟨x5, ex5, h⟩ := q_ol h
  refine q_top ex5 ?_
  refine lv_istore_n (lv' := [(0, .int x5)]) hx hb dJ6_bitCount_0f7a4_47 rfl hl (by decide) rfl (fun ls hl => ?_)
  refine lv_iload_n hx hb dJ6_bitCount_0f7a4_48 rfl (lv_at hl 0 rfl) ?_
  refine lv_bipush (v := 63) hx hb dJ6_bitCount_0f7a4_49 (by decide) ?_
  refine lv_iand hx hb dJ6_bitCount_0f7a4_51 ?_
  exact q_rI F hr hlk dJ6_bitCount_0f7a4_52 h
def jX3_leftAtWorst_5 (v0 : Int32) (v1 : Int32) (v2 : Int32) (k5 : Int32 → Int32 → Option (Int32)) (v3 : Int32) (v4 : Int32) : Option (Int32) := if (9 : Int32) < v4 then (q_b1 (zJ6_bitCount_0f7a4 v0) fun x2 => some (if v3 < (x2 - v3) then (x2 - v3) else v3)) else (q_b1 (zX3_hasBit v0 v4) fun x4 => if x4 = 0 then (q_lt (v4 + 1) fun x7 => k5 v3 x7) else (if (v1 + v4) ≤ v2 then (q_lt (v4 + 1) fun x9 => k5 v3 x9) else (q_lt (v3 + 1) fun x10 => q_lt (v4 + 1) fun x11 => k5 x10 x11)))
def zX3_leftAtWorst_5 (v0 : Int32) (v1 : Int32) (v2 : Int32) : Nat → Int32 → Int32 → Option (Int32)
  | 0, _, _ => none
  | n + 1, v3, v4 => jX3_leftAtWorst_5 v0 v1 v2 (zX3_leftAtWorst_5 v0 v1 v2 n) v3 v4
theorem zX3_leftAtWorst_5_s (v0 : Int32) (v1 : Int32) (v2 : Int32) (n : Nat) (v3 : Int32) (v4 : Int32) : zX3_leftAtWorst_5 v0 v1 v2 (n + 1) v3 v4 = jX3_leftAtWorst_5 v0 v1 v2 (zX3_leftAtWorst_5 v0 v1 v2 n) v3 v4 := rfl
def zX3_leftAtWorst (v0 : Int32) (v1 : Int32) (v2 : Int32) : Option (Int32) := zX3_leftAtWorst_5 v0 v1 v2 70000 (0 : Int32) (0 : Int32)
set_option maxHeartbeats 4000000 in
set_option maxRecDepth 100000 in
theorem kX3_leftAtWorst (l : Launch) (E : q_E)   (v0 : Int32) (v1 : Int32) (v2 : Int32) (r : Int32) (h : zX3_leftAtWorst v0 v1 v2 = some r) : q_RO l E yX3_leftAtWorst cX3_leftAtWorst 5 (some .int) 2 [.int v0, .int v1, .int v2] ([]) (.int r) := by
  refine q_RO.intro (by decide) (Nat.le_of_ble_eq_true rfl) ?_
  intro p e s m args below meth c X hP ls hl
  obtain ⟨hx, hb, hml, hr, hlk, hown, hB, hE⟩ := X
  have hown : s.vm.findClass RX3 = some m.cls := hown
  have F : q_Fx p s m c E RX3 cX3_leftAtWorst 5 := ⟨hx, hb, hml, hown, hB, hE⟩
  have hV := q_EV.here hE
  have hl : lv_has ls 5 [(0, .int v0), (1, .int v1), (2, .int v2)] := hl
  have K5 : ∀ (n5_ : Nat), ∀ (v0 : Int32) (v1 : Int32) (v2 : Int32) (v3 : Int32) (v4 : Int32), ∀ ls : Array Slot, lv_has ls 5 [(0, .int v0), (1, .int v1), (2, .int v2), (3, .int v3), (4, .int v4)] → zX3_leftAtWorst_5 v0 v1 v2 n5_ v3 v4 = some r → W p l e (q_rm 2) s m args below meth c s.heap [] 0 0 (MQ below (q_roQ (.int r)) args s 0 0 q_no) (F0 m 5 ls []) := by
    intro n5_
    induction n5_ with
    | zero => intro v0 v1 v2 v3 v4 ls hl h; exact q_nn h
    | succ n5_ ih5 =>
      intro v0 v1 v2 v3 v4 ls hl h
      rw [zX3_leftAtWorst_5_s] at h
      unfold jX3_leftAtWorst_5 at h
      refine lv_iload hx hb dX3_leftAtWorst_5 (lv_at hl 4 rfl) ?_
      refine lv_bipush (v := 9) hx hb dX3_leftAtWorst_7 (by decide) ?_
      refine lv_icmp_gt (tgt := 38) hx hb dX3_leftAtWorst_9 (by decide) (fun c1 => ?_) (fun c1 => ?_)
      · replace h := q_i1 c1 h
        refine lv_iload_n hx hb dX3_leftAtWorst_38 rfl (lv_at hl 3 rfl) ?_
        refine lv_iload_n hx hb dX3_leftAtWorst_39 rfl (lv_at hl 0 rfl) ?_
        obtain ⟨x2, c3, h⟩ := q_o1 h
        refine q_roS F (kJ6_bitCount_0f7a4 l E  v0 x2 c3) q_cJ6_bitCount_0f7a4 q_lX3_157 hV (fun k q h => by simp at h) ⟨by decide, by decide⟩ rfl ⟨_, hl⟩ (rest := [.int v3]) rfl (Nat.le_of_ble_eq_true rfl) dX3_leftAtWorst_40 ?_
        refine lv_iload_n hx hb dX3_leftAtWorst_43 rfl (lv_at hl 3 rfl) ?_
        refine lv_isub hx hb dX3_leftAtWorst_44 ?_
        refine q_max F q_mX3_231 (by decide) ⟨_, hl⟩ (Nat.le_of_ble_eq_true rfl) dX3_leftAtWorst_45 ?_
        exact q_rI F hr hlk dX3_leftAtWorst_48 h
      · replace h := q_i2 c1 h
        refine lv_iload_n hx hb dX3_leftAtWorst_12 rfl (lv_at hl 0 rfl) ?_
        refine lv_iload hx hb dX3_leftAtWorst_13 (lv_at hl 4 rfl) ?_
        obtain ⟨x4, c5, h⟩ := q_o1 h
        refine q_roS F (kX3_hasBit l E  v0 v4 x4 c5) q_cX3_hasBit q_lX3_243 hV (fun k q h => by simp at h) ⟨by decide, by decide⟩ rfl ⟨_, hl⟩ (rest := []) rfl (Nat.le_of_ble_eq_true rfl) dX3_leftAtWorst_15 ?_
        refine lv_if_eq (tgt := 32) hx hb dX3_leftAtWorst_18 (by decide) (fun c6 => ?_) (fun c6 => ?_)
        · replace h := q_i1 c6 h
          obtain ⟨x7, ex7, h⟩ := q_ol h
          refine lv_iinc (v := x7) (lv' := [(4, .int x7), (0, .int v0), (1, .int v1), (2, .int v2), (3, .int v3)]) hx hb dX3_leftAtWorst_32 hl (k := 4) rfl (by rw [ex7]; rfl) (by decide) rfl (fun ls hl => ?_)
          refine lv_goto (tgt := 5) hx hb dX3_leftAtWorst_35 (by decide) ?_
          exact ih5 v0 v1 v2 v3 x7 ls (lv_sub hl [1, 2, 3, 4, 0] rfl) h
        · replace h := q_i2 c6 h
          refine lv_iload_n hx hb dX3_leftAtWorst_21 rfl (lv_at hl 1 rfl) ?_
          refine lv_iload hx hb dX3_leftAtWorst_22 (lv_at hl 4 rfl) ?_
          refine lv_iadd hx hb dX3_leftAtWorst_24 ?_
          refine lv_iload_n hx hb dX3_leftAtWorst_25 rfl (lv_at hl 2 rfl) ?_
          refine lv_icmp_le (tgt := 32) hx hb dX3_leftAtWorst_26 (by decide) (fun c8 => ?_) (fun c8 => ?_)
          · replace h := q_i1 c8 h
            obtain ⟨x9, ex9, h⟩ := q_ol h
            refine lv_iinc (v := x9) (lv' := [(4, .int x9), (0, .int v0), (1, .int v1), (2, .int v2), (3, .int v3)]) hx hb dX3_leftAtWorst_32 hl (k := 4) rfl (by rw [ex9]; rfl) (by decide) rfl (fun ls hl => ?_)
            refine lv_goto (tgt := 5) hx hb dX3_leftAtWorst_35 (by decide) ?_
            exact ih5 v0 v1 v2 v3 x9 ls (lv_sub hl [1, 2, 3, 4, 0] rfl) h
          · replace h := q_i2 c8 h
            obtain ⟨x10, ex10, h⟩ := q_ol h
            refine lv_iinc (v := x10) (lv' := [(3, .int x10), (0, .int v0), (1, .int v1), (2, .int v2), (4, .int v4)]) hx hb dX3_leftAtWorst_29 hl (k := 3) rfl (by rw [ex10]; rfl) (by decide) rfl (fun ls hl => ?_)
            obtain ⟨x11, ex11, h⟩ := q_ol h
            refine lv_iinc (v := x11) (lv' := [(4, .int x11), (3, .int x10), (0, .int v0), (1, .int v1), (2, .int v2)]) hx hb dX3_leftAtWorst_32 hl (k := 4) rfl (by rw [ex11]; rfl) (by decide) rfl (fun ls hl => ?_)
            refine lv_goto (tgt := 5) hx hb dX3_leftAtWorst_35 (by decide) ?_
            exact ih5 v0 v1 v2 x10 x11 ls (lv_sub hl [2, 3, 4, 1, 0] rfl) h
  unfold zX3_leftAtWorst at h
  refine lv_iconst (v := 0) hx hb dX3_leftAtWorst_0 (by decide) ?_
  refine lv_istore_n (lv' := [(3, .int (0 : Int32)), (0, .int v0), (1, .int v1), (2, .int v2)]) hx hb dX3_leftAtWorst_1 rfl hl (by decide) rfl (fun ls hl => ?_)
  refine lv_iconst (v := 0) hx hb dX3_leftAtWorst_2 (by decide) ?_
  refine lv_istore (lv' := [(4, .int (0 : Int32)), (3, .int (0 : Int32)), (0, .int v0), (1, .int v1), (2, .int v2)]) hx hb dX3_leftAtWorst_3 hl (by decide) rfl (fun ls hl => ?_)
  exact K5 70000 v0 v1 v2 (0 : Int32) (0 : Int32) ls (lv_sub hl [2, 3, 4, 1, 0] rfl) h
def jX3_bestQuestion_18 (v0 : Int32) (v1 : Int32) (k18 : Int32 → Int32 → Int32 → Option (Int32)) (v2 : Int32) (v3 : Int32) (v4 : Int32) : Option (Int32) := if (20 : Int32) < v4 then (some v2) else (q_b1 (zX3_leftAtWorst v0 v1 v4) fun x2 => if v3 ≤ x2 then (q_lt (v4 + 1) fun x5 => k18 v2 v3 x5) else (q_lt (v4 + 1) fun x6 => k18 v4 x2 x6))
def zX3_bestQuestion_18 (v0 : Int32) (v1 : Int32) : Nat → Int32 → Int32 → Int32 → Option (Int32)
  | 0, _, _, _ => none
  | n + 1, v2, v3, v4 => jX3_bestQuestion_18 v0 v1 (zX3_bestQuestion_18 v0 v1 n) v2 v3 v4
theorem zX3_bestQuestion_18_s (v0 : Int32) (v1 : Int32) (n : Nat) (v2 : Int32) (v3 : Int32) (v4 : Int32) : zX3_bestQuestion_18 v0 v1 (n + 1) v2 v3 v4 = jX3_bestQuestion_18 v0 v1 (zX3_bestQuestion_18 v0 v1 n) v2 v3 v4 := rfl
def zX3_bestQuestion (v0 : Int32) (v1 : Int32) : Option (Int32) := if v0 = 0 then (some (-1 : Int32)) else (q_b1 (zX3_leftAtWorst v0 v1 (0 : Int32)) fun x8 => zX3_bestQuestion_18 v0 v1 70000 (0 : Int32) x8 (1 : Int32))
set_option maxHeartbeats 4000000 in
set_option maxRecDepth 100000 in
theorem kX3_bestQuestion (l : Launch) (E : q_E)   (v0 : Int32) (v1 : Int32) (r : Int32) (h : zX3_bestQuestion v0 v1 = some r) : q_RO l E yX3_bestQuestion cX3_bestQuestion 6 (some .int) 3 [.int v0, .int v1] ([]) (.int r) := by
  refine q_RO.intro (by decide) (Nat.le_of_ble_eq_true rfl) ?_
  intro p e s m args below meth c X hP ls hl
  obtain ⟨hx, hb, hml, hr, hlk, hown, hB, hE⟩ := X
  have hown : s.vm.findClass RX3 = some m.cls := hown
  have F : q_Fx p s m c E RX3 cX3_bestQuestion 6 := ⟨hx, hb, hml, hown, hB, hE⟩
  have hV := q_EV.here hE
  have hl : lv_has ls 6 [(0, .int v0), (1, .int v1)] := hl
  have K18 : ∀ (n18_ : Nat), ∀ (v0 : Int32) (v1 : Int32) (v2 : Int32) (v3 : Int32) (v4 : Int32), ∀ ls : Array Slot, lv_has ls 6 [(0, .int v0), (1, .int v1), (2, .int v2), (3, .int v3), (4, .int v4)] → zX3_bestQuestion_18 v0 v1 n18_ v2 v3 v4 = some r → W p l e (q_rm 3) s m args below meth c s.heap [] 0 0 (MQ below (q_roQ (.int r)) args s 0 0 q_no) (F0 m 18 ls []) := by
    intro n18_
    induction n18_ with
    | zero => intro v0 v1 v2 v3 v4 ls hl h; exact q_nn h
    | succ n18_ ih18 =>
      intro v0 v1 v2 v3 v4 ls hl h
      rw [zX3_bestQuestion_18_s] at h
      unfold jX3_bestQuestion_18 at h
      refine lv_iload hx hb dX3_bestQuestion_18 (lv_at hl 4 rfl) ?_
      refine lv_bipush (v := 20) hx hb dX3_bestQuestion_20 (by decide) ?_
      refine lv_icmp_gt (tgt := 52) hx hb dX3_bestQuestion_22 (by decide) (fun c1 => ?_) (fun c1 => ?_)
      · replace h := q_i1 c1 h
        refine lv_iload_n hx hb dX3_bestQuestion_52 rfl (lv_at hl 2 rfl) ?_
        exact q_rI F hr hlk dX3_bestQuestion_53 h
      · replace h := q_i2 c1 h
        refine lv_iload_n hx hb dX3_bestQuestion_25 rfl (lv_at hl 0 rfl) ?_
        refine lv_iload_n hx hb dX3_bestQuestion_26 rfl (lv_at hl 1 rfl) ?_
        refine lv_iload hx hb dX3_bestQuestion_27 (lv_at hl 4 rfl) ?_
        obtain ⟨x2, c3, h⟩ := q_o1 h
        refine q_roS F (kX3_leftAtWorst l E  v0 v1 v4 x2 c3) q_cX3_leftAtWorst q_lX3_239 hV (fun k q h => by simp at h) ⟨by decide, by decide⟩ rfl ⟨_, hl⟩ (rest := []) rfl (Nat.le_of_ble_eq_true rfl) dX3_bestQuestion_29 ?_
        refine lv_istore (lv' := [(5, .int x2), (0, .int v0), (1, .int v1), (2, .int v2), (3, .int v3), (4, .int v4)]) hx hb dX3_bestQuestion_32 hl (by decide) rfl (fun ls hl => ?_)
        refine lv_iload hx hb dX3_bestQuestion_34 (lv_at hl 0 rfl) ?_
        refine lv_iload_n hx hb dX3_bestQuestion_36 rfl (lv_at hl 4 rfl) ?_
        refine lv_icmp_ge (tgt := 46) hx hb dX3_bestQuestion_37 (by decide) (fun c4 => ?_) (fun c4 => ?_)
        · replace h := q_i1 c4 h
          obtain ⟨x5, ex5, h⟩ := q_ol h
          refine lv_iinc (v := x5) (lv' := [(4, .int x5), (5, .int x2), (0, .int v0), (1, .int v1), (2, .int v2), (3, .int v3)]) hx hb dX3_bestQuestion_46 hl (k := 5) rfl (by rw [ex5]; rfl) (by decide) rfl (fun ls hl => ?_)
          refine lv_goto (tgt := 18) hx hb dX3_bestQuestion_49 (by decide) ?_
          exact ih18 v0 v1 v2 v3 x5 ls (lv_sub hl [2, 3, 4, 5, 0] rfl) h
        · replace h := q_i2 c4 h
          refine lv_iload hx hb dX3_bestQuestion_40 (lv_at hl 0 rfl) ?_
          refine lv_istore_n (lv' := [(3, .int x2), (5, .int x2), (0, .int v0), (1, .int v1), (2, .int v2), (4, .int v4)]) hx hb dX3_bestQuestion_42 rfl hl (by decide) rfl (fun ls hl => ?_)
          refine lv_iload hx hb dX3_bestQuestion_43 (lv_at hl 5 rfl) ?_
          refine lv_istore_n (lv' := [(2, .int v4), (3, .int x2), (5, .int x2), (0, .int v0), (1, .int v1), (4, .int v4)]) hx hb dX3_bestQuestion_45 rfl hl (by decide) rfl (fun ls hl => ?_)
          obtain ⟨x6, ex6, h⟩ := q_ol h
          refine lv_iinc (v := x6) (lv' := [(4, .int x6), (2, .int v4), (3, .int x2), (5, .int x2), (0, .int v0), (1, .int v1)]) hx hb dX3_bestQuestion_46 hl (k := 5) rfl (by rw [ex6]; rfl) (by decide) rfl (fun ls hl => ?_)
          refine lv_goto (tgt := 18) hx hb dX3_bestQuestion_49 (by decide) ?_
          exact ih18 v0 v1 v4 x2 x6 ls (lv_sub hl [4, 5, 1, 2, 0] rfl) h
  unfold zX3_bestQuestion at h
  refine lv_iload_n hx hb dX3_bestQuestion_0 rfl (lv_at hl 0 rfl) ?_
  refine lv_if_ne (tgt := 6) hx hb dX3_bestQuestion_1 (by decide) (fun c7 => ?_) (fun c7 => ?_)
  · replace h := q_i2 c7 h
    refine lv_iconst (v := 0) hx hb dX3_bestQuestion_6 (by decide) ?_
    refine lv_istore_n (lv' := [(2, .int (0 : Int32)), (0, .int v0), (1, .int v1)]) hx hb dX3_bestQuestion_7 rfl hl (by decide) rfl (fun ls hl => ?_)
    refine lv_iload_n hx hb dX3_bestQuestion_8 rfl (lv_at hl 1 rfl) ?_
    refine lv_iload_n hx hb dX3_bestQuestion_9 rfl (lv_at hl 2 rfl) ?_
    refine lv_iconst (v := 0) hx hb dX3_bestQuestion_10 (by decide) ?_
    obtain ⟨x8, c9, h⟩ := q_o1 h
    refine q_roS F (kX3_leftAtWorst l E  v0 v1 (0 : Int32) x8 c9) q_cX3_leftAtWorst q_lX3_239 hV (fun k q h => by simp at h) ⟨by decide, by decide⟩ rfl ⟨_, hl⟩ (rest := []) rfl (Nat.le_of_ble_eq_true rfl) dX3_bestQuestion_11 ?_
    refine lv_istore_n (lv' := [(3, .int x8), (2, .int (0 : Int32)), (0, .int v0), (1, .int v1)]) hx hb dX3_bestQuestion_14 rfl hl (by decide) rfl (fun ls hl => ?_)
    refine lv_iconst (v := 1) hx hb dX3_bestQuestion_15 (by decide) ?_
    refine lv_istore (lv' := [(4, .int (1 : Int32)), (3, .int x8), (2, .int (0 : Int32)), (0, .int v0), (1, .int v1)]) hx hb dX3_bestQuestion_16 hl (by decide) rfl (fun ls hl => ?_)
    exact K18 70000 v0 v1 (0 : Int32) x8 (1 : Int32) ls (lv_sub hl [3, 4, 2, 1, 0] rfl) h
  · replace h := q_i1 c7 h
    refine lv_iconst (v := (-1)) hx hb dX3_bestQuestion_4 (by decide) ?_
    exact q_rI F hr hlk dX3_bestQuestion_5 h
def jX3_sumOf_10 (n0 : Nat) (f0 : q_R) (v3 : Int32) (k10 : Int32 → Int32 → Option (Int32)) (v1 : Int32) (v4 : Int32) : Option (Int32) := if v3 ≤ v4 then (some v1) else (q_gd (q_ib v4 n0) (q_lt (f0 v4.toNatClampNeg) fun x3 => q_lt (v1 + x3) fun x4 => q_lt (v4 + 1) fun x5 => k10 x4 x5))
def zX3_sumOf_10 (n0 : Nat) (f0 : q_R) (v3 : Int32) : Nat → Int32 → Int32 → Option (Int32)
  | 0, _, _ => none
  | n + 1, v1, v4 => jX3_sumOf_10 n0 f0 v3 (zX3_sumOf_10 n0 f0 v3 n) v1 v4
theorem zX3_sumOf_10_s (n0 : Nat) (f0 : q_R) (v3 : Int32) (n : Nat) (v1 : Int32) (v4 : Int32) : zX3_sumOf_10 n0 f0 v3 (n + 1) v1 v4 = jX3_sumOf_10 n0 f0 v3 (zX3_sumOf_10 n0 f0 v3 n) v1 v4 := rfl
def zX3_sumOf (n0 : Nat) (f0 : q_R) : Option (Int32) := q_lt (Int32.ofNat n0) fun x6 => zX3_sumOf_10 n0 f0 x6 70000 (0 : Int32) (0 : Int32)
set_option maxHeartbeats 4000000 in
set_option maxRecDepth 100000 in
theorem kX3_sumOf (l : Launch) (E : q_E) (b0 : Nat) (n0 : Nat) (f0 : q_R)  (r : Int32) (h : zX3_sumOf n0 f0 = some r) : q_RO l E yX3_sumOf cX3_sumOf 6 (some .int) 1 [.ref b0] (q_cR E b0 n0 f0) (.int r) := by
  refine q_RO.intro (by decide) (Nat.le_of_ble_eq_true rfl) ?_
  intro p e s m args below meth c X hP ls hl
  obtain ⟨hx, hb, hml, hr, hlk, hown, hB, hE⟩ := X
  have hown : s.vm.findClass RX3 = some m.cls := hown
  have F : q_Fx p s m c E RX3 cX3_sumOf 6 := ⟨hx, hb, hml, hown, hB, hE⟩
  have hV := q_EV.here hE
  have hl : lv_has ls 6 [(0, .ref b0)] := hl
  have K10 : ∀ (n10_ : Nat), ∀ (v1 : Int32) (v3 : Int32) (v4 : Int32), ∀ ls : Array Slot, lv_has ls 6 [(1, .int v1), (2, .ref b0), (3, .int v3), (4, .int v4)] → zX3_sumOf_10 n0 f0 v3 n10_ v1 v4 = some r → W p l e (q_rm 1) s m args below meth c s.heap [] 0 0 (MQ below (q_roQ (.int r)) args s 0 0 q_no) (F0 m 10 ls []) := by
    intro n10_
    induction n10_ with
    | zero => intro v1 v3 v4 ls hl h; exact q_nn h
    | succ n10_ ih10 =>
      intro v1 v3 v4 ls hl h
      rw [zX3_sumOf_10_s] at h
      unfold jX3_sumOf_10 at h
      refine lv_iload hx hb dX3_sumOf_10 (lv_at hl 3 rfl) ?_
      refine lv_iload_n hx hb dX3_sumOf_12 rfl (lv_at hl 2 rfl) ?_
      refine lv_icmp_ge (tgt := 33) hx hb dX3_sumOf_13 (by decide) (fun c1 => ?_) (fun c1 => ?_)
      · replace h := q_i1 c1 h
        refine lv_iload_n hx hb dX3_sumOf_33 rfl (lv_at hl 0 rfl) ?_
        exact q_rI F hr hlk dX3_sumOf_34 h
      · replace h := q_i2 c1 h
        refine lv_aload_n hx hb dX3_sumOf_16 rfl (lv_at hl 1 rfl) ?_
        refine lv_iload hx hb dX3_sumOf_17 (lv_at hl 3 rfl) ?_
        obtain ⟨eg2, h⟩ := q_og h
        refine q_iald F hP 0 rfl eg2 dX3_sumOf_19 ?_
        obtain ⟨x3, ex3, h⟩ := q_ol h
        refine q_top ex3 ?_
        refine lv_istore (lv' := [(5, .int x3), (1, .int v1), (2, .ref b0), (3, .int v3), (4, .int v4)]) hx hb dX3_sumOf_20 hl (by decide) rfl (fun ls hl => ?_)
        refine lv_iload_n hx hb dX3_sumOf_22 rfl (lv_at hl 1 rfl) ?_
        refine lv_iload hx hb dX3_sumOf_23 (lv_at hl 0 rfl) ?_
        refine lv_iadd hx hb dX3_sumOf_25 ?_
        obtain ⟨x4, ex4, h⟩ := q_ol h
        refine q_top ex4 ?_
        refine lv_istore_n (lv' := [(1, .int x4), (5, .int x3), (2, .ref b0), (3, .int v3), (4, .int v4)]) hx hb dX3_sumOf_26 rfl hl (by decide) rfl (fun ls hl => ?_)
        obtain ⟨x5, ex5, h⟩ := q_ol h
        refine lv_iinc (v := x5) (lv' := [(4, .int x5), (1, .int x4), (5, .int x3), (2, .ref b0), (3, .int v3)]) hx hb dX3_sumOf_27 hl (k := 4) rfl (by rw [ex5]; rfl) (by decide) rfl (fun ls hl => ?_)
        refine lv_goto (tgt := 10) hx hb dX3_sumOf_30 (by decide) ?_
        exact ih10 x4 v3 x5 ls (lv_sub hl [1, 3, 4, 0] rfl) h
  unfold zX3_sumOf at h
  refine lv_iconst (v := 0) hx hb dX3_sumOf_0 (by decide) ?_
  refine lv_istore_n (lv' := [(1, .int (0 : Int32)), (0, .ref b0)]) hx hb dX3_sumOf_1 rfl hl (by decide) rfl (fun ls hl => ?_)
  refine lv_aload_n hx hb dX3_sumOf_2 rfl (lv_at hl 1 rfl) ?_
  refine lv_astore_n (lv' := [(2, .ref b0), (1, .int (0 : Int32)), (0, .ref b0)]) hx hb dX3_sumOf_3 rfl hl (by decide) rfl (fun ls hl => ?_)
  refine lv_aload_n hx hb dX3_sumOf_4 rfl (lv_at hl 0 rfl) ?_
  refine q_alen F hP 0 1 rfl rfl rfl dX3_sumOf_5 ?_
  obtain ⟨x6, ex6, h⟩ := q_ol h
  refine q_top ex6 ?_
  refine lv_istore_n (lv' := [(3, .int x6), (2, .ref b0), (1, .int (0 : Int32)), (0, .ref b0)]) hx hb dX3_sumOf_6 rfl hl (by decide) rfl (fun ls hl => ?_)
  refine lv_iconst (v := 0) hx hb dX3_sumOf_7 (by decide) ?_
  refine lv_istore (lv' := [(4, .int (0 : Int32)), (3, .int x6), (2, .ref b0), (1, .int (0 : Int32)), (0, .ref b0)]) hx hb dX3_sumOf_8 hl (by decide) rfl (fun ls hl => ?_)
  exact K10 70000 (0 : Int32) x6 (0 : Int32) ls (lv_sub hl [3, 2, 1, 0] rfl) h
def jX3_greatestOf_10 (n0 : Nat) (f0 : q_R) (v3 : Int32) (k10 : Int32 → Int32 → Option (Int32)) (v1 : Int32) (v4 : Int32) : Option (Int32) := if v3 ≤ v4 then (some v1) else (q_gd (q_ib v4 n0) (q_lt (f0 v4.toNatClampNeg) fun x3 => q_lt (if v1 < x3 then x3 else v1) fun x4 => q_lt (v4 + 1) fun x5 => k10 x4 x5))
def zX3_greatestOf_10 (n0 : Nat) (f0 : q_R) (v3 : Int32) : Nat → Int32 → Int32 → Option (Int32)
  | 0, _, _ => none
  | n + 1, v1, v4 => jX3_greatestOf_10 n0 f0 v3 (zX3_greatestOf_10 n0 f0 v3 n) v1 v4
theorem zX3_greatestOf_10_s (n0 : Nat) (f0 : q_R) (v3 : Int32) (n : Nat) (v1 : Int32) (v4 : Int32) : zX3_greatestOf_10 n0 f0 v3 (n + 1) v1 v4 = jX3_greatestOf_10 n0 f0 v3 (zX3_greatestOf_10 n0 f0 v3 n) v1 v4 := rfl
def zX3_greatestOf (n0 : Nat) (f0 : q_R) : Option (Int32) := q_lt (Int32.ofNat n0) fun x6 => zX3_greatestOf_10 n0 f0 x6 70000 (0 : Int32) (0 : Int32)
set_option maxHeartbeats 4000000 in
set_option maxRecDepth 100000 in
theorem kX3_greatestOf (l : Launch) (E : q_E) (b0 : Nat) (n0 : Nat) (f0 : q_R)  (r : Int32) (h : zX3_greatestOf n0 f0 = some r) : q_RO l E yX3_greatestOf cX3_greatestOf 6 (some .int) 1 [.ref b0] (q_cR E b0 n0 f0) (.int r) := by
  refine q_RO.intro (by decide) (Nat.le_of_ble_eq_true rfl) ?_
  intro p e s m args below meth c X hP ls hl
  obtain ⟨hx, hb, hml, hr, hlk, hown, hB, hE⟩ := X
  have hown : s.vm.findClass RX3 = some m.cls := hown
  have F : q_Fx p s m c E RX3 cX3_greatestOf 6 := ⟨hx, hb, hml, hown, hB, hE⟩
  have hV := q_EV.here hE
  have hl : lv_has ls 6 [(0, .ref b0)] := hl
  have K10 : ∀ (n10_ : Nat), ∀ (v1 : Int32) (v3 : Int32) (v4 : Int32), ∀ ls : Array Slot, lv_has ls 6 [(1, .int v1), (2, .ref b0), (3, .int v3), (4, .int v4)] → zX3_greatestOf_10 n0 f0 v3 n10_ v1 v4 = some r → W p l e (q_rm 1) s m args below meth c s.heap [] 0 0 (MQ below (q_roQ (.int r)) args s 0 0 q_no) (F0 m 10 ls []) := by
    intro n10_
    induction n10_ with
    | zero => intro v1 v3 v4 ls hl h; exact q_nn h
    | succ n10_ ih10 =>
      intro v1 v3 v4 ls hl h
      rw [zX3_greatestOf_10_s] at h
      unfold jX3_greatestOf_10 at h
      refine lv_iload hx hb dX3_greatestOf_10 (lv_at hl 3 rfl) ?_
      refine lv_iload_n hx hb dX3_greatestOf_12 rfl (lv_at hl 2 rfl) ?_
      refine lv_icmp_ge (tgt := 35) hx hb dX3_greatestOf_13 (by decide) (fun c1 => ?_) (fun c1 => ?_)
      · replace h := q_i1 c1 h
        refine lv_iload_n hx hb dX3_greatestOf_35 rfl (lv_at hl 0 rfl) ?_
        exact q_rI F hr hlk dX3_greatestOf_36 h
      · replace h := q_i2 c1 h
        refine lv_aload_n hx hb dX3_greatestOf_16 rfl (lv_at hl 1 rfl) ?_
        refine lv_iload hx hb dX3_greatestOf_17 (lv_at hl 3 rfl) ?_
        obtain ⟨eg2, h⟩ := q_og h
        refine q_iald F hP 0 rfl eg2 dX3_greatestOf_19 ?_
        obtain ⟨x3, ex3, h⟩ := q_ol h
        refine q_top ex3 ?_
        refine lv_istore (lv' := [(5, .int x3), (1, .int v1), (2, .ref b0), (3, .int v3), (4, .int v4)]) hx hb dX3_greatestOf_20 hl (by decide) rfl (fun ls hl => ?_)
        refine lv_iload_n hx hb dX3_greatestOf_22 rfl (lv_at hl 1 rfl) ?_
        refine lv_iload hx hb dX3_greatestOf_23 (lv_at hl 0 rfl) ?_
        refine q_max F q_mX3_231 (by decide) ⟨_, hl⟩ (Nat.le_of_ble_eq_true rfl) dX3_greatestOf_25 ?_
        obtain ⟨x4, ex4, h⟩ := q_ol h
        refine q_top ex4 ?_
        refine lv_istore_n (lv' := [(1, .int x4), (5, .int x3), (2, .ref b0), (3, .int v3), (4, .int v4)]) hx hb dX3_greatestOf_28 rfl hl (by decide) rfl (fun ls hl => ?_)
        obtain ⟨x5, ex5, h⟩ := q_ol h
        refine lv_iinc (v := x5) (lv' := [(4, .int x5), (1, .int x4), (5, .int x3), (2, .ref b0), (3, .int v3)]) hx hb dX3_greatestOf_29 hl (k := 4) rfl (by rw [ex5]; rfl) (by decide) rfl (fun ls hl => ?_)
        refine lv_goto (tgt := 10) hx hb dX3_greatestOf_32 (by decide) ?_
        exact ih10 x4 v3 x5 ls (lv_sub hl [1, 3, 4, 0] rfl) h
  unfold zX3_greatestOf at h
  refine lv_iconst (v := 0) hx hb dX3_greatestOf_0 (by decide) ?_
  refine lv_istore_n (lv' := [(1, .int (0 : Int32)), (0, .ref b0)]) hx hb dX3_greatestOf_1 rfl hl (by decide) rfl (fun ls hl => ?_)
  refine lv_aload_n hx hb dX3_greatestOf_2 rfl (lv_at hl 1 rfl) ?_
  refine lv_astore_n (lv' := [(2, .ref b0), (1, .int (0 : Int32)), (0, .ref b0)]) hx hb dX3_greatestOf_3 rfl hl (by decide) rfl (fun ls hl => ?_)
  refine lv_aload_n hx hb dX3_greatestOf_4 rfl (lv_at hl 0 rfl) ?_
  refine q_alen F hP 0 1 rfl rfl rfl dX3_greatestOf_5 ?_
  obtain ⟨x6, ex6, h⟩ := q_ol h
  refine q_top ex6 ?_
  refine lv_istore_n (lv' := [(3, .int x6), (2, .ref b0), (1, .int (0 : Int32)), (0, .ref b0)]) hx hb dX3_greatestOf_6 rfl hl (by decide) rfl (fun ls hl => ?_)
  refine lv_iconst (v := 0) hx hb dX3_greatestOf_7 (by decide) ?_
  refine lv_istore (lv' := [(4, .int (0 : Int32)), (3, .int x6), (2, .ref b0), (1, .int (0 : Int32)), (0, .ref b0)]) hx hb dX3_greatestOf_8 hl (by decide) rfl (fun ls hl => ?_)
  exact K10 70000 (0 : Int32) x6 (0 : Int32) ls (lv_sub hl [3, 2, 1, 0] rfl) h
def zX3_nextSeed (v0 : Int32) : Option (Int32) := some (((((1103515245 : Int64) * v0.toInt64) + (12345 : Int64)) - (((1103515245 : Int64) * v0.toInt64) + (12345 : Int64)) / (2147483648 : Int64) * (2147483648 : Int64)).toInt32)
set_option maxHeartbeats 4000000 in
set_option maxRecDepth 100000 in
theorem kX3_nextSeed (l : Launch) (E : q_E)   (v0 : Int32) (r : Int32) (h : zX3_nextSeed v0 = some r) : q_RO l E yX3_nextSeed cX3_nextSeed 1 (some .int) 1 [.int v0] ([]) (.int r) := by
  refine q_RO.intro (by decide) (Nat.le_of_ble_eq_true rfl) ?_
  intro p e s m args below meth c X hP ls hl
  obtain ⟨hx, hb, hml, hr, hlk, hown, hB, hE⟩ := X
  have hown : s.vm.findClass RX3 = some m.cls := hown
  have F : q_Fx p s m c E RX3 cX3_nextSeed 1 := ⟨hx, hb, hml, hown, hB, hE⟩
  have hV := q_EV.here hE
  have hl : lv_has ls 1 [(0, .int v0)] := hl
  unfold zX3_nextSeed at h
  refine lv_ldc2 (v := 1103515245) hx hb hown (hB _ q_kX3_217 _) dX3_nextSeed_0 ?_
  refine lv_iload_n hx hb dX3_nextSeed_3 rfl (lv_at hl 0 rfl) ?_
  refine lv_i2l hx hb dX3_nextSeed_4 rfl ?_
  refine lv_lmul hx hb dX3_nextSeed_5 ?_
  refine lv_ldc2 (v := 12345) hx hb hown (hB _ q_kX3_219 _) dX3_nextSeed_6 ?_
  refine lv_ladd hx hb dX3_nextSeed_9 ?_
  refine lv_ldc2 (v := 2147483648) hx hb hown (hB _ q_kX3_221 _) dX3_nextSeed_10 ?_
  refine lv_lrem hx hb dX3_nextSeed_13 (by decide) ?_
  refine lv_l2i hx hb dX3_nextSeed_14 rfl ?_
  exact q_rI F hr hlk dX3_nextSeed_15 h
def zX3_drawn (v0 : Int32) (v1 : Int32) : Option (Int32) := if (1 : Int32) ≤ v1 then (q_gd (q_nz v1) (some ((v0 / (65536 : Int32)) - (v0 / (65536 : Int32)) / v1 * v1))) else (some (-1 : Int32))
set_option maxHeartbeats 4000000 in
set_option maxRecDepth 100000 in
theorem kX3_drawn (l : Launch) (E : q_E)   (v0 : Int32) (v1 : Int32) (r : Int32) (h : zX3_drawn v0 v1 = some r) : q_RO l E yX3_drawn cX3_drawn 2 (some .int) 1 [.int v0, .int v1] ([]) (.int r) := by
  refine q_RO.intro (by decide) (Nat.le_of_ble_eq_true rfl) ?_
  intro p e s m args below meth c X hP ls hl
  obtain ⟨hx, hb, hml, hr, hlk, hown, hB, hE⟩ := X
  have hown : s.vm.findClass RX3 = some m.cls := hown
  have F : q_Fx p s m c E RX3 cX3_drawn 2 := ⟨hx, hb, hml, hown, hB, hE⟩
  have hV := q_EV.here hE
  have hl : lv_has ls 2 [(0, .int v0), (1, .int v1)] := hl
  unfold zX3_drawn at h
  refine lv_iload_n hx hb dX3_drawn_0 rfl (lv_at hl 1 rfl) ?_
  refine lv_iconst (v := 1) hx hb dX3_drawn_1 (by decide) ?_
  refine lv_icmp_ge (tgt := 9) hx hb dX3_drawn_2 (by decide) (fun c1 => ?_) (fun c1 => ?_)
  · replace h := q_i1 c1 h
    refine lv_iload_n hx hb dX3_drawn_9 rfl (lv_at hl 0 rfl) ?_
    refine lv_ldc (v := 65536) hx hb hown (hB _ q_kX3_223 _) dX3_drawn_10 ?_
    refine lv_idiv hx hb dX3_drawn_12 (by decide) ?_
    refine lv_iload_n hx hb dX3_drawn_13 rfl (lv_at hl 1 rfl) ?_
    obtain ⟨eg2, h⟩ := q_og h
    refine lv_irem hx hb dX3_drawn_14 (q_nz_in eg2) ?_
    exact q_rI F hr hlk dX3_drawn_15 h
  · replace h := q_i2 c1 h
    refine lv_iconst (v := (-1)) hx hb dX3_drawn_5 (by decide) ?_
    refine lv_goto (tgt := 15) hx hb dX3_drawn_6 (by decide) ?_
    exact q_rI F hr hlk dX3_drawn_15 h
def zX4_within (v0 : Int32) (v1 : Int32) (v2 : Int32) : Option (Int32) := if v0 < v1 then (some (0 : Int32)) else (if v2 < v0 then (some (0 : Int32)) else (some (1 : Int32)))
set_option maxHeartbeats 4000000 in
set_option maxRecDepth 100000 in
theorem kX4_within (l : Launch) (E : q_E)   (v0 : Int32) (v1 : Int32) (v2 : Int32) (r : Int32) (h : zX4_within v0 v1 v2 = some r) : q_RO l E yX4_within cX4_within 3 (some .boolean) 1 [.int v0, .int v1, .int v2] ([]) (.int r) := by
  refine q_RO.intro (by decide) (Nat.le_of_ble_eq_true rfl) ?_
  intro p e s m args below meth c X hP ls hl
  obtain ⟨hx, hb, hml, hr, hlk, hown, hB, hE⟩ := X
  have hown : s.vm.findClass RX4 = some m.cls := hown
  have F : q_Fx p s m c E RX4 cX4_within 3 := ⟨hx, hb, hml, hown, hB, hE⟩
  have hV := q_EV.here hE
  have hl : lv_has ls 3 [(0, .int v0), (1, .int v1), (2, .int v2)] := hl
  unfold zX4_within at h
  refine lv_iload_n hx hb dX4_within_0 rfl (lv_at hl 0 rfl) ?_
  refine lv_iload_n hx hb dX4_within_1 rfl (lv_at hl 1 rfl) ?_
  refine lv_icmp_lt (tgt := 14) hx hb dX4_within_2 (by decide) (fun c1 => ?_) (fun c1 => ?_)
  · replace h := q_i1 c1 h
    refine lv_iconst (v := 0) hx hb dX4_within_14 (by decide) ?_
    exact q_rZ F hr hlk (by decide) dX4_within_15 h
  · replace h := q_i2 c1 h
    refine lv_iload_n hx hb dX4_within_5 rfl (lv_at hl 0 rfl) ?_
    refine lv_iload_n hx hb dX4_within_6 rfl (lv_at hl 2 rfl) ?_
    refine lv_icmp_gt (tgt := 14) hx hb dX4_within_7 (by decide) (fun c2 => ?_) (fun c2 => ?_)
    · replace h := q_i1 c2 h
      refine lv_iconst (v := 0) hx hb dX4_within_14 (by decide) ?_
      exact q_rZ F hr hlk (by decide) dX4_within_15 h
    · replace h := q_i2 c2 h
      refine lv_iconst (v := 1) hx hb dX4_within_10 (by decide) ?_
      refine lv_goto (tgt := 15) hx hb dX4_within_11 (by decide) ?_
      exact q_rZ F hr hlk (by decide) dX4_within_15 h
def zX4_isIn (v0 : Int32) (v1 : Int32) : Option (Int32) := if ((v0 >>> (v1 &&& 31)) &&& (1 : Int32)) = (1 : Int32) then (some (1 : Int32)) else (some (0 : Int32))
set_option maxHeartbeats 4000000 in
set_option maxRecDepth 100000 in
theorem kX4_isIn (l : Launch) (E : q_E)   (v0 : Int32) (v1 : Int32) (r : Int32) (h : zX4_isIn v0 v1 = some r) : q_RO l E yX4_isIn cX4_isIn 2 (some .boolean) 1 [.int v0, .int v1] ([]) (.int r) := by
  refine q_RO.intro (by decide) (Nat.le_of_ble_eq_true rfl) ?_
  intro p e s m args below meth c X hP ls hl
  obtain ⟨hx, hb, hml, hr, hlk, hown, hB, hE⟩ := X
  have hown : s.vm.findClass RX4 = some m.cls := hown
  have F : q_Fx p s m c E RX4 cX4_isIn 2 := ⟨hx, hb, hml, hown, hB, hE⟩
  have hV := q_EV.here hE
  have hl : lv_has ls 2 [(0, .int v0), (1, .int v1)] := hl
  unfold zX4_isIn at h
  refine lv_iload_n hx hb dX4_isIn_0 rfl (lv_at hl 0 rfl) ?_
  refine lv_iload_n hx hb dX4_isIn_1 rfl (lv_at hl 1 rfl) ?_
  refine lv_ishr hx hb dX4_isIn_2 ?_
  refine lv_iconst (v := 1) hx hb dX4_isIn_3 (by decide) ?_
  refine lv_iand hx hb dX4_isIn_4 ?_
  refine lv_iconst (v := 1) hx hb dX4_isIn_5 (by decide) ?_
  refine lv_icmp_ne (tgt := 13) hx hb dX4_isIn_6 (by decide) (fun c1 => ?_) (fun c1 => ?_)
  · replace h := q_i2 c1 h
    refine lv_iconst (v := 0) hx hb dX4_isIn_13 (by decide) ?_
    exact q_rZ F hr hlk (by decide) dX4_isIn_14 h
  · replace h := q_i1 c1 h
    refine lv_iconst (v := 1) hx hb dX4_isIn_9 (by decide) ?_
    refine lv_goto (tgt := 14) hx hb dX4_isIn_10 (by decide) ?_
    exact q_rZ F hr hlk (by decide) dX4_isIn_14 h
def zX4_kindBy (v0 : Int32) : Option (Int32) := if v0 = 98 then (some (3 : Int32)) else (if v0 = 101 then (some (0 : Int32)) else (if v0 = 112 then (some (1 : Int32)) else (if v0 = 114 then (some (2 : Int32)) else (if v0 = 116 then (some (4 : Int32)) else (some (-1 : Int32))))))
set_option maxHeartbeats 4000000 in
set_option maxRecDepth 100000 in
theorem kX4_kindBy (l : Launch) (E : q_E)   (v0 : Int32) (r : Int32) (h : zX4_kindBy v0 = some r) : q_RO l E yX4_kindBy cX4_kindBy 1 (some .int) 1 [.int v0] ([]) (.int r) := by
  refine q_RO.intro (by decide) (Nat.le_of_ble_eq_true rfl) ?_
  intro p e s m args below meth c X hP ls hl
  obtain ⟨hx, hb, hml, hr, hlk, hown, hB, hE⟩ := X
  have hown : s.vm.findClass RX4 = some m.cls := hown
  have F : q_Fx p s m c E RX4 cX4_kindBy 1 := ⟨hx, hb, hml, hown, hB, hE⟩
  have hV := q_EV.here hE
  have hl : lv_has ls 1 [(0, .int v0)] := hl
  unfold zX4_kindBy at h
  refine lv_iload_n hx hb dX4_kindBy_0 rfl (lv_at hl 0 rfl) ?_
  by_cases c1 : v0 = 98
  · replace h := q_i1 c1 h
    refine lv_lookup (off := 57) (tgt := 58) hx hb dX4_kindBy_1 (by decide) (by rw [c1]; rfl) (by decide) ?_
    refine lv_iconst (v := 3) hx hb dX4_kindBy_58 (by decide) ?_
    exact q_rI F hr hlk dX4_kindBy_59 h
  · replace h := q_i2 c1 h
    by_cases c2 : v0 = 101
    · replace h := q_i1 c2 h
      refine lv_lookup (off := 51) (tgt := 52) hx hb dX4_kindBy_1 (by decide) (by rw [c2]; rfl) (by decide) ?_
      refine lv_iconst (v := 0) hx hb dX4_kindBy_52 (by decide) ?_
      exact q_rI F hr hlk dX4_kindBy_53 h
    · replace h := q_i2 c2 h
      by_cases c3 : v0 = 112
      · replace h := q_i1 c3 h
        refine lv_lookup (off := 53) (tgt := 54) hx hb dX4_kindBy_1 (by decide) (by rw [c3]; rfl) (by decide) ?_
        refine lv_iconst (v := 1) hx hb dX4_kindBy_54 (by decide) ?_
        exact q_rI F hr hlk dX4_kindBy_55 h
      · replace h := q_i2 c3 h
        by_cases c4 : v0 = 114
        · replace h := q_i1 c4 h
          refine lv_lookup (off := 55) (tgt := 56) hx hb dX4_kindBy_1 (by decide) (by rw [c4]; rfl) (by decide) ?_
          refine lv_iconst (v := 2) hx hb dX4_kindBy_56 (by decide) ?_
          exact q_rI F hr hlk dX4_kindBy_57 h
        · replace h := q_i2 c4 h
          by_cases c5 : v0 = 116
          · replace h := q_i1 c5 h
            refine lv_lookup (off := 59) (tgt := 60) hx hb dX4_kindBy_1 (by decide) (by rw [c5]; rfl) (by decide) ?_
            refine lv_iconst (v := 4) hx hb dX4_kindBy_60 (by decide) ?_
            exact q_rI F hr hlk dX4_kindBy_61 h
          · replace h := q_i2 c5 h
            refine lv_lookup (off := 61) (tgt := 62) hx hb dX4_kindBy_1 (by decide) (by rw [lv_osw c1 (by decide)]; rw [lv_osw c2 (by decide)]; rw [lv_osw c3 (by decide)]; rw [lv_osw c4 (by decide)]; rw [lv_osw c5 (by decide)]; rfl) (by decide) ?_
            refine lv_iconst (v := (-1)) hx hb dX4_kindBy_62 (by decide) ?_
            exact q_rI F hr hlk dX4_kindBy_63 h
