def zX4_letter (s0 : q_S) (v1 : Int32) : Option (Int32 × q_S) := q_b1 (zX4_within v1 (32 : Int32) (126 : Int32)) fun x1 => if x1 = 0 then (some ((-102 : Int32), s0)) else (if (s0 17 0) = (24 : Int32) then (some ((-104 : Int32), s0)) else (q_gd (q_ib (s0 17 0) 24) (q_lt (q_u s0 18 (s0 17 0).toNatClampNeg (vp_nar .byte v1.toInt8.toInt32)) fun y6 => q_lt (q_u y6 17 0 ((y6 17 0) + (1 : Int32))) fun y7 => some ((y7 17 0), y7))))
set_option maxHeartbeats 4000000 in
set_option maxRecDepth 100000 in
theorem kX4_letter (l : Launch) (E : q_E) (h0 : Nat) (a0 : Nat → Nat) (s0 : q_S) (g0 : q_G) (v1 : Int32) (sz : Nat) (r : Int32) (rs0 : q_S) (h : zX4_letter s0 v1 = some (r, rs0)) : q_MU l E yX4_letter cX4_letter 2 (some .int) 2 [.ref h0, .int v1] sz (q_cM E h0 a0 s0 g0) (q_cM E h0 a0 rs0 g0) (some (.int r)) := by
  refine q_MU.intro (by decide) (Nat.le_of_ble_eq_true rfl) ?_
  intro p e s m args below meth c A X hP hD hA hAl ls hl
  obtain ⟨hx, hb, hml, hr, hlk, hown, hB, hE⟩ := X
  have hown : s.vm.findClass RX4 = some m.cls := hown
  have F : q_Fx p s m c E RX4 cX4_letter 2 := ⟨hx, hb, hml, hown, hB, hE⟩
  have hS : va_S A s.heap s.heap [] := va_S.rf
  have hl : lv_has ls 2 [(0, .ref h0), (1, .int v1)] := hl
  unfold zX4_letter at h
  refine lv_iload_n hx hb dX4_letter_0 rfl (lv_at hl 1 rfl) ?_
  refine lv_bipush (v := 32) hx hb dX4_letter_1 (by decide) ?_
  refine lv_bipush (v := 126) hx hb dX4_letter_3 (by decide) ?_
  obtain ⟨x1, c2, h⟩ := q_o1 h
  refine q_roS F (kX4_within l E  v1 (32 : Int32) (126 : Int32) x1 c2) q_cX4_within q_lX4_75 (q_EV.go F.2.2.2.2.2 hAl hS) (fun k q h => by simp at h) ⟨by decide, by decide⟩ rfl ⟨_, hl⟩ (rest := []) rfl (Nat.le_of_ble_eq_true rfl) dX4_letter_5 ?_
  refine lv_if_ne (tgt := 14) hx hb dX4_letter_8 (by decide) (fun c3 => ?_) (fun c3 => ?_)
  · replace h := q_i2 c3 h
    refine lv_aload_n hx hb dX4_letter_14 rfl (lv_at hl 0 rfl) ?_
    refine q_get F q_K4 hP 0 rfl 17 (by decide) q_fX4_79 rfl dX4_letter_15 ?_
    refine lv_bipush (v := 24) hx hb dX4_letter_18 (by decide) ?_
    refine lv_icmp_ne (tgt := 26) hx hb dX4_letter_20 (by decide) (fun c4 => ?_) (fun c4 => ?_)
    · replace h := q_i2 c4 h
      refine lv_aload_n hx hb dX4_letter_26 rfl (lv_at hl 0 rfl) ?_
      refine q_get F q_K4 hP 0 rfl 18 (by decide) q_fX4_41 rfl dX4_letter_27 ?_
      refine lv_aload_n hx hb dX4_letter_30 rfl (lv_at hl 0 rfl) ?_
      refine q_get F q_K4 hP 0 rfl 17 (by decide) q_fX4_79 rfl dX4_letter_31 ?_
      refine lv_iload_n hx hb dX4_letter_34 rfl (lv_at hl 1 rfl) ?_
      refine lv_i2b hx hb dX4_letter_35 rfl ?_
      obtain ⟨eg5, h⟩ := q_og h
      obtain ⟨y6, ey6, h⟩ := q_ol h
      refine q_bast F hP hD hS 11 rfl eg5 (by rw [ey6]; rfl) dX4_letter_36 (fun H locs (hP : va_P (q_D E) vwCl (q_cM E h0 a0 y6 g0) H) hD hS => ?_)
      refine lv_aload_n hx hb dX4_letter_37 rfl (lv_at hl 0 rfl) ?_
      refine lv_dup hx hb dX4_letter_38 rfl ?_
      refine q_get F q_K4 hP 0 rfl 17 (by decide) q_fX4_79 rfl dX4_letter_39 ?_
      refine lv_iconst (v := 1) hx hb dX4_letter_42 (by decide) ?_
      refine lv_iadd hx hb dX4_letter_43 ?_
      obtain ⟨y7, ey7, h⟩ := q_ol h
      refine q_put F q_K4 hP hD hS 0 rfl 17 (by decide) q_fX4_79 rfl rfl rfl (Nat.le_of_ble_eq_true rfl) (by rw [ey7]; rfl) dX4_letter_44 (fun H locs (hP : va_P (q_D E) vwCl (q_cM E h0 a0 y7 g0) H) hD hS => ?_)
      refine lv_aload_n hx hb dX4_letter_47 rfl (lv_at hl 0 rfl) ?_
      refine q_get F q_K4 hP 0 rfl 17 (by decide) q_fX4_79 rfl dX4_letter_48 ?_
      cases h
      exact q_wI F hr hlk dX4_letter_51 hP hD hS
    · replace h := q_i1 c4 h
      refine lv_bipush (v := (-104)) hx hb dX4_letter_23 (by decide) ?_
      cases h
      exact q_wI F hr hlk dX4_letter_25 hP hD hS
  · replace h := q_i1 c3 h
    refine lv_bipush (v := (-102)) hx hb dX4_letter_11 (by decide) ?_
    cases h
    exact q_wI F hr hlk dX4_letter_13 hP hD hS
def zX4_blank (s0 : q_S) : Option (Int32 × q_S) := q_lt (s0 17 0) fun x1 => q_lt (q_u s0 17 0 (0 : Int32)) fun y2 => some (x1, y2)
set_option maxHeartbeats 4000000 in
set_option maxRecDepth 100000 in
theorem kX4_blank (l : Launch) (E : q_E) (h0 : Nat) (a0 : Nat → Nat) (s0 : q_S) (g0 : q_G)  (sz : Nat) (r : Int32) (rs0 : q_S) (h : zX4_blank s0 = some (r, rs0)) : q_MU l E yX4_blank cX4_blank 2 (some .int) 1 [.ref h0] sz (q_cM E h0 a0 s0 g0) (q_cM E h0 a0 rs0 g0) (some (.int r)) := by
  refine q_MU.intro (by decide) (Nat.le_of_ble_eq_true rfl) ?_
  intro p e s m args below meth c A X hP hD hA hAl ls hl
  obtain ⟨hx, hb, hml, hr, hlk, hown, hB, hE⟩ := X
  have hown : s.vm.findClass RX4 = some m.cls := hown
  have F : q_Fx p s m c E RX4 cX4_blank 2 := ⟨hx, hb, hml, hown, hB, hE⟩
  have hS : va_S A s.heap s.heap [] := va_S.rf
  have hl : lv_has ls 2 [(0, .ref h0)] := hl
  unfold zX4_blank at h
  refine lv_aload_n hx hb dX4_blank_0 rfl (lv_at hl 0 rfl) ?_
  refine q_get F q_K4 hP 0 rfl 17 (by decide) q_fX4_79 rfl dX4_blank_1 ?_
  obtain ⟨x1, ex1, h⟩ := q_ol h
  refine q_top ex1 ?_
  refine lv_istore_n (lv' := [(1, .int x1), (0, .ref h0)]) hx hb dX4_blank_4 rfl hl (by decide) rfl (fun ls hl => ?_)
  refine lv_aload_n hx hb dX4_blank_5 rfl (lv_at hl 1 rfl) ?_
  refine lv_iconst (v := 0) hx hb dX4_blank_6 (by decide) ?_
  obtain ⟨y2, ey2, h⟩ := q_ol h
  refine q_put F q_K4 hP hD hS 0 rfl 17 (by decide) q_fX4_79 rfl rfl rfl (Nat.le_of_ble_eq_true rfl) (by rw [ey2]; rfl) dX4_blank_7 (fun H locs (hP : va_P (q_D E) vwCl (q_cM E h0 a0 y2 g0) H) hD hS => ?_)
  refine lv_iload_n hx hb dX4_blank_10 rfl (lv_at hl 0 rfl) ?_
  cases h
  exact q_wI F hr hlk dX4_blank_11 hP hD hS
def zX4_isFigure (s0 : q_S) (v1 : Int32) : Option (Int32) := if (s0 17 0) ≤ v1 then (some (0 : Int32)) else (q_gd (q_ib v1 24) (q_b1 (zX4_within ((s0 18 v1.toNatClampNeg) - (48 : Int32)) (0 : Int32) (9 : Int32)) fun x3 => if x3 = 0 then (some (0 : Int32)) else (some (1 : Int32))))
set_option maxHeartbeats 4000000 in
set_option maxRecDepth 100000 in
theorem kX4_isFigure (l : Launch) (E : q_E) (h0 : Nat) (a0 : Nat → Nat) (s0 : q_S) (g0 : q_G) (v1 : Int32) (r : Int32) (h : zX4_isFigure s0 v1 = some r) : q_RO l E yX4_isFigure cX4_isFigure 2 (some .boolean) 2 [.ref h0, .int v1] (q_cM E h0 a0 s0 g0) (.int r) := by
  refine q_RO.intro (by decide) (Nat.le_of_ble_eq_true rfl) ?_
  intro p e s m args below meth c X hP ls hl
  obtain ⟨hx, hb, hml, hr, hlk, hown, hB, hE⟩ := X
  have hown : s.vm.findClass RX4 = some m.cls := hown
  have F : q_Fx p s m c E RX4 cX4_isFigure 2 := ⟨hx, hb, hml, hown, hB, hE⟩
  have hV := q_EV.here hE
  have hl : lv_has ls 2 [(0, .ref h0), (1, .int v1)] := hl
  unfold zX4_isFigure at h
  refine lv_iload_n hx hb dX4_isFigure_0 rfl (lv_at hl 1 rfl) ?_
  refine lv_aload_n hx hb dX4_isFigure_1 rfl (lv_at hl 0 rfl) ?_
  refine q_get F q_K4 hP 0 rfl 17 (by decide) q_fX4_79 rfl dX4_isFigure_2 ?_
  refine lv_icmp_ge (tgt := 30) hx hb dX4_isFigure_5 (by decide) (fun c1 => ?_) (fun c1 => ?_)
  · replace h := q_i1 c1 h
    refine lv_iconst (v := 0) hx hb dX4_isFigure_30 (by decide) ?_
    exact q_rZ F hr hlk (by decide) dX4_isFigure_31 h
  · replace h := q_i2 c1 h
    refine lv_aload_n hx hb dX4_isFigure_8 rfl (lv_at hl 0 rfl) ?_
    refine q_get F q_K4 hP 0 rfl 18 (by decide) q_fX4_41 rfl dX4_isFigure_9 ?_
    refine lv_iload_n hx hb dX4_isFigure_12 rfl (lv_at hl 1 rfl) ?_
    obtain ⟨eg2, h⟩ := q_og h
    refine q_bald F hP 11 rfl eg2 dX4_isFigure_13 ?_
    refine lv_bipush (v := 48) hx hb dX4_isFigure_14 (by decide) ?_
    refine lv_isub hx hb dX4_isFigure_16 ?_
    refine lv_iconst (v := 0) hx hb dX4_isFigure_17 (by decide) ?_
    refine lv_bipush (v := 9) hx hb dX4_isFigure_18 (by decide) ?_
    obtain ⟨x3, c4, h⟩ := q_o1 h
    refine q_roS F (kX4_within l E  ((s0 18 v1.toNatClampNeg) - (48 : Int32)) (0 : Int32) (9 : Int32) x3 c4) q_cX4_within q_lX4_75 hV (fun k q h => by simp at h) ⟨by decide, by decide⟩ rfl ⟨_, hl⟩ (rest := []) rfl (Nat.le_of_ble_eq_true rfl) dX4_isFigure_20 ?_
    refine lv_if_eq (tgt := 30) hx hb dX4_isFigure_23 (by decide) (fun c5 => ?_) (fun c5 => ?_)
    · replace h := q_i1 c5 h
      refine lv_iconst (v := 0) hx hb dX4_isFigure_30 (by decide) ?_
      exact q_rZ F hr hlk (by decide) dX4_isFigure_31 h
    · replace h := q_i2 c5 h
      refine lv_iconst (v := 1) hx hb dX4_isFigure_26 (by decide) ?_
      refine lv_goto (tgt := 31) hx hb dX4_isFigure_27 (by decide) ?_
      exact q_rZ F hr hlk (by decide) dX4_isFigure_31 h
def zX4_readLoaves_24 (s0 : q_S) (v1 : Int32) (v2 : Int32) : Option (Int32 × q_S) := q_lt (q_u s0 21 0 ((v2 - v1) / (2 : Int32))) fun y1 => if v2 = (y1 17 0) then (if (y1 21 0) ≤ 0 then (q_lt (q_u y1 19 0 (0 : Int32)) fun y5 => some (v2, y5)) else (if ((v2 - v1) - (v2 - v1) / (2 : Int32) * (2 : Int32)) = 0 then (q_lt (q_u y1 19 0 (1 : Int32)) fun y8 => some (v2, y8)) else (q_lt (q_u y1 19 0 (0 : Int32)) fun y7 => some (v2, y7)))) else (q_lt (q_u y1 19 0 (0 : Int32)) fun y3 => some (v2, y3))
def jX4_readLoaves_2 (s0 : q_S) (v1 : Int32) (k2 : Int32 → Option (Int32 × q_S)) (v2 : Int32) : Option (Int32 × q_S) := if (v1 + (10 : Int32)) ≤ v2 then (zX4_readLoaves_24 s0 v1 v2) else (q_b1 (zX4_isFigure s0 v2) fun x10 => if x10 = 0 then (zX4_readLoaves_24 s0 v1 v2) else (q_lt (v2 + 1) fun x13 => k2 x13))
def zX4_readLoaves_2 (s0 : q_S) (v1 : Int32) : Nat → Int32 → Option (Int32 × q_S)
  | 0, _ => none
  | n + 1, v2 => jX4_readLoaves_2 s0 v1 (zX4_readLoaves_2 s0 v1 n) v2
theorem zX4_readLoaves_2_s (s0 : q_S) (v1 : Int32) (n : Nat) (v2 : Int32) : zX4_readLoaves_2 s0 v1 (n + 1) v2 = jX4_readLoaves_2 s0 v1 (zX4_readLoaves_2 s0 v1 n) v2 := rfl
def zX4_readLoaves (s0 : q_S) (v1 : Int32) : Option (Int32 × q_S) := zX4_readLoaves_2 s0 v1 70000 v1
set_option maxHeartbeats 4000000 in
set_option maxRecDepth 100000 in
theorem kX4_readLoaves (l : Launch) (E : q_E) (h0 : Nat) (a0 : Nat → Nat) (s0 : q_S) (g0 : q_G) (v1 : Int32) (sz : Nat) (r : Int32) (rs0 : q_S) (h : zX4_readLoaves s0 v1 = some (r, rs0)) : q_MU l E yX4_readLoaves cX4_readLoaves 3 (some .int) 3 [.ref h0, .int v1] sz (q_cM E h0 a0 s0 g0) (q_cM E h0 a0 rs0 g0) (some (.int r)) := by
  refine q_MU.intro (by decide) (Nat.le_of_ble_eq_true rfl) ?_
  intro p e s m args below meth c A X hP hD hA hAl ls hl
  obtain ⟨hx, hb, hml, hr, hlk, hown, hB, hE⟩ := X
  have hown : s.vm.findClass RX4 = some m.cls := hown
  have F : q_Fx p s m c E RX4 cX4_readLoaves 3 := ⟨hx, hb, hml, hown, hB, hE⟩
  have hS : va_S A s.heap s.heap [] := va_S.rf
  have hl : lv_has ls 3 [(0, .ref h0), (1, .int v1)] := hl
  have K24 : ∀ (v1 : Int32) (v2 : Int32) (s0 : q_S), ∀ (H : Heap) (locs : List Loc), va_P (q_D E) vwCl (q_cM E h0 a0 s0 g0) H → va_D A (q_cM E h0 a0 s0 g0) → va_S A s.heap H locs → ∀ ls : Array Slot, lv_has ls 3 [(0, .ref h0), (1, .int v1), (2, .int v2)] → zX4_readLoaves_24 s0 v1 v2 = some (r, rs0) → W p l e (q_rm 3) s m args below meth c H locs 0 0 (MQ below (q_muQ E A (q_cM E h0 a0 rs0 g0) (some (.int r))) args s 0 0 A) (F0 m 24 ls []) := by
    intro v1 v2 s0 H locs hP hD hS ls hl h
    unfold zX4_readLoaves_24 at h
    refine lv_aload_n hx hb dX4_readLoaves_24 rfl (lv_at hl 0 rfl) ?_
    refine lv_iload_n hx hb dX4_readLoaves_25 rfl (lv_at hl 2 rfl) ?_
    refine lv_iload_n hx hb dX4_readLoaves_26 rfl (lv_at hl 1 rfl) ?_
    refine lv_isub hx hb dX4_readLoaves_27 ?_
    refine lv_iconst (v := 2) hx hb dX4_readLoaves_28 (by decide) ?_
    refine lv_idiv hx hb dX4_readLoaves_29 (by decide) ?_
    obtain ⟨y1, ey1, h⟩ := q_ol h
    refine q_put F q_K4 hP hD hS 0 rfl 21 (by decide) q_fX4_87 rfl rfl rfl (Nat.le_of_ble_eq_true rfl) (by rw [ey1]; rfl) dX4_readLoaves_30 (fun H locs (hP : va_P (q_D E) vwCl (q_cM E h0 a0 y1 g0) H) hD hS => ?_)
    refine lv_aload_n hx hb dX4_readLoaves_33 rfl (lv_at hl 0 rfl) ?_
    refine lv_iload_n hx hb dX4_readLoaves_34 rfl (lv_at hl 2 rfl) ?_
    refine lv_aload_n hx hb dX4_readLoaves_35 rfl (lv_at hl 0 rfl) ?_
    refine q_get F q_K4 hP 0 rfl 17 (by decide) q_fX4_79 rfl dX4_readLoaves_36 ?_
    refine lv_icmp_ne (tgt := 61) hx hb dX4_readLoaves_39 (by decide) (fun c2 => ?_) (fun c2 => ?_)
    · replace h := q_i2 c2 h
      refine lv_iconst (v := 0) hx hb dX4_readLoaves_61 (by decide) ?_
      obtain ⟨y3, ey3, h⟩ := q_ol h
      refine q_put F q_K4 hP hD hS 0 rfl 19 (by decide) q_fX4_90 rfl rfl rfl (Nat.le_of_ble_eq_true rfl) (by rw [ey3]; rfl) dX4_readLoaves_62 (fun H locs (hP : va_P (q_D E) vwCl (q_cM E h0 a0 y3 g0) H) hD hS => ?_)
      refine lv_iload_n hx hb dX4_readLoaves_65 rfl (lv_at hl 2 rfl) ?_
      cases h
      exact q_wI F hr hlk dX4_readLoaves_66 hP hD hS
    · replace h := q_i1 c2 h
      refine lv_aload_n hx hb dX4_readLoaves_42 rfl (lv_at hl 0 rfl) ?_
      refine q_get F q_K4 hP 0 rfl 21 (by decide) q_fX4_87 rfl dX4_readLoaves_43 ?_
      refine lv_if_le (tgt := 61) hx hb dX4_readLoaves_46 (by decide) (fun c4 => ?_) (fun c4 => ?_)
      · replace h := q_i1 c4 h
        refine lv_iconst (v := 0) hx hb dX4_readLoaves_61 (by decide) ?_
        obtain ⟨y5, ey5, h⟩ := q_ol h
        refine q_put F q_K4 hP hD hS 0 rfl 19 (by decide) q_fX4_90 rfl rfl rfl (Nat.le_of_ble_eq_true rfl) (by rw [ey5]; rfl) dX4_readLoaves_62 (fun H locs (hP : va_P (q_D E) vwCl (q_cM E h0 a0 y5 g0) H) hD hS => ?_)
        refine lv_iload_n hx hb dX4_readLoaves_65 rfl (lv_at hl 2 rfl) ?_
        cases h
        exact q_wI F hr hlk dX4_readLoaves_66 hP hD hS
      · replace h := q_i2 c4 h
        refine lv_iload_n hx hb dX4_readLoaves_49 rfl (lv_at hl 2 rfl) ?_
        refine lv_iload_n hx hb dX4_readLoaves_50 rfl (lv_at hl 1 rfl) ?_
        refine lv_isub hx hb dX4_readLoaves_51 ?_
        refine lv_iconst (v := 2) hx hb dX4_readLoaves_52 (by decide) ?_
        refine lv_irem hx hb dX4_readLoaves_53 (by decide) ?_
        refine lv_if_ne (tgt := 61) hx hb dX4_readLoaves_54 (by decide) (fun c6 => ?_) (fun c6 => ?_)
        · replace h := q_i2 c6 h
          refine lv_iconst (v := 0) hx hb dX4_readLoaves_61 (by decide) ?_
          obtain ⟨y7, ey7, h⟩ := q_ol h
          refine q_put F q_K4 hP hD hS 0 rfl 19 (by decide) q_fX4_90 rfl rfl rfl (Nat.le_of_ble_eq_true rfl) (by rw [ey7]; rfl) dX4_readLoaves_62 (fun H locs (hP : va_P (q_D E) vwCl (q_cM E h0 a0 y7 g0) H) hD hS => ?_)
          refine lv_iload_n hx hb dX4_readLoaves_65 rfl (lv_at hl 2 rfl) ?_
          cases h
          exact q_wI F hr hlk dX4_readLoaves_66 hP hD hS
        · replace h := q_i1 c6 h
          refine lv_iconst (v := 1) hx hb dX4_readLoaves_57 (by decide) ?_
          refine lv_goto (tgt := 62) hx hb dX4_readLoaves_58 (by decide) ?_
          obtain ⟨y8, ey8, h⟩ := q_ol h
          refine q_put F q_K4 hP hD hS 0 rfl 19 (by decide) q_fX4_90 rfl rfl rfl (Nat.le_of_ble_eq_true rfl) (by rw [ey8]; rfl) dX4_readLoaves_62 (fun H locs (hP : va_P (q_D E) vwCl (q_cM E h0 a0 y8 g0) H) hD hS => ?_)
          refine lv_iload_n hx hb dX4_readLoaves_65 rfl (lv_at hl 2 rfl) ?_
          cases h
          exact q_wI F hr hlk dX4_readLoaves_66 hP hD hS
  have K2 : ∀ (n2_ : Nat), ∀ (v1 : Int32) (v2 : Int32) (s0 : q_S), ∀ (H : Heap) (locs : List Loc), va_P (q_D E) vwCl (q_cM E h0 a0 s0 g0) H → va_D A (q_cM E h0 a0 s0 g0) → va_S A s.heap H locs → ∀ ls : Array Slot, lv_has ls 3 [(0, .ref h0), (1, .int v1), (2, .int v2)] → zX4_readLoaves_2 s0 v1 n2_ v2 = some (r, rs0) → W p l e (q_rm 3) s m args below meth c H locs 0 0 (MQ below (q_muQ E A (q_cM E h0 a0 rs0 g0) (some (.int r))) args s 0 0 A) (F0 m 2 ls []) := by
    intro n2_
    induction n2_ with
    | zero => intro v1 v2 s0 H locs hP hD hS ls hl h; exact q_nn h
    | succ n2_ ih2 =>
      intro v1 v2 s0 H locs hP hD hS ls hl h
      rw [zX4_readLoaves_2_s] at h
      unfold jX4_readLoaves_2 at h
      refine lv_iload_n hx hb dX4_readLoaves_2 rfl (lv_at hl 2 rfl) ?_
      refine lv_iload_n hx hb dX4_readLoaves_3 rfl (lv_at hl 1 rfl) ?_
      refine lv_bipush (v := 10) hx hb dX4_readLoaves_4 (by decide) ?_
      refine lv_iadd hx hb dX4_readLoaves_6 ?_
      refine lv_icmp_ge (tgt := 24) hx hb dX4_readLoaves_7 (by decide) (fun c9 => ?_) (fun c9 => ?_)
      · replace h := q_i1 c9 h
        exact K24 v1 v2 s0 H _ hP hD hS ls (lv_sub hl [0, 1, 2] rfl) h
      · replace h := q_i2 c9 h
        refine lv_aload_n hx hb dX4_readLoaves_10 rfl (lv_at hl 0 rfl) ?_
        refine lv_iload_n hx hb dX4_readLoaves_11 rfl (lv_at hl 2 rfl) ?_
        obtain ⟨x10, c11, h⟩ := q_o1 h
        refine q_roV F (kX4_isFigure l E h0 a0 s0 g0 v2 x10 c11) q_cX4_isFigure q_lX4_83 (q_EV.go F.2.2.2.2.2 hAl hS) hP ⟨by decide, by decide⟩ (q0 := 0) rfl rfl rfl rfl ⟨_, hl⟩ (rest := []) rfl (Nat.le_of_ble_eq_true rfl) dX4_readLoaves_12 ?_
        refine lv_if_eq (tgt := 24) hx hb dX4_readLoaves_15 (by decide) (fun c12 => ?_) (fun c12 => ?_)
        · replace h := q_i1 c12 h
          exact K24 v1 v2 s0 H _ hP hD hS ls (lv_sub hl [0, 1, 2] rfl) h
        · replace h := q_i2 c12 h
          obtain ⟨x13, ex13, h⟩ := q_ol h
          refine lv_iinc (v := x13) (lv' := [(2, .int x13), (0, .ref h0), (1, .int v1)]) hx hb dX4_readLoaves_18 hl (k := 2) rfl (by rw [ex13]; rfl) (by decide) rfl (fun ls hl => ?_)
          refine lv_goto (tgt := 2) hx hb dX4_readLoaves_21 (by decide) ?_
          exact ih2 v1 x13 s0 H _ hP hD hS ls (lv_sub hl [1, 2, 0] rfl) h
  unfold zX4_readLoaves at h
  refine lv_iload_n hx hb dX4_readLoaves_0 rfl (lv_at hl 1 rfl) ?_
  refine lv_istore_n (lv' := [(2, .int v1), (0, .ref h0), (1, .int v1)]) hx hb dX4_readLoaves_1 rfl hl (by decide) rfl (fun ls hl => ?_)
  exact K2 70000 v1 v1 s0 _ _ hP hD hS ls (lv_sub hl [1, 2, 0] rfl) h
def zX4_read_105 (k12 : q_S → Int32 → Option (Int32 × q_S)) (s0 : q_S) (v1 : Int32) : Option (Int32 × q_S) := if v1 = (s0 17 0) then (some (v1, s0)) else (if (s0 20 0) = (4 : Int32) then (some (v1, s0)) else (q_gd (q_ib v1 24) (if (s0 18 v1.toNatClampNeg) = (44 : Int32) then (q_lt (v1 + 1) fun x5 => k12 s0 x5) else (some (v1, s0)))))
def jX4_read_12 (k12 : q_S → Int32 → Option (Int32 × q_S)) (s0 : q_S) (v1 : Int32) : Option (Int32 × q_S) := if (4 : Int32) ≤ (s0 20 0) then (some (v1, s0)) else (if v1 = (s0 17 0) then (some (v1, s0)) else (q_gd (q_ib v1 24) (q_b1 (zX4_kindBy (s0 18 v1.toNatClampNeg)) fun x9 => if x9 = (-1 : Int32) then (some (v1, s0)) else (q_b1 (zX4_isFigure s0 (v1 + (1 : Int32))) fun x12 => if x12 = 0 then (some ((v1 + (1 : Int32)), s0)) else (q_lt (q_u s0 20 0 ((s0 20 0) + (1 : Int32))) fun y15 => q_lt (v1 + 2) fun x16 => if (y15 17 0) ≤ x16 then (zX4_read_105 k12 y15 x16) else (q_gd (q_ib x16 24) (if (y15 18 x16.toNatClampNeg) = (59 : Int32) then (if (y15 20 0) ≤ (1 : Int32) then (zX4_read_105 k12 y15 x16) else (q_b2 (zX4_readLoaves y15 (x16 + (1 : Int32))) fun x21 y22 => some (x21, y22))) else (zX4_read_105 k12 y15 x16))))))))
def zX4_read_12  : Nat → q_S → Int32 → Option (Int32 × q_S)
  | 0, _, _ => none
  | n + 1, s0, v1 => jX4_read_12  (zX4_read_12  n) s0 v1
theorem zX4_read_12_s  (n : Nat) (s0 : q_S) (v1 : Int32) : zX4_read_12  (n + 1) s0 v1 = jX4_read_12  (zX4_read_12  n) s0 v1 := rfl
def zX4_read (s0 : q_S) : Option (Int32 × q_S) := q_lt (q_u s0 19 0 (0 : Int32)) fun y24 => q_lt (q_u y24 20 0 (0 : Int32)) fun y25 => zX4_read_12  70000 y25 (0 : Int32)
set_option maxHeartbeats 4000000 in
set_option maxRecDepth 100000 in
theorem kX4_read (l : Launch) (E : q_E) (h0 : Nat) (a0 : Nat → Nat) (s0 : q_S) (g0 : q_G)  (sz : Nat) (r : Int32) (rs0 : q_S) (h : zX4_read s0 = some (r, rs0)) : q_MU l E yX4_read cX4_read 2 (some .int) 4 [.ref h0] sz (q_cM E h0 a0 s0 g0) (q_cM E h0 a0 rs0 g0) (some (.int r)) := by
  refine q_MU.intro (by decide) (Nat.le_of_ble_eq_true rfl) ?_
  intro p e s m args below meth c A X hP hD hA hAl ls hl
  obtain ⟨hx, hb, hml, hr, hlk, hown, hB, hE⟩ := X
  have hown : s.vm.findClass RX4 = some m.cls := hown
  have F : q_Fx p s m c E RX4 cX4_read 2 := ⟨hx, hb, hml, hown, hB, hE⟩
  have hS : va_S A s.heap s.heap [] := va_S.rf
  have hl : lv_has ls 2 [(0, .ref h0)] := hl
  have K12 : ∀ (n12_ : Nat), ∀ (v1 : Int32) (s0 : q_S), ∀ (H : Heap) (locs : List Loc), va_P (q_D E) vwCl (q_cM E h0 a0 s0 g0) H → va_D A (q_cM E h0 a0 s0 g0) → va_S A s.heap H locs → ∀ ls : Array Slot, lv_has ls 2 [(0, .ref h0), (1, .int v1)] → zX4_read_12  n12_ s0 v1 = some (r, rs0) → W p l e (q_rm 4) s m args below meth c H locs 0 0 (MQ below (q_muQ E A (q_cM E h0 a0 rs0 g0) (some (.int r))) args s 0 0 A) (F0 m 12 ls []) := by
    intro n12_
    induction n12_ with
    | zero => intro v1 s0 H locs hP hD hS ls hl h; exact q_nn h
    | succ n12_ ih12 =>
      have K105 : ∀ (v1 : Int32) (s0 : q_S), ∀ (H : Heap) (locs : List Loc), va_P (q_D E) vwCl (q_cM E h0 a0 s0 g0) H → va_D A (q_cM E h0 a0 s0 g0) → va_S A s.heap H locs → ∀ ls : Array Slot, lv_has ls 2 [(0, .ref h0), (1, .int v1)] → zX4_read_105 (zX4_read_12 n12_) s0 v1 = some (r, rs0) → W p l e (q_rm 4) s m args below meth c H locs 0 0 (MQ below (q_muQ E A (q_cM E h0 a0 rs0 g0) (some (.int r))) args s 0 0 A) (F0 m 105 ls []) := by
        intro v1 s0 H locs hP hD hS ls hl h
        unfold zX4_read_105 at h
        refine lv_iload_n hx hb dX4_read_105 rfl (lv_at hl 1 rfl) ?_
        refine lv_aload_n hx hb dX4_read_106 rfl (lv_at hl 0 rfl) ?_
        refine q_get F q_K4 hP 0 rfl 17 (by decide) q_fX4_79 rfl dX4_read_107 ?_
        refine lv_icmp_eq (tgt := 132) hx hb dX4_read_110 (by decide) (fun c1 => ?_) (fun c1 => ?_)
        · replace h := q_i1 c1 h
          refine lv_iload_n hx hb dX4_read_132 rfl (lv_at hl 1 rfl) ?_
          cases h
          exact q_wI F hr hlk dX4_read_133 hP hD hS
        · replace h := q_i2 c1 h
          refine lv_aload_n hx hb dX4_read_113 rfl (lv_at hl 0 rfl) ?_
          refine q_get F q_K4 hP 0 rfl 20 (by decide) q_fX4_94 rfl dX4_read_114 ?_
          refine lv_iconst (v := 4) hx hb dX4_read_117 (by decide) ?_
          refine lv_icmp_eq (tgt := 132) hx hb dX4_read_118 (by decide) (fun c2 => ?_) (fun c2 => ?_)
          · replace h := q_i1 c2 h
            refine lv_iload_n hx hb dX4_read_132 rfl (lv_at hl 1 rfl) ?_
            cases h
            exact q_wI F hr hlk dX4_read_133 hP hD hS
          · replace h := q_i2 c2 h
            refine lv_aload_n hx hb dX4_read_121 rfl (lv_at hl 0 rfl) ?_
            refine q_get F q_K4 hP 0 rfl 18 (by decide) q_fX4_41 rfl dX4_read_122 ?_
            refine lv_iload_n hx hb dX4_read_125 rfl (lv_at hl 1 rfl) ?_
            obtain ⟨eg3, h⟩ := q_og h
            refine q_bald F hP 11 rfl eg3 dX4_read_126 ?_
            refine lv_bipush (v := 44) hx hb dX4_read_127 (by decide) ?_
            refine lv_icmp_eq (tgt := 134) hx hb dX4_read_129 (by decide) (fun c4 => ?_) (fun c4 => ?_)
            · replace h := q_i1 c4 h
              obtain ⟨x5, ex5, h⟩ := q_ol h
              refine lv_iinc (v := x5) (lv' := [(1, .int x5), (0, .ref h0)]) hx hb dX4_read_134 hl (k := 1) rfl (by rw [ex5]; rfl) (by decide) rfl (fun ls hl => ?_)
              refine lv_goto (tgt := 12) hx hb dX4_read_137 (by decide) ?_
              exact ih12 x5 s0 H _ hP hD hS ls (lv_sub hl [1, 0] rfl) h
            · replace h := q_i2 c4 h
              refine lv_iload_n hx hb dX4_read_132 rfl (lv_at hl 1 rfl) ?_
              cases h
              exact q_wI F hr hlk dX4_read_133 hP hD hS
      intro v1 s0 H locs hP hD hS ls hl h
      rw [zX4_read_12_s] at h
      unfold jX4_read_12 at h
      refine lv_aload_n hx hb dX4_read_12 rfl (lv_at hl 0 rfl) ?_
      refine q_get F q_K4 hP 0 rfl 20 (by decide) q_fX4_94 rfl dX4_read_13 ?_
      refine lv_iconst (v := 4) hx hb dX4_read_16 (by decide) ?_
      refine lv_icmp_ge (tgt := 140) hx hb dX4_read_17 (by decide) (fun c6 => ?_) (fun c6 => ?_)
      · replace h := q_i1 c6 h
        refine lv_iload_n hx hb dX4_read_140 rfl (lv_at hl 1 rfl) ?_
        cases h
        exact q_wI F hr hlk dX4_read_141 hP hD hS
      · replace h := q_i2 c6 h
        refine lv_iload_n hx hb dX4_read_20 rfl (lv_at hl 1 rfl) ?_
        refine lv_aload_n hx hb dX4_read_21 rfl (lv_at hl 0 rfl) ?_
        refine q_get F q_K4 hP 0 rfl 17 (by decide) q_fX4_79 rfl dX4_read_22 ?_
        refine lv_icmp_eq (tgt := 41) hx hb dX4_read_25 (by decide) (fun c7 => ?_) (fun c7 => ?_)
        · replace h := q_i1 c7 h
          refine lv_iload_n hx hb dX4_read_41 rfl (lv_at hl 1 rfl) ?_
          cases h
          exact q_wI F hr hlk dX4_read_42 hP hD hS
        · replace h := q_i2 c7 h
          refine lv_aload_n hx hb dX4_read_28 rfl (lv_at hl 0 rfl) ?_
          refine q_get F q_K4 hP 0 rfl 18 (by decide) q_fX4_41 rfl dX4_read_29 ?_
          refine lv_iload_n hx hb dX4_read_32 rfl (lv_at hl 1 rfl) ?_
          obtain ⟨eg8, h⟩ := q_og h
          refine q_bald F hP 11 rfl eg8 dX4_read_33 ?_
          obtain ⟨x9, c10, h⟩ := q_o1 h
          refine q_roS F (kX4_kindBy l E  (s0 18 v1.toNatClampNeg) x9 c10) q_cX4_kindBy q_lX4_97 (q_EV.go F.2.2.2.2.2 hAl hS) (fun k q h => by simp at h) ⟨by decide, by decide⟩ rfl ⟨_, hl⟩ (rest := []) rfl (Nat.le_of_ble_eq_true rfl) dX4_read_34 ?_
          refine lv_iconst (v := (-1)) hx hb dX4_read_37 (by decide) ?_
          refine lv_icmp_ne (tgt := 43) hx hb dX4_read_38 (by decide) (fun c11 => ?_) (fun c11 => ?_)
          · replace h := q_i2 c11 h
            refine lv_aload_n hx hb dX4_read_43 rfl (lv_at hl 0 rfl) ?_
            refine lv_iload_n hx hb dX4_read_44 rfl (lv_at hl 1 rfl) ?_
            refine lv_iconst (v := 1) hx hb dX4_read_45 (by decide) ?_
            refine lv_iadd hx hb dX4_read_46 ?_
            obtain ⟨x12, c13, h⟩ := q_o1 h
            refine q_roV F (kX4_isFigure l E h0 a0 s0 g0 (v1 + (1 : Int32)) x12 c13) q_cX4_isFigure q_lX4_83 (q_EV.go F.2.2.2.2.2 hAl hS) hP ⟨by decide, by decide⟩ (q0 := 0) rfl rfl rfl rfl ⟨_, hl⟩ (rest := []) rfl (Nat.le_of_ble_eq_true rfl) dX4_read_47 ?_
            refine lv_if_ne (tgt := 57) hx hb dX4_read_50 (by decide) (fun c14 => ?_) (fun c14 => ?_)
            · replace h := q_i2 c14 h
              refine lv_aload_n hx hb dX4_read_57 rfl (lv_at hl 0 rfl) ?_
              refine lv_dup hx hb dX4_read_58 rfl ?_
              refine q_get F q_K4 hP 0 rfl 20 (by decide) q_fX4_94 rfl dX4_read_59 ?_
              refine lv_iconst (v := 1) hx hb dX4_read_62 (by decide) ?_
              refine lv_iadd hx hb dX4_read_63 ?_
              obtain ⟨y15, ey15, h⟩ := q_ol h
              refine q_put F q_K4 hP hD hS 0 rfl 20 (by decide) q_fX4_94 rfl rfl rfl (Nat.le_of_ble_eq_true rfl) (by rw [ey15]; rfl) dX4_read_64 (fun H locs (hP : va_P (q_D E) vwCl (q_cM E h0 a0 y15 g0) H) hD hS => ?_)
              obtain ⟨x16, ex16, h⟩ := q_ol h
              refine lv_iinc (v := x16) (lv' := [(1, .int x16), (0, .ref h0)]) hx hb dX4_read_67 hl (k := 1) rfl (by rw [ex16]; rfl) (by decide) rfl (fun ls hl => ?_)
              refine lv_iload_n hx hb dX4_read_70 rfl (lv_at hl 0 rfl) ?_
              refine lv_aload_n hx hb dX4_read_71 rfl (lv_at hl 1 rfl) ?_
              refine q_get F q_K4 hP 0 rfl 17 (by decide) q_fX4_79 rfl dX4_read_72 ?_
              refine lv_icmp_ge (tgt := 105) hx hb dX4_read_75 (by decide) (fun c17 => ?_) (fun c17 => ?_)
              · replace h := q_i1 c17 h
                exact K105 x16 y15 H _ hP hD hS ls (lv_sub hl [1, 0] rfl) h
              · replace h := q_i2 c17 h
                refine lv_aload_n hx hb dX4_read_78 rfl (lv_at hl 1 rfl) ?_
                refine q_get F q_K4 hP 0 rfl 18 (by decide) q_fX4_41 rfl dX4_read_79 ?_
                refine lv_iload_n hx hb dX4_read_82 rfl (lv_at hl 0 rfl) ?_
                obtain ⟨eg18, h⟩ := q_og h
                refine q_bald F hP 11 rfl eg18 dX4_read_83 ?_
                refine lv_bipush (v := 59) hx hb dX4_read_84 (by decide) ?_
                refine lv_icmp_ne (tgt := 105) hx hb dX4_read_86 (by decide) (fun c19 => ?_) (fun c19 => ?_)
                · replace h := q_i2 c19 h
                  exact K105 x16 y15 H _ hP hD hS ls (lv_sub hl [1, 0] rfl) h
                · replace h := q_i1 c19 h
                  refine lv_aload_n hx hb dX4_read_89 rfl (lv_at hl 1 rfl) ?_
                  refine q_get F q_K4 hP 0 rfl 20 (by decide) q_fX4_94 rfl dX4_read_90 ?_
                  refine lv_iconst (v := 1) hx hb dX4_read_93 (by decide) ?_
                  refine lv_icmp_le (tgt := 105) hx hb dX4_read_94 (by decide) (fun c20 => ?_) (fun c20 => ?_)
                  · replace h := q_i1 c20 h
                    exact K105 x16 y15 H _ hP hD hS ls (lv_sub hl [1, 0] rfl) h
                  · replace h := q_i2 c20 h
                    refine lv_aload_n hx hb dX4_read_97 rfl (lv_at hl 1 rfl) ?_
                    refine lv_iload_n hx hb dX4_read_98 rfl (lv_at hl 0 rfl) ?_
                    refine lv_iconst (v := 1) hx hb dX4_read_99 (by decide) ?_
                    refine lv_iadd hx hb dX4_read_100 ?_
                    obtain ⟨x21, y22, c23, h⟩ := q_o2 h
                    refine q_muV F (kX4_readLoaves l E h0 a0 y15 g0 (x16 + (1 : Int32)) H.size x21 y22 c23) q_cX4_readLoaves q_lX4_101 (q_s_M_M_0w E h0 a0 y15 g0 y22 g0) hP hD hS hA hAl ⟨by decide, by decide⟩ (q0 := 0) rfl rfl rfl rfl ⟨_, hl⟩ (rest := []) rfl (Nat.le_of_ble_eq_true rfl) dX4_read_101 (fun H locs (hP : va_P (q_D E) vwCl (q_cM E h0 a0 y22 g0) H) hD hS => ?_)
                    cases h
                    exact q_wI F hr hlk dX4_read_104 hP hD hS
            · replace h := q_i1 c14 h
              refine lv_iload_n hx hb dX4_read_53 rfl (lv_at hl 1 rfl) ?_
              refine lv_iconst (v := 1) hx hb dX4_read_54 (by decide) ?_
              refine lv_iadd hx hb dX4_read_55 ?_
              cases h
              exact q_wI F hr hlk dX4_read_56 hP hD hS
          · replace h := q_i1 c11 h
            refine lv_iload_n hx hb dX4_read_41 rfl (lv_at hl 1 rfl) ?_
            cases h
            exact q_wI F hr hlk dX4_read_42 hP hD hS
  unfold zX4_read at h
  refine lv_aload_n hx hb dX4_read_0 rfl (lv_at hl 0 rfl) ?_
  refine lv_iconst (v := 0) hx hb dX4_read_1 (by decide) ?_
  obtain ⟨y24, ey24, h⟩ := q_ol h
  refine q_put F q_K4 hP hD hS 0 rfl 19 (by decide) q_fX4_90 rfl rfl rfl (Nat.le_of_ble_eq_true rfl) (by rw [ey24]; rfl) dX4_read_2 (fun H locs (hP : va_P (q_D E) vwCl (q_cM E h0 a0 y24 g0) H) hD hS => ?_)
  refine lv_aload_n hx hb dX4_read_5 rfl (lv_at hl 0 rfl) ?_
  refine lv_iconst (v := 0) hx hb dX4_read_6 (by decide) ?_
  obtain ⟨y25, ey25, h⟩ := q_ol h
  refine q_put F q_K4 hP hD hS 0 rfl 20 (by decide) q_fX4_94 rfl rfl rfl (Nat.le_of_ble_eq_true rfl) (by rw [ey25]; rfl) dX4_read_7 (fun H locs (hP : va_P (q_D E) vwCl (q_cM E h0 a0 y25 g0) H) hD hS => ?_)
  refine lv_iconst (v := 0) hx hb dX4_read_10 (by decide) ?_
  refine lv_istore_n (lv' := [(1, .int (0 : Int32)), (0, .ref h0)]) hx hb dX4_read_11 rfl hl (by decide) rfl (fun ls hl => ?_)
  exact K12 70000 (0 : Int32) y25 H _ hP hD hS ls (lv_sub hl [1, 0] rfl) h
def zX4_fault (s0 : q_S) : Option (Int32 × q_S) := q_b2 (zX4_read s0) fun x1 y2 => some (x1, y2)
set_option maxHeartbeats 4000000 in
set_option maxRecDepth 100000 in
theorem kX4_fault (l : Launch) (E : q_E) (h0 : Nat) (a0 : Nat → Nat) (s0 : q_S) (g0 : q_G)  (sz : Nat) (r : Int32) (rs0 : q_S) (h : zX4_fault s0 = some (r, rs0)) : q_MU l E yX4_fault cX4_fault 1 (some .int) 5 [.ref h0] sz (q_cM E h0 a0 s0 g0) (q_cM E h0 a0 rs0 g0) (some (.int r)) := by
  refine q_MU.intro (by decide) (Nat.le_of_ble_eq_true rfl) ?_
  intro p e s m args below meth c A X hP hD hA hAl ls hl
  obtain ⟨hx, hb, hml, hr, hlk, hown, hB, hE⟩ := X
  have hown : s.vm.findClass RX4 = some m.cls := hown
  have F : q_Fx p s m c E RX4 cX4_fault 1 := ⟨hx, hb, hml, hown, hB, hE⟩
  have hS : va_S A s.heap s.heap [] := va_S.rf
  have hl : lv_has ls 1 [(0, .ref h0)] := hl
  unfold zX4_fault at h
  refine lv_aload_n hx hb dX4_fault_0 rfl (lv_at hl 0 rfl) ?_
  obtain ⟨x1, y2, c3, h⟩ := q_o2 h
  refine q_muV F (kX4_read l E h0 a0 s0 g0 s.heap.size x1 y2 c3) q_cX4_read q_lX4_104 (q_s_M_M_0w E h0 a0 s0 g0 y2 g0) hP hD hS hA hAl ⟨by decide, by decide⟩ (q0 := 0) rfl rfl rfl rfl ⟨_, hl⟩ (rest := []) rfl (Nat.le_of_ble_eq_true rfl) dX4_fault_1 (fun H locs (hP : va_P (q_D E) vwCl (q_cM E h0 a0 y2 g0) H) hD hS => ?_)
  cases h
  exact q_wI F hr hlk dX4_fault_4 hP hD hS
def jX4_valley_106 (v1 : Int32) (k106 : q_S → Int32 → Option (Int32 × q_S)) (s0 : q_S) (v2 : Int32) : Option (Int32 × q_S) := if (s0 7 0) ≤ v2 then (q_lt (q_u s0 0 0 ((s0 0 0) + (1 : Int32))) fun y2 => q_lt (q_u y2 10 0 (0 : Int32)) fun y3 => q_lt (q_u y3 11 0 (0 : Int32)) fun y4 => q_lt (q_u y4 12 0 (0 : Int32)) fun y5 => q_lt (q_u y5 17 0 (0 : Int32)) fun y6 => some ((y6 7 0), y6)) else (q_gd (q_ib (v1 - ((2 : Int32) * ((s0 7 0) - v2))) 24) (q_gd (q_ib v2 8) (q_lt (q_u s0 8 v2.toNatClampNeg ((s0 18 (v1 - ((2 : Int32) * ((s0 7 0) - v2))).toNatClampNeg) - (48 : Int32))) fun y9 => q_gd (q_ib ((v1 - ((2 : Int32) * ((y9 7 0) - v2))) + (1 : Int32)) 24) (q_gd (q_ib v2 8) (q_lt (q_u y9 9 v2.toNatClampNeg ((y9 18 ((v1 - ((2 : Int32) * ((y9 7 0) - v2))) + (1 : Int32)).toNatClampNeg) - (48 : Int32))) fun y12 => q_lt (v2 + 1) fun x13 => k106 y12 x13)))))
def zX4_valley_106 (v1 : Int32) : Nat → q_S → Int32 → Option (Int32 × q_S)
  | 0, _, _ => none
  | n + 1, s0, v2 => jX4_valley_106 v1 (zX4_valley_106 v1 n) s0 v2
theorem zX4_valley_106_s (v1 : Int32) (n : Nat) (s0 : q_S) (v2 : Int32) : zX4_valley_106 v1 (n + 1) s0 v2 = jX4_valley_106 v1 (zX4_valley_106 v1 n) s0 v2 := rfl
def jX4_valley_33 (v1 : Int32) (k33 : q_S → Int32 → Option (Int32 × q_S)) (s0 : q_S) (v2 : Int32) : Option (Int32 × q_S) := if (s0 1 0) ≤ v2 then (zX4_valley_106 v1 70000 s0 (0 : Int32)) else (q_gd (q_ib ((3 : Int32) * v2) 24) (q_b1 (zX4_kindBy (s0 18 ((3 : Int32) * v2).toNatClampNeg)) fun x16 => q_gd (q_ib v2 4) (q_lt (q_u s0 2 v2.toNatClampNeg x16) fun y19 => q_gd (q_ib (((3 : Int32) * v2) + (1 : Int32)) 24) (q_gd (q_ib v2 4) (q_lt (q_u y19 3 v2.toNatClampNeg ((y19 18 (((3 : Int32) * v2) + (1 : Int32)).toNatClampNeg) - (48 : Int32))) fun y22 => q_gd (q_ib v2 4) (q_lt (q_u y22 4 v2.toNatClampNeg (vp_nar .boolean (1 : Int32))) fun y24 => q_gd (q_ib v2 4) (q_lt (q_u y24 5 v2.toNatClampNeg (0 : Int32)) fun y26 => q_gd (q_ib v2 4) (q_lt (q_u y26 6 v2.toNatClampNeg (0 : Int32)) fun y28 => q_lt (v2 + 1) fun x29 => k33 y28 x29))))))))
def zX4_valley_33 (v1 : Int32) : Nat → q_S → Int32 → Option (Int32 × q_S)
  | 0, _, _ => none
  | n + 1, s0, v2 => jX4_valley_33 v1 (zX4_valley_33 v1 n) s0 v2
theorem zX4_valley_33_s (v1 : Int32) (n : Nat) (s0 : q_S) (v2 : Int32) : zX4_valley_33 v1 (n + 1) s0 v2 = jX4_valley_33 v1 (zX4_valley_33 v1 n) s0 v2 := rfl
def zX4_valley (s0 : q_S) : Option (Int32 × q_S) := q_b2 (zX4_read s0) fun x30 y31 => if (y31 19 0) = 0 then (some ((-103 : Int32), y31)) else (q_lt (q_u y31 1 0 (y31 20 0)) fun y34 => q_lt (q_u y34 7 0 (y34 21 0)) fun y35 => zX4_valley_33 x30 70000 y35 (0 : Int32))
set_option maxHeartbeats 4000000 in
set_option maxRecDepth 100000 in
theorem kX4_valley (l : Launch) (E : q_E) (h0 : Nat) (a0 : Nat → Nat) (s0 : q_S) (g0 : q_G)  (sz : Nat) (r : Int32) (rs0 : q_S) (h : zX4_valley s0 = some (r, rs0)) : q_MU l E yX4_valley cX4_valley 3 (some .int) 5 [.ref h0] sz (q_cM E h0 a0 s0 g0) (q_cM E h0 a0 rs0 g0) (some (.int r)) := by
  refine q_MU.intro (by decide) (Nat.le_of_ble_eq_true rfl) ?_
  intro p e s m args below meth c A X hP hD hA hAl ls hl
  obtain ⟨hx, hb, hml, hr, hlk, hown, hB, hE⟩ := X
  have hown : s.vm.findClass RX4 = some m.cls := hown
  have F : q_Fx p s m c E RX4 cX4_valley 3 := ⟨hx, hb, hml, hown, hB, hE⟩
  have hS : va_S A s.heap s.heap [] := va_S.rf
  have hl : lv_has ls 3 [(0, .ref h0)] := hl
  have K106 : ∀ (n106_ : Nat), ∀ (v1 : Int32) (v2 : Int32) (s0 : q_S), ∀ (H : Heap) (locs : List Loc), va_P (q_D E) vwCl (q_cM E h0 a0 s0 g0) H → va_D A (q_cM E h0 a0 s0 g0) → va_S A s.heap H locs → ∀ ls : Array Slot, lv_has ls 3 [(0, .ref h0), (1, .int v1), (2, .int v2)] → zX4_valley_106 v1 n106_ s0 v2 = some (r, rs0) → W p l e (q_rm 5) s m args below meth c H locs 0 0 (MQ below (q_muQ E A (q_cM E h0 a0 rs0 g0) (some (.int r))) args s 0 0 A) (F0 m 106 ls []) := by
    intro n106_
    induction n106_ with
    | zero => intro v1 v2 s0 H locs hP hD hS ls hl h; exact q_nn h
    | succ n106_ ih106 =>
      intro v1 v2 s0 H locs hP hD hS ls hl h
      rw [zX4_valley_106_s] at h
      unfold jX4_valley_106 at h
      refine lv_iload_n hx hb dX4_valley_106 rfl (lv_at hl 2 rfl) ?_
      refine lv_aload_n hx hb dX4_valley_107 rfl (lv_at hl 0 rfl) ?_
      refine q_get F q_K4 hP 0 rfl 7 (by decide) q_fX4_111 rfl dX4_valley_108 ?_
      refine lv_icmp_ge (tgt := 170) hx hb dX4_valley_111 (by decide) (fun c1 => ?_) (fun c1 => ?_)
      · replace h := q_i1 c1 h
        refine lv_aload_n hx hb dX4_valley_170 rfl (lv_at hl 0 rfl) ?_
        refine lv_dup hx hb dX4_valley_171 rfl ?_
        refine q_get F q_K4 hP 0 rfl 0 (by decide) q_fX4_114 rfl dX4_valley_172 ?_
        refine lv_iconst (v := 1) hx hb dX4_valley_175 (by decide) ?_
        refine lv_iadd hx hb dX4_valley_176 ?_
        obtain ⟨y2, ey2, h⟩ := q_ol h
        refine q_put F q_K4 hP hD hS 0 rfl 0 (by decide) q_fX4_114 rfl rfl rfl (Nat.le_of_ble_eq_true rfl) (by rw [ey2]; rfl) dX4_valley_177 (fun H locs (hP : va_P (q_D E) vwCl (q_cM E h0 a0 y2 g0) H) hD hS => ?_)
        refine lv_aload_n hx hb dX4_valley_180 rfl (lv_at hl 0 rfl) ?_
        refine lv_iconst (v := 0) hx hb dX4_valley_181 (by decide) ?_
        obtain ⟨y3, ey3, h⟩ := q_ol h
        refine q_put F q_K4 hP hD hS 0 rfl 10 (by decide) q_fX4_117 rfl rfl rfl (Nat.le_of_ble_eq_true rfl) (by rw [ey3]; rfl) dX4_valley_182 (fun H locs (hP : va_P (q_D E) vwCl (q_cM E h0 a0 y3 g0) H) hD hS => ?_)
        refine lv_aload_n hx hb dX4_valley_185 rfl (lv_at hl 0 rfl) ?_
        refine lv_iconst (v := 0) hx hb dX4_valley_186 (by decide) ?_
        obtain ⟨y4, ey4, h⟩ := q_ol h
        refine q_put F q_K4 hP hD hS 0 rfl 11 (by decide) q_fX4_120 rfl rfl rfl (Nat.le_of_ble_eq_true rfl) (by rw [ey4]; rfl) dX4_valley_187 (fun H locs (hP : va_P (q_D E) vwCl (q_cM E h0 a0 y4 g0) H) hD hS => ?_)
        refine lv_aload_n hx hb dX4_valley_190 rfl (lv_at hl 0 rfl) ?_
        refine lv_iconst (v := 0) hx hb dX4_valley_191 (by decide) ?_
        obtain ⟨y5, ey5, h⟩ := q_ol h
        refine q_put F q_K4 hP hD hS 0 rfl 12 (by decide) q_fX4_123 rfl rfl rfl (Nat.le_of_ble_eq_true rfl) (by rw [ey5]; rfl) dX4_valley_192 (fun H locs (hP : va_P (q_D E) vwCl (q_cM E h0 a0 y5 g0) H) hD hS => ?_)
        refine lv_aload_n hx hb dX4_valley_195 rfl (lv_at hl 0 rfl) ?_
        refine lv_iconst (v := 0) hx hb dX4_valley_196 (by decide) ?_
        obtain ⟨y6, ey6, h⟩ := q_ol h
        refine q_put F q_K4 hP hD hS 0 rfl 17 (by decide) q_fX4_79 rfl rfl rfl (Nat.le_of_ble_eq_true rfl) (by rw [ey6]; rfl) dX4_valley_197 (fun H locs (hP : va_P (q_D E) vwCl (q_cM E h0 a0 y6 g0) H) hD hS => ?_)
        refine lv_aload_n hx hb dX4_valley_200 rfl (lv_at hl 0 rfl) ?_
        refine q_get F q_K4 hP 0 rfl 7 (by decide) q_fX4_111 rfl dX4_valley_201 ?_
        cases h
        exact q_wI F hr hlk dX4_valley_204 hP hD hS
      · replace h := q_i2 c1 h
        refine lv_aload_n hx hb dX4_valley_114 rfl (lv_at hl 0 rfl) ?_
        refine q_get F q_K4 hP 0 rfl 8 (by decide) q_fX4_26 rfl dX4_valley_115 ?_
        refine lv_iload_n hx hb dX4_valley_118 rfl (lv_at hl 2 rfl) ?_
        refine lv_aload_n hx hb dX4_valley_119 rfl (lv_at hl 0 rfl) ?_
        refine q_get F q_K4 hP 0 rfl 18 (by decide) q_fX4_41 rfl dX4_valley_120 ?_
        refine lv_iload_n hx hb dX4_valley_123 rfl (lv_at hl 1 rfl) ?_
        refine lv_iconst (v := 2) hx hb dX4_valley_124 (by decide) ?_
        refine lv_aload_n hx hb dX4_valley_125 rfl (lv_at hl 0 rfl) ?_
        refine q_get F q_K4 hP 0 rfl 7 (by decide) q_fX4_111 rfl dX4_valley_126 ?_
        refine lv_iload_n hx hb dX4_valley_129 rfl (lv_at hl 2 rfl) ?_
        refine lv_isub hx hb dX4_valley_130 ?_
        refine lv_imul hx hb dX4_valley_131 ?_
        refine lv_isub hx hb dX4_valley_132 ?_
        obtain ⟨eg7, h⟩ := q_og h
        refine q_bald F hP 11 rfl eg7 dX4_valley_133 ?_
        refine lv_bipush (v := 48) hx hb dX4_valley_134 (by decide) ?_
        refine lv_isub hx hb dX4_valley_136 ?_
        obtain ⟨eg8, h⟩ := q_og h
        obtain ⟨y9, ey9, h⟩ := q_ol h
        refine q_iast F hP hD hS 6 rfl eg8 (by rw [ey9]; rfl) dX4_valley_137 (fun H locs (hP : va_P (q_D E) vwCl (q_cM E h0 a0 y9 g0) H) hD hS => ?_)
        refine lv_aload_n hx hb dX4_valley_138 rfl (lv_at hl 0 rfl) ?_
        refine q_get F q_K4 hP 0 rfl 9 (by decide) q_fX4_29 rfl dX4_valley_139 ?_
        refine lv_iload_n hx hb dX4_valley_142 rfl (lv_at hl 2 rfl) ?_
        refine lv_aload_n hx hb dX4_valley_143 rfl (lv_at hl 0 rfl) ?_
        refine q_get F q_K4 hP 0 rfl 18 (by decide) q_fX4_41 rfl dX4_valley_144 ?_
        refine lv_iload_n hx hb dX4_valley_147 rfl (lv_at hl 1 rfl) ?_
        refine lv_iconst (v := 2) hx hb dX4_valley_148 (by decide) ?_
        refine lv_aload_n hx hb dX4_valley_149 rfl (lv_at hl 0 rfl) ?_
        refine q_get F q_K4 hP 0 rfl 7 (by decide) q_fX4_111 rfl dX4_valley_150 ?_
        refine lv_iload_n hx hb dX4_valley_153 rfl (lv_at hl 2 rfl) ?_
        refine lv_isub hx hb dX4_valley_154 ?_
        refine lv_imul hx hb dX4_valley_155 ?_
        refine lv_isub hx hb dX4_valley_156 ?_
        refine lv_iconst (v := 1) hx hb dX4_valley_157 (by decide) ?_
        refine lv_iadd hx hb dX4_valley_158 ?_
        obtain ⟨eg10, h⟩ := q_og h
        refine q_bald F hP 11 rfl eg10 dX4_valley_159 ?_
        refine lv_bipush (v := 48) hx hb dX4_valley_160 (by decide) ?_
        refine lv_isub hx hb dX4_valley_162 ?_
        obtain ⟨eg11, h⟩ := q_og h
        obtain ⟨y12, ey12, h⟩ := q_ol h
        refine q_iast F hP hD hS 7 rfl eg11 (by rw [ey12]; rfl) dX4_valley_163 (fun H locs (hP : va_P (q_D E) vwCl (q_cM E h0 a0 y12 g0) H) hD hS => ?_)
        obtain ⟨x13, ex13, h⟩ := q_ol h
        refine lv_iinc (v := x13) (lv' := [(2, .int x13), (0, .ref h0), (1, .int v1)]) hx hb dX4_valley_164 hl (k := 2) rfl (by rw [ex13]; rfl) (by decide) rfl (fun ls hl => ?_)
        refine lv_goto (tgt := 106) hx hb dX4_valley_167 (by decide) ?_
        exact ih106 v1 x13 y12 H _ hP hD hS ls (lv_sub hl [1, 2, 0] rfl) h
  have K33 : ∀ (n33_ : Nat), ∀ (v1 : Int32) (v2 : Int32) (s0 : q_S), ∀ (H : Heap) (locs : List Loc), va_P (q_D E) vwCl (q_cM E h0 a0 s0 g0) H → va_D A (q_cM E h0 a0 s0 g0) → va_S A s.heap H locs → ∀ ls : Array Slot, lv_has ls 3 [(0, .ref h0), (1, .int v1), (2, .int v2)] → zX4_valley_33 v1 n33_ s0 v2 = some (r, rs0) → W p l e (q_rm 5) s m args below meth c H locs 0 0 (MQ below (q_muQ E A (q_cM E h0 a0 rs0 g0) (some (.int r))) args s 0 0 A) (F0 m 33 ls []) := by
    intro n33_
    induction n33_ with
    | zero => intro v1 v2 s0 H locs hP hD hS ls hl h; exact q_nn h
    | succ n33_ ih33 =>
      intro v1 v2 s0 H locs hP hD hS ls hl h
      rw [zX4_valley_33_s] at h
      unfold jX4_valley_33 at h
      refine lv_iload_n hx hb dX4_valley_33 rfl (lv_at hl 2 rfl) ?_
      refine lv_aload_n hx hb dX4_valley_34 rfl (lv_at hl 0 rfl) ?_
      refine q_get F q_K4 hP 0 rfl 1 (by decide) q_fX4_108 rfl dX4_valley_35 ?_
      refine lv_icmp_ge (tgt := 104) hx hb dX4_valley_38 (by decide) (fun c14 => ?_) (fun c14 => ?_)
      · replace h := q_i1 c14 h
        refine lv_iconst (v := 0) hx hb dX4_valley_104 (by decide) ?_
        refine lv_istore_n (lv' := [(2, .int (0 : Int32)), (0, .ref h0), (1, .int v1)]) hx hb dX4_valley_105 rfl hl (by decide) rfl (fun ls hl => ?_)
        exact K106 70000 v1 (0 : Int32) s0 H _ hP hD hS ls (lv_sub hl [1, 2, 0] rfl) h
      · replace h := q_i2 c14 h
        refine lv_aload_n hx hb dX4_valley_41 rfl (lv_at hl 0 rfl) ?_
        refine q_get F q_K4 hP 0 rfl 2 (by decide) q_fX4_7 rfl dX4_valley_42 ?_
        refine lv_iload_n hx hb dX4_valley_45 rfl (lv_at hl 2 rfl) ?_
        refine lv_aload_n hx hb dX4_valley_46 rfl (lv_at hl 0 rfl) ?_
        refine q_get F q_K4 hP 0 rfl 18 (by decide) q_fX4_41 rfl dX4_valley_47 ?_
        refine lv_iconst (v := 3) hx hb dX4_valley_50 (by decide) ?_
        refine lv_iload_n hx hb dX4_valley_51 rfl (lv_at hl 2 rfl) ?_
        refine lv_imul hx hb dX4_valley_52 ?_
        obtain ⟨eg15, h⟩ := q_og h
        refine q_bald F hP 11 rfl eg15 dX4_valley_53 ?_
        obtain ⟨x16, c17, h⟩ := q_o1 h
        refine q_roS F (kX4_kindBy l E  (s0 18 ((3 : Int32) * v2).toNatClampNeg) x16 c17) q_cX4_kindBy q_lX4_97 (q_EV.go F.2.2.2.2.2 hAl hS) (fun k q h => by simp at h) ⟨by decide, by decide⟩ rfl ⟨_, hl⟩ (rest := [.int v2, .ref (a0 2)]) rfl (Nat.le_of_ble_eq_true rfl) dX4_valley_54 ?_
        obtain ⟨eg18, h⟩ := q_og h
        obtain ⟨y19, ey19, h⟩ := q_ol h
        refine q_iast F hP hD hS 1 rfl eg18 (by rw [ey19]; rfl) dX4_valley_57 (fun H locs (hP : va_P (q_D E) vwCl (q_cM E h0 a0 y19 g0) H) hD hS => ?_)
        refine lv_aload_n hx hb dX4_valley_58 rfl (lv_at hl 0 rfl) ?_
        refine q_get F q_K4 hP 0 rfl 3 (by decide) q_fX4_13 rfl dX4_valley_59 ?_
        refine lv_iload_n hx hb dX4_valley_62 rfl (lv_at hl 2 rfl) ?_
        refine lv_aload_n hx hb dX4_valley_63 rfl (lv_at hl 0 rfl) ?_
        refine q_get F q_K4 hP 0 rfl 18 (by decide) q_fX4_41 rfl dX4_valley_64 ?_
        refine lv_iconst (v := 3) hx hb dX4_valley_67 (by decide) ?_
        refine lv_iload_n hx hb dX4_valley_68 rfl (lv_at hl 2 rfl) ?_
        refine lv_imul hx hb dX4_valley_69 ?_
        refine lv_iconst (v := 1) hx hb dX4_valley_70 (by decide) ?_
        refine lv_iadd hx hb dX4_valley_71 ?_
        obtain ⟨eg20, h⟩ := q_og h
        refine q_bald F hP 11 rfl eg20 dX4_valley_72 ?_
        refine lv_bipush (v := 48) hx hb dX4_valley_73 (by decide) ?_
        refine lv_isub hx hb dX4_valley_75 ?_
        obtain ⟨eg21, h⟩ := q_og h
        obtain ⟨y22, ey22, h⟩ := q_ol h
        refine q_iast F hP hD hS 2 rfl eg21 (by rw [ey22]; rfl) dX4_valley_76 (fun H locs (hP : va_P (q_D E) vwCl (q_cM E h0 a0 y22 g0) H) hD hS => ?_)
        refine lv_aload_n hx hb dX4_valley_77 rfl (lv_at hl 0 rfl) ?_
        refine q_get F q_K4 hP 0 rfl 4 (by decide) q_fX4_16 rfl dX4_valley_78 ?_
        refine lv_iload_n hx hb dX4_valley_81 rfl (lv_at hl 2 rfl) ?_
        refine lv_iconst (v := 1) hx hb dX4_valley_82 (by decide) ?_
        obtain ⟨eg23, h⟩ := q_og h
        obtain ⟨y24, ey24, h⟩ := q_ol h
        refine q_zast F hP hD hS 3 rfl eg23 (by rw [ey24]; rfl) dX4_valley_83 (fun H locs (hP : va_P (q_D E) vwCl (q_cM E h0 a0 y24 g0) H) hD hS => ?_)
        refine lv_aload_n hx hb dX4_valley_84 rfl (lv_at hl 0 rfl) ?_
        refine q_get F q_K4 hP 0 rfl 5 (by decide) q_fX4_20 rfl dX4_valley_85 ?_
        refine lv_iload_n hx hb dX4_valley_88 rfl (lv_at hl 2 rfl) ?_
        refine lv_iconst (v := 0) hx hb dX4_valley_89 (by decide) ?_
        obtain ⟨eg25, h⟩ := q_og h
        obtain ⟨y26, ey26, h⟩ := q_ol h
        refine q_iast F hP hD hS 4 rfl eg25 (by rw [ey26]; rfl) dX4_valley_90 (fun H locs (hP : va_P (q_D E) vwCl (q_cM E h0 a0 y26 g0) H) hD hS => ?_)
        refine lv_aload_n hx hb dX4_valley_91 rfl (lv_at hl 0 rfl) ?_
        refine q_get F q_K4 hP 0 rfl 6 (by decide) q_fX4_23 rfl dX4_valley_92 ?_
        refine lv_iload_n hx hb dX4_valley_95 rfl (lv_at hl 2 rfl) ?_
        refine lv_iconst (v := 0) hx hb dX4_valley_96 (by decide) ?_
        obtain ⟨eg27, h⟩ := q_og h
        obtain ⟨y28, ey28, h⟩ := q_ol h
        refine q_iast F hP hD hS 5 rfl eg27 (by rw [ey28]; rfl) dX4_valley_97 (fun H locs (hP : va_P (q_D E) vwCl (q_cM E h0 a0 y28 g0) H) hD hS => ?_)
        obtain ⟨x29, ex29, h⟩ := q_ol h
        refine lv_iinc (v := x29) (lv' := [(2, .int x29), (0, .ref h0), (1, .int v1)]) hx hb dX4_valley_98 hl (k := 2) rfl (by rw [ex29]; rfl) (by decide) rfl (fun ls hl => ?_)
        refine lv_goto (tgt := 33) hx hb dX4_valley_101 (by decide) ?_
        exact ih33 v1 x29 y28 H _ hP hD hS ls (lv_sub hl [1, 2, 0] rfl) h
  unfold zX4_valley at h
  refine lv_aload_n hx hb dX4_valley_0 rfl (lv_at hl 0 rfl) ?_
  obtain ⟨x30, y31, c32, h⟩ := q_o2 h
  refine q_muV F (kX4_read l E h0 a0 s0 g0 s.heap.size x30 y31 c32) q_cX4_read q_lX4_104 (q_s_M_M_0w E h0 a0 s0 g0 y31 g0) hP hD hS hA hAl ⟨by decide, by decide⟩ (q0 := 0) rfl rfl rfl rfl ⟨_, hl⟩ (rest := []) rfl (Nat.le_of_ble_eq_true rfl) dX4_valley_1 (fun H locs (hP : va_P (q_D E) vwCl (q_cM E h0 a0 y31 g0) H) hD hS => ?_)
  refine lv_istore_n (lv' := [(1, .int x30), (0, .ref h0)]) hx hb dX4_valley_4 rfl hl (by decide) rfl (fun ls hl => ?_)
  refine lv_aload_n hx hb dX4_valley_5 rfl (lv_at hl 1 rfl) ?_
  refine q_get F q_K4 hP 0 rfl 19 (by decide) q_fX4_90 rfl dX4_valley_6 ?_
  refine lv_if_ne (tgt := 15) hx hb dX4_valley_9 (by decide) (fun c33 => ?_) (fun c33 => ?_)
  · replace h := q_i2 c33 h
    refine lv_aload_n hx hb dX4_valley_15 rfl (lv_at hl 1 rfl) ?_
    refine lv_aload_n hx hb dX4_valley_16 rfl (lv_at hl 1 rfl) ?_
    refine q_get F q_K4 hP 0 rfl 20 (by decide) q_fX4_94 rfl dX4_valley_17 ?_
    obtain ⟨y34, ey34, h⟩ := q_ol h
    refine q_put F q_K4 hP hD hS 0 rfl 1 (by decide) q_fX4_108 rfl rfl rfl (Nat.le_of_ble_eq_true rfl) (by rw [ey34]; rfl) dX4_valley_20 (fun H locs (hP : va_P (q_D E) vwCl (q_cM E h0 a0 y34 g0) H) hD hS => ?_)
    refine lv_aload_n hx hb dX4_valley_23 rfl (lv_at hl 1 rfl) ?_
    refine lv_aload_n hx hb dX4_valley_24 rfl (lv_at hl 1 rfl) ?_
    refine q_get F q_K4 hP 0 rfl 21 (by decide) q_fX4_87 rfl dX4_valley_25 ?_
    obtain ⟨y35, ey35, h⟩ := q_ol h
    refine q_put F q_K4 hP hD hS 0 rfl 7 (by decide) q_fX4_111 rfl rfl rfl (Nat.le_of_ble_eq_true rfl) (by rw [ey35]; rfl) dX4_valley_28 (fun H locs (hP : va_P (q_D E) vwCl (q_cM E h0 a0 y35 g0) H) hD hS => ?_)
    refine lv_iconst (v := 0) hx hb dX4_valley_31 (by decide) ?_
    refine lv_istore_n (lv' := [(2, .int (0 : Int32)), (1, .int x30), (0, .ref h0)]) hx hb dX4_valley_32 rfl hl (by decide) rfl (fun ls hl => ?_)
    exact K33 70000 x30 (0 : Int32) y35 H _ hP hD hS ls (lv_sub hl [2, 1, 0] rfl) h
  · replace h := q_i1 c33 h
    refine lv_bipush (v := (-103)) hx hb dX4_valley_12 (by decide) ?_
    cases h
    exact q_wI F hr hlk dX4_valley_14 hP hD hS
def zX4_isEater (s0 : q_S) (v1 : Int32) : Option (Int32) := q_b1 (zX4_within v1 (0 : Int32) ((s0 1 0) - (1 : Int32))) fun x1 => q_gd (q_is x1) (some x1)
set_option maxHeartbeats 4000000 in
set_option maxRecDepth 100000 in
theorem kX4_isEater (l : Launch) (E : q_E) (h0 : Nat) (a0 : Nat → Nat) (s0 : q_S) (g0 : q_G) (v1 : Int32) (r : Int32) (h : zX4_isEater s0 v1 = some r) : q_RO l E yX4_isEater cX4_isEater 2 (some .boolean) 2 [.ref h0, .int v1] (q_cM E h0 a0 s0 g0) (.int r) := by
  refine q_RO.intro (by decide) (Nat.le_of_ble_eq_true rfl) ?_
  intro p e s m args below meth c X hP ls hl
  obtain ⟨hx, hb, hml, hr, hlk, hown, hB, hE⟩ := X
  have hown : s.vm.findClass RX4 = some m.cls := hown
  have F : q_Fx p s m c E RX4 cX4_isEater 2 := ⟨hx, hb, hml, hown, hB, hE⟩
  have hV := q_EV.here hE
  have hl : lv_has ls 2 [(0, .ref h0), (1, .int v1)] := hl
  unfold zX4_isEater at h
  refine lv_iload_n hx hb dX4_isEater_0 rfl (lv_at hl 1 rfl) ?_
  refine lv_iconst (v := 0) hx hb dX4_isEater_1 (by decide) ?_
  refine lv_aload_n hx hb dX4_isEater_2 rfl (lv_at hl 0 rfl) ?_
  refine q_get F q_K4 hP 0 rfl 1 (by decide) q_fX4_108 rfl dX4_isEater_3 ?_
  refine lv_iconst (v := 1) hx hb dX4_isEater_6 (by decide) ?_
  refine lv_isub hx hb dX4_isEater_7 ?_
  obtain ⟨x1, c2, h⟩ := q_o1 h
  refine q_roS F (kX4_within l E  v1 (0 : Int32) ((s0 1 0) - (1 : Int32)) x1 c2) q_cX4_within q_lX4_75 hV (fun k q h => by simp at h) ⟨by decide, by decide⟩ rfl ⟨_, hl⟩ (rest := []) rfl (Nat.le_of_ble_eq_true rfl) dX4_isEater_8 ?_
  obtain ⟨eg3, h⟩ := q_og h
  exact q_rZ F hr hlk (q_is_in eg3) dX4_isEater_11 h
def zX4_isLoaf (s0 : q_S) (v1 : Int32) : Option (Int32) := if (s0 1 0) ≤ 0 then (some (0 : Int32)) else (q_b1 (zX4_within v1 (0 : Int32) ((s0 7 0) - (1 : Int32))) fun x2 => if x2 = 0 then (some (0 : Int32)) else (some (1 : Int32)))
set_option maxHeartbeats 4000000 in
set_option maxRecDepth 100000 in
theorem kX4_isLoaf (l : Launch) (E : q_E) (h0 : Nat) (a0 : Nat → Nat) (s0 : q_S) (g0 : q_G) (v1 : Int32) (r : Int32) (h : zX4_isLoaf s0 v1 = some r) : q_RO l E yX4_isLoaf cX4_isLoaf 2 (some .boolean) 2 [.ref h0, .int v1] (q_cM E h0 a0 s0 g0) (.int r) := by
  refine q_RO.intro (by decide) (Nat.le_of_ble_eq_true rfl) ?_
  intro p e s m args below meth c X hP ls hl
  obtain ⟨hx, hb, hml, hr, hlk, hown, hB, hE⟩ := X
  have hown : s.vm.findClass RX4 = some m.cls := hown
  have F : q_Fx p s m c E RX4 cX4_isLoaf 2 := ⟨hx, hb, hml, hown, hB, hE⟩
  have hV := q_EV.here hE
  have hl : lv_has ls 2 [(0, .ref h0), (1, .int v1)] := hl
  unfold zX4_isLoaf at h
  refine lv_aload_n hx hb dX4_isLoaf_0 rfl (lv_at hl 0 rfl) ?_
  refine q_get F q_K4 hP 0 rfl 1 (by decide) q_fX4_108 rfl dX4_isLoaf_1 ?_
  refine lv_if_le (tgt := 25) hx hb dX4_isLoaf_4 (by decide) (fun c1 => ?_) (fun c1 => ?_)
  · replace h := q_i1 c1 h
    refine lv_iconst (v := 0) hx hb dX4_isLoaf_25 (by decide) ?_
    exact q_rZ F hr hlk (by decide) dX4_isLoaf_26 h
  · replace h := q_i2 c1 h
    refine lv_iload_n hx hb dX4_isLoaf_7 rfl (lv_at hl 1 rfl) ?_
    refine lv_iconst (v := 0) hx hb dX4_isLoaf_8 (by decide) ?_
    refine lv_aload_n hx hb dX4_isLoaf_9 rfl (lv_at hl 0 rfl) ?_
    refine q_get F q_K4 hP 0 rfl 7 (by decide) q_fX4_111 rfl dX4_isLoaf_10 ?_
    refine lv_iconst (v := 1) hx hb dX4_isLoaf_13 (by decide) ?_
    refine lv_isub hx hb dX4_isLoaf_14 ?_
    obtain ⟨x2, c3, h⟩ := q_o1 h
    refine q_roS F (kX4_within l E  v1 (0 : Int32) ((s0 7 0) - (1 : Int32)) x2 c3) q_cX4_within q_lX4_75 hV (fun k q h => by simp at h) ⟨by decide, by decide⟩ rfl ⟨_, hl⟩ (rest := []) rfl (Nat.le_of_ble_eq_true rfl) dX4_isLoaf_15 ?_
    refine lv_if_eq (tgt := 25) hx hb dX4_isLoaf_18 (by decide) (fun c4 => ?_) (fun c4 => ?_)
    · replace h := q_i1 c4 h
      refine lv_iconst (v := 0) hx hb dX4_isLoaf_25 (by decide) ?_
      exact q_rZ F hr hlk (by decide) dX4_isLoaf_26 h
    · replace h := q_i2 c4 h
      refine lv_iconst (v := 1) hx hb dX4_isLoaf_21 (by decide) ?_
      refine lv_goto (tgt := 26) hx hb dX4_isLoaf_22 (by decide) ?_
      exact q_rZ F hr hlk (by decide) dX4_isLoaf_26 h
def zX4_would (s0 : q_S) (v1 : Int32) (v2 : Int32) : Option (Int32) := q_gd (q_ib v1 4) (if (s0 4 v1.toNatClampNeg) = 0 then (some (0 : Int32)) else (q_b1 (zX4_isIn (s0 10 0) v2) fun x3 => if x3 = 0 then (q_gd (q_ib v1 4) (if (s0 2 v1.toNatClampNeg) = (2 : Int32) then (some (0 : Int32)) else (q_gd (q_ib v1 4) (if (s0 2 v1.toNatClampNeg) = (1 : Int32) then (some (1 : Int32)) else (q_gd (q_ib v1 4) (if (s0 2 v1.toNatClampNeg) = (4 : Int32) then (some (1 : Int32)) else (q_gd (q_ib v2 8) (q_gd (q_ib v1 4) (if (s0 3 v1.toNatClampNeg) < (s0 8 v2.toNatClampNeg) then (some (0 : Int32)) else (some (1 : Int32))))))))))) else (some (0 : Int32))))
set_option maxHeartbeats 4000000 in
set_option maxRecDepth 100000 in
theorem kX4_would (l : Launch) (E : q_E) (h0 : Nat) (a0 : Nat → Nat) (s0 : q_S) (g0 : q_G) (v1 : Int32) (v2 : Int32) (r : Int32) (h : zX4_would s0 v1 v2 = some r) : q_RO l E yX4_would cX4_would 3 (some .boolean) 2 [.ref h0, .int v1, .int v2] (q_cM E h0 a0 s0 g0) (.int r) := by
  refine q_RO.intro (by decide) (Nat.le_of_ble_eq_true rfl) ?_
  intro p e s m args below meth c X hP ls hl
  obtain ⟨hx, hb, hml, hr, hlk, hown, hB, hE⟩ := X
  have hown : s.vm.findClass RX4 = some m.cls := hown
  have F : q_Fx p s m c E RX4 cX4_would 3 := ⟨hx, hb, hml, hown, hB, hE⟩
  have hV := q_EV.here hE
  have hl : lv_has ls 3 [(0, .ref h0), (1, .int v1), (2, .int v2)] := hl
  unfold zX4_would at h
  refine lv_aload_n hx hb dX4_would_0 rfl (lv_at hl 0 rfl) ?_
  refine q_get F q_K4 hP 0 rfl 4 (by decide) q_fX4_16 rfl dX4_would_1 ?_
  refine lv_iload_n hx hb dX4_would_4 rfl (lv_at hl 1 rfl) ?_
  obtain ⟨eg1, h⟩ := q_og h
  refine q_zald F hP 3 rfl eg1 dX4_would_5 ?_
  refine lv_if_eq (tgt := 30) hx hb dX4_would_6 (by decide) (fun c2 => ?_) (fun c2 => ?_)
  · replace h := q_i1 c2 h
    refine lv_iconst (v := 0) hx hb dX4_would_30 (by decide) ?_
    exact q_rZ F hr hlk (by decide) dX4_would_31 h
  · replace h := q_i2 c2 h
    refine lv_aload_n hx hb dX4_would_9 rfl (lv_at hl 0 rfl) ?_
    refine q_get F q_K4 hP 0 rfl 10 (by decide) q_fX4_117 rfl dX4_would_10 ?_
    refine lv_iload_n hx hb dX4_would_13 rfl (lv_at hl 2 rfl) ?_
    obtain ⟨x3, c4, h⟩ := q_o1 h
    refine q_roS F (kX4_isIn l E  (s0 10 0) v2 x3 c4) q_cX4_isIn q_lX4_126 hV (fun k q h => by simp at h) ⟨by decide, by decide⟩ rfl ⟨_, hl⟩ (rest := []) rfl (Nat.le_of_ble_eq_true rfl) dX4_would_14 ?_
    refine lv_if_ne (tgt := 30) hx hb dX4_would_17 (by decide) (fun c5 => ?_) (fun c5 => ?_)
    · replace h := q_i2 c5 h
      refine lv_iconst (v := 0) hx hb dX4_would_30 (by decide) ?_
      exact q_rZ F hr hlk (by decide) dX4_would_31 h
    · replace h := q_i1 c5 h
      refine lv_aload_n hx hb dX4_would_20 rfl (lv_at hl 0 rfl) ?_
      refine q_get F q_K4 hP 0 rfl 2 (by decide) q_fX4_7 rfl dX4_would_21 ?_
      refine lv_iload_n hx hb dX4_would_24 rfl (lv_at hl 1 rfl) ?_
      obtain ⟨eg6, h⟩ := q_og h
      refine q_iald F hP 1 rfl eg6 dX4_would_25 ?_
      refine lv_iconst (v := 2) hx hb dX4_would_26 (by decide) ?_
      refine lv_icmp_ne (tgt := 32) hx hb dX4_would_27 (by decide) (fun c7 => ?_) (fun c7 => ?_)
      · replace h := q_i2 c7 h
        refine lv_aload_n hx hb dX4_would_32 rfl (lv_at hl 0 rfl) ?_
        refine q_get F q_K4 hP 0 rfl 2 (by decide) q_fX4_7 rfl dX4_would_33 ?_
        refine lv_iload_n hx hb dX4_would_36 rfl (lv_at hl 1 rfl) ?_
        obtain ⟨eg8, h⟩ := q_og h
        refine q_iald F hP 1 rfl eg8 dX4_would_37 ?_
        refine lv_iconst (v := 1) hx hb dX4_would_38 (by decide) ?_
        refine lv_icmp_eq (tgt := 67) hx hb dX4_would_39 (by decide) (fun c9 => ?_) (fun c9 => ?_)
        · replace h := q_i1 c9 h
          refine lv_iconst (v := 1) hx hb dX4_would_67 (by decide) ?_
          refine lv_goto (tgt := 72) hx hb dX4_would_68 (by decide) ?_
          exact q_rZ F hr hlk (by decide) dX4_would_72 h
        · replace h := q_i2 c9 h
          refine lv_aload_n hx hb dX4_would_42 rfl (lv_at hl 0 rfl) ?_
          refine q_get F q_K4 hP 0 rfl 2 (by decide) q_fX4_7 rfl dX4_would_43 ?_
          refine lv_iload_n hx hb dX4_would_46 rfl (lv_at hl 1 rfl) ?_
          obtain ⟨eg10, h⟩ := q_og h
          refine q_iald F hP 1 rfl eg10 dX4_would_47 ?_
          refine lv_iconst (v := 4) hx hb dX4_would_48 (by decide) ?_
          refine lv_icmp_eq (tgt := 67) hx hb dX4_would_49 (by decide) (fun c11 => ?_) (fun c11 => ?_)
          · replace h := q_i1 c11 h
            refine lv_iconst (v := 1) hx hb dX4_would_67 (by decide) ?_
            refine lv_goto (tgt := 72) hx hb dX4_would_68 (by decide) ?_
            exact q_rZ F hr hlk (by decide) dX4_would_72 h
          · replace h := q_i2 c11 h
            refine lv_aload_n hx hb dX4_would_52 rfl (lv_at hl 0 rfl) ?_
            refine q_get F q_K4 hP 0 rfl 8 (by decide) q_fX4_26 rfl dX4_would_53 ?_
            refine lv_iload_n hx hb dX4_would_56 rfl (lv_at hl 2 rfl) ?_
            obtain ⟨eg12, h⟩ := q_og h
            refine q_iald F hP 6 rfl eg12 dX4_would_57 ?_
            refine lv_aload_n hx hb dX4_would_58 rfl (lv_at hl 0 rfl) ?_
            refine q_get F q_K4 hP 0 rfl 3 (by decide) q_fX4_13 rfl dX4_would_59 ?_
            refine lv_iload_n hx hb dX4_would_62 rfl (lv_at hl 1 rfl) ?_
            obtain ⟨eg13, h⟩ := q_og h
            refine q_iald F hP 2 rfl eg13 dX4_would_63 ?_
            refine lv_icmp_gt (tgt := 71) hx hb dX4_would_64 (by decide) (fun c14 => ?_) (fun c14 => ?_)
            · replace h := q_i1 c14 h
              refine lv_iconst (v := 0) hx hb dX4_would_71 (by decide) ?_
              exact q_rZ F hr hlk (by decide) dX4_would_72 h
            · replace h := q_i2 c14 h
              refine lv_iconst (v := 1) hx hb dX4_would_67 (by decide) ?_
              refine lv_goto (tgt := 72) hx hb dX4_would_68 (by decide) ?_
              exact q_rZ F hr hlk (by decide) dX4_would_72 h
      · replace h := q_i1 c7 h
        refine lv_iconst (v := 0) hx hb dX4_would_30 (by decide) ?_
        exact q_rZ F hr hlk (by decide) dX4_would_31 h
def zX4_takes (s0 : q_S) (v1 : Int32) (v2 : Int32) : Option (q_S) := q_gd (q_ib v1 4) (q_gd (q_ib v1 4) (if (s0 2 v1.toNatClampNeg) = (3 : Int32) then (q_gd (q_ib v1 4) (q_lt (q_u s0 5 v1.toNatClampNeg ((s0 5 v1.toNatClampNeg) + (v2 / (2 : Int32)))) fun y7 => some y7)) else (q_gd (q_ib v1 4) (q_lt (q_u s0 5 v1.toNatClampNeg ((s0 5 v1.toNatClampNeg) + v2)) fun y5 => some y5))))
set_option maxHeartbeats 4000000 in
set_option maxRecDepth 100000 in
theorem kX4_takes (l : Launch) (E : q_E) (h0 : Nat) (a0 : Nat → Nat) (s0 : q_S) (g0 : q_G) (v1 : Int32) (v2 : Int32) (sz : Nat) (rs0 : q_S) (h : zX4_takes s0 v1 v2 = some rs0) : q_MU l E yX4_takes cX4_takes 3 none 1 [.ref h0, .int v1, .int v2] sz (q_cM E h0 a0 s0 g0) (q_cM E h0 a0 rs0 g0) none := by
  refine q_MU.intro (by decide) (Nat.le_of_ble_eq_true rfl) ?_
  intro p e s m args below meth c A X hP hD hA hAl ls hl
  obtain ⟨hx, hb, hml, hr, hlk, hown, hB, hE⟩ := X
  have hown : s.vm.findClass RX4 = some m.cls := hown
  have F : q_Fx p s m c E RX4 cX4_takes 3 := ⟨hx, hb, hml, hown, hB, hE⟩
  have hS : va_S A s.heap s.heap [] := va_S.rf
  have hl : lv_has ls 3 [(0, .ref h0), (1, .int v1), (2, .int v2)] := hl
  unfold zX4_takes at h
  refine lv_aload_n hx hb dX4_takes_0 rfl (lv_at hl 0 rfl) ?_
  refine q_get F q_K4 hP 0 rfl 5 (by decide) q_fX4_20 rfl dX4_takes_1 ?_
  refine lv_iload_n hx hb dX4_takes_4 rfl (lv_at hl 1 rfl) ?_
  refine lv_dup2_11 hx hb dX4_takes_5 rfl rfl ?_
  obtain ⟨eg1, h⟩ := q_og h
  refine q_iald F hP 4 rfl eg1 dX4_takes_6 ?_
  refine lv_aload_n hx hb dX4_takes_7 rfl (lv_at hl 0 rfl) ?_
  refine q_get F q_K4 hP 0 rfl 2 (by decide) q_fX4_7 rfl dX4_takes_8 ?_
  refine lv_iload_n hx hb dX4_takes_11 rfl (lv_at hl 1 rfl) ?_
  obtain ⟨eg2, h⟩ := q_og h
  refine q_iald F hP 1 rfl eg2 dX4_takes_12 ?_
  refine lv_iconst (v := 3) hx hb dX4_takes_13 (by decide) ?_
  refine lv_icmp_ne (tgt := 23) hx hb dX4_takes_14 (by decide) (fun c3 => ?_) (fun c3 => ?_)
  · replace h := q_i2 c3 h
    refine lv_iload_n hx hb dX4_takes_23 rfl (lv_at hl 2 rfl) ?_
    refine lv_iadd hx hb dX4_takes_24 ?_
    obtain ⟨eg4, h⟩ := q_og h
    obtain ⟨y5, ey5, h⟩ := q_ol h
    refine q_iast F hP hD hS 4 rfl eg4 (by rw [ey5]; rfl) dX4_takes_25 (fun H locs (hP : va_P (q_D E) vwCl (q_cM E h0 a0 y5 g0) H) hD hS => ?_)
    cases h
    exact q_wV F hr hlk dX4_takes_26 hP hD hS
  · replace h := q_i1 c3 h
    refine lv_iload_n hx hb dX4_takes_17 rfl (lv_at hl 2 rfl) ?_
    refine lv_iconst (v := 2) hx hb dX4_takes_18 (by decide) ?_
    refine lv_idiv hx hb dX4_takes_19 (by decide) ?_
    refine lv_goto (tgt := 24) hx hb dX4_takes_20 (by decide) ?_
    refine lv_iadd hx hb dX4_takes_24 ?_
    obtain ⟨eg6, h⟩ := q_og h
    obtain ⟨y7, ey7, h⟩ := q_ol h
    refine q_iast F hP hD hS 4 rfl eg6 (by rw [ey7]; rfl) dX4_takes_25 (fun H locs (hP : va_P (q_D E) vwCl (q_cM E h0 a0 y7 g0) H) hD hS => ?_)
    cases h
    exact q_wV F hr hlk dX4_takes_26 hP hD hS
def zX4_tires (s0 : q_S) (v1 : Int32) (v2 : Int32) : Option (q_S) := q_gd (q_ib v1 4) (if v2 ≤ (s0 3 v1.toNatClampNeg) then (q_gd (q_ib v1 4) (q_gd (q_ib v1 4) (q_lt (q_u s0 3 v1.toNatClampNeg ((s0 3 v1.toNatClampNeg) - v2)) fun y5 => some y5))) else (q_gd (q_ib v1 4) (q_lt (q_u s0 3 v1.toNatClampNeg (0 : Int32)) fun y7 => some y7)))
set_option maxHeartbeats 4000000 in
set_option maxRecDepth 100000 in
theorem kX4_tires (l : Launch) (E : q_E) (h0 : Nat) (a0 : Nat → Nat) (s0 : q_S) (g0 : q_G) (v1 : Int32) (v2 : Int32) (sz : Nat) (rs0 : q_S) (h : zX4_tires s0 v1 v2 = some rs0) : q_MU l E yX4_tires cX4_tires 3 none 1 [.ref h0, .int v1, .int v2] sz (q_cM E h0 a0 s0 g0) (q_cM E h0 a0 rs0 g0) none := by
  refine q_MU.intro (by decide) (Nat.le_of_ble_eq_true rfl) ?_
  intro p e s m args below meth c A X hP hD hA hAl ls hl
  obtain ⟨hx, hb, hml, hr, hlk, hown, hB, hE⟩ := X
  have hown : s.vm.findClass RX4 = some m.cls := hown
  have F : q_Fx p s m c E RX4 cX4_tires 3 := ⟨hx, hb, hml, hown, hB, hE⟩
  have hS : va_S A s.heap s.heap [] := va_S.rf
  have hl : lv_has ls 3 [(0, .ref h0), (1, .int v1), (2, .int v2)] := hl
  unfold zX4_tires at h
  refine lv_aload_n hx hb dX4_tires_0 rfl (lv_at hl 0 rfl) ?_
  refine q_get F q_K4 hP 0 rfl 3 (by decide) q_fX4_13 rfl dX4_tires_1 ?_
  refine lv_iload_n hx hb dX4_tires_4 rfl (lv_at hl 1 rfl) ?_
  refine lv_aload_n hx hb dX4_tires_5 rfl (lv_at hl 0 rfl) ?_
  refine q_get F q_K4 hP 0 rfl 3 (by decide) q_fX4_13 rfl dX4_tires_6 ?_
  refine lv_iload_n hx hb dX4_tires_9 rfl (lv_at hl 1 rfl) ?_
  obtain ⟨eg1, h⟩ := q_og h
  refine q_iald F hP 2 rfl eg1 dX4_tires_10 ?_
  refine lv_iload_n hx hb dX4_tires_11 rfl (lv_at hl 2 rfl) ?_
  refine lv_icmp_ge (tgt := 19) hx hb dX4_tires_12 (by decide) (fun c2 => ?_) (fun c2 => ?_)
  · replace h := q_i1 c2 h
    refine lv_aload_n hx hb dX4_tires_19 rfl (lv_at hl 0 rfl) ?_
    refine q_get F q_K4 hP 0 rfl 3 (by decide) q_fX4_13 rfl dX4_tires_20 ?_
    refine lv_iload_n hx hb dX4_tires_23 rfl (lv_at hl 1 rfl) ?_
    obtain ⟨eg3, h⟩ := q_og h
    refine q_iald F hP 2 rfl eg3 dX4_tires_24 ?_
    refine lv_iload_n hx hb dX4_tires_25 rfl (lv_at hl 2 rfl) ?_
    refine lv_isub hx hb dX4_tires_26 ?_
    obtain ⟨eg4, h⟩ := q_og h
    obtain ⟨y5, ey5, h⟩ := q_ol h
    refine q_iast F hP hD hS 2 rfl eg4 (by rw [ey5]; rfl) dX4_tires_27 (fun H locs (hP : va_P (q_D E) vwCl (q_cM E h0 a0 y5 g0) H) hD hS => ?_)
    cases h
    exact q_wV F hr hlk dX4_tires_28 hP hD hS
  · replace h := q_i2 c2 h
    refine lv_iconst (v := 0) hx hb dX4_tires_15 (by decide) ?_
    refine lv_goto (tgt := 27) hx hb dX4_tires_16 (by decide) ?_
    obtain ⟨eg6, h⟩ := q_og h
    obtain ⟨y7, ey7, h⟩ := q_ol h
    refine q_iast F hP hD hS 2 rfl eg6 (by rw [ey7]; rfl) dX4_tires_27 (fun H locs (hP : va_P (q_D E) vwCl (q_cM E h0 a0 y7 g0) H) hD hS => ?_)
    cases h
    exact q_wV F hr hlk dX4_tires_28 hP hD hS
def zX4_eats (s0 : q_S) (v1 : Int32) (v2 : Int32) : Option (q_S) := q_gd (q_ib v1 4) (q_gd (q_ib v2 8) (q_gd (q_ib v1 4) (q_lt (q_u s0 6 v1.toNatClampNeg ((s0 6 v1.toNatClampNeg) + (s0 8 v2.toNatClampNeg))) fun y4 => q_gd (q_ib v2 8) (q_gd (q_ib v2 8) (q_b1 (zX4_takes y4 v1 ((y4 8 v2.toNatClampNeg) + (y4 9 v2.toNatClampNeg))) fun y7 => q_b1 (zX4_tires y7 v1 (2 : Int32)) fun y9 => q_lt (q_u y9 10 0 ((y9 10 0) ||| ((1 : Int32) <<< (v2 &&& 31)))) fun y11 => some y11)))))
set_option maxHeartbeats 4000000 in
set_option maxRecDepth 100000 in
theorem kX4_eats (l : Launch) (E : q_E) (h0 : Nat) (a0 : Nat → Nat) (s0 : q_S) (g0 : q_G) (v1 : Int32) (v2 : Int32) (sz : Nat) (rs0 : q_S) (h : zX4_eats s0 v1 v2 = some rs0) : q_MU l E yX4_eats cX4_eats 3 none 2 [.ref h0, .int v1, .int v2] sz (q_cM E h0 a0 s0 g0) (q_cM E h0 a0 rs0 g0) none := by
  refine q_MU.intro (by decide) (Nat.le_of_ble_eq_true rfl) ?_
  intro p e s m args below meth c A X hP hD hA hAl ls hl
  obtain ⟨hx, hb, hml, hr, hlk, hown, hB, hE⟩ := X
  have hown : s.vm.findClass RX4 = some m.cls := hown
  have F : q_Fx p s m c E RX4 cX4_eats 3 := ⟨hx, hb, hml, hown, hB, hE⟩
  have hS : va_S A s.heap s.heap [] := va_S.rf
  have hl : lv_has ls 3 [(0, .ref h0), (1, .int v1), (2, .int v2)] := hl
  unfold zX4_eats at h
  refine lv_aload_n hx hb dX4_eats_0 rfl (lv_at hl 0 rfl) ?_
  refine q_get F q_K4 hP 0 rfl 6 (by decide) q_fX4_23 rfl dX4_eats_1 ?_
  refine lv_iload_n hx hb dX4_eats_4 rfl (lv_at hl 1 rfl) ?_
  refine lv_dup2_11 hx hb dX4_eats_5 rfl rfl ?_
  obtain ⟨eg1, h⟩ := q_og h
  refine q_iald F hP 5 rfl eg1 dX4_eats_6 ?_
  refine lv_aload_n hx hb dX4_eats_7 rfl (lv_at hl 0 rfl) ?_
  refine q_get F q_K4 hP 0 rfl 8 (by decide) q_fX4_26 rfl dX4_eats_8 ?_
  refine lv_iload_n hx hb dX4_eats_11 rfl (lv_at hl 2 rfl) ?_
  obtain ⟨eg2, h⟩ := q_og h
  refine q_iald F hP 6 rfl eg2 dX4_eats_12 ?_
  refine lv_iadd hx hb dX4_eats_13 ?_
  obtain ⟨eg3, h⟩ := q_og h
  obtain ⟨y4, ey4, h⟩ := q_ol h
  refine q_iast F hP hD hS 5 rfl eg3 (by rw [ey4]; rfl) dX4_eats_14 (fun H locs (hP : va_P (q_D E) vwCl (q_cM E h0 a0 y4 g0) H) hD hS => ?_)
  refine lv_aload_n hx hb dX4_eats_15 rfl (lv_at hl 0 rfl) ?_
  refine lv_iload_n hx hb dX4_eats_16 rfl (lv_at hl 1 rfl) ?_
  refine lv_aload_n hx hb dX4_eats_17 rfl (lv_at hl 0 rfl) ?_
  refine q_get F q_K4 hP 0 rfl 8 (by decide) q_fX4_26 rfl dX4_eats_18 ?_
  refine lv_iload_n hx hb dX4_eats_21 rfl (lv_at hl 2 rfl) ?_
  obtain ⟨eg5, h⟩ := q_og h
  refine q_iald F hP 6 rfl eg5 dX4_eats_22 ?_
  refine lv_aload_n hx hb dX4_eats_23 rfl (lv_at hl 0 rfl) ?_
  refine q_get F q_K4 hP 0 rfl 9 (by decide) q_fX4_29 rfl dX4_eats_24 ?_
  refine lv_iload_n hx hb dX4_eats_27 rfl (lv_at hl 2 rfl) ?_
  obtain ⟨eg6, h⟩ := q_og h
  refine q_iald F hP 7 rfl eg6 dX4_eats_28 ?_
  refine lv_iadd hx hb dX4_eats_29 ?_
  obtain ⟨y7, c8, h⟩ := q_o1 h
  refine q_muV F (kX4_takes l E h0 a0 y4 g0 v1 ((y4 8 v2.toNatClampNeg) + (y4 9 v2.toNatClampNeg)) H.size y7 c8) q_cX4_takes q_lX4_130 (q_s_M_M_0w E h0 a0 y4 g0 y7 g0) hP hD hS hA hAl ⟨by decide, by decide⟩ (q0 := 0) rfl rfl rfl rfl ⟨_, hl⟩ (rest := []) rfl (Nat.le_of_ble_eq_true rfl) dX4_eats_30 (fun H locs (hP : va_P (q_D E) vwCl (q_cM E h0 a0 y7 g0) H) hD hS => ?_)
  refine lv_aload_n hx hb dX4_eats_33 rfl (lv_at hl 0 rfl) ?_
  refine lv_iload_n hx hb dX4_eats_34 rfl (lv_at hl 1 rfl) ?_
  refine lv_iconst (v := 2) hx hb dX4_eats_35 (by decide) ?_
  obtain ⟨y9, c10, h⟩ := q_o1 h
  refine q_muV F (kX4_tires l E h0 a0 y7 g0 v1 (2 : Int32) H.size y9 c10) q_cX4_tires q_lX4_134 (q_s_M_M_0w E h0 a0 y7 g0 y9 g0) hP hD hS hA hAl ⟨by decide, by decide⟩ (q0 := 0) rfl rfl rfl rfl ⟨_, hl⟩ (rest := []) rfl (Nat.le_of_ble_eq_true rfl) dX4_eats_36 (fun H locs (hP : va_P (q_D E) vwCl (q_cM E h0 a0 y9 g0) H) hD hS => ?_)
  refine lv_aload_n hx hb dX4_eats_39 rfl (lv_at hl 0 rfl) ?_
  refine lv_dup hx hb dX4_eats_40 rfl ?_
  refine q_get F q_K4 hP 0 rfl 10 (by decide) q_fX4_117 rfl dX4_eats_41 ?_
  refine lv_iconst (v := 1) hx hb dX4_eats_44 (by decide) ?_
  refine lv_iload_n hx hb dX4_eats_45 rfl (lv_at hl 2 rfl) ?_
  refine lv_ishl hx hb dX4_eats_46 ?_
  refine lv_ior hx hb dX4_eats_47 ?_
  obtain ⟨y11, ey11, h⟩ := q_ol h
  refine q_put F q_K4 hP hD hS 0 rfl 10 (by decide) q_fX4_117 rfl rfl rfl (Nat.le_of_ble_eq_true rfl) (by rw [ey11]; rfl) dX4_eats_48 (fun H locs (hP : va_P (q_D E) vwCl (q_cM E h0 a0 y11 g0) H) hD hS => ?_)
  cases h
  exact q_wV F hr hlk dX4_eats_51 hP hD hS
def jX4_carriesAll_4 (s0 : q_S) (k4 : Int32 → Int32 → Option (Int32)) (v1 : Int32) (v2 : Int32) : Option (Int32) := if (s0 1 0) ≤ v2 then (some v1) else (q_gd (q_ib v2 4) (q_lt (v1 + (s0 5 v2.toNatClampNeg)) fun x3 => q_lt (v2 + 1) fun x4 => k4 x3 x4))
def zX4_carriesAll_4 (s0 : q_S) : Nat → Int32 → Int32 → Option (Int32)
  | 0, _, _ => none
  | n + 1, v1, v2 => jX4_carriesAll_4 s0 (zX4_carriesAll_4 s0 n) v1 v2
theorem zX4_carriesAll_4_s (s0 : q_S) (n : Nat) (v1 : Int32) (v2 : Int32) : zX4_carriesAll_4 s0 (n + 1) v1 v2 = jX4_carriesAll_4 s0 (zX4_carriesAll_4 s0 n) v1 v2 := rfl
def zX4_carriesAll (s0 : q_S) : Option (Int32) := zX4_carriesAll_4 s0 70000 (0 : Int32) (0 : Int32)
set_option maxHeartbeats 4000000 in
set_option maxRecDepth 100000 in
theorem kX4_carriesAll (l : Launch) (E : q_E) (h0 : Nat) (a0 : Nat → Nat) (s0 : q_S) (g0 : q_G)  (r : Int32) (h : zX4_carriesAll s0 = some r) : q_RO l E yX4_carriesAll cX4_carriesAll 3 (some .int) 1 [.ref h0] (q_cM E h0 a0 s0 g0) (.int r) := by
  refine q_RO.intro (by decide) (Nat.le_of_ble_eq_true rfl) ?_
  intro p e s m args below meth c X hP ls hl
  obtain ⟨hx, hb, hml, hr, hlk, hown, hB, hE⟩ := X
  have hown : s.vm.findClass RX4 = some m.cls := hown
  have F : q_Fx p s m c E RX4 cX4_carriesAll 3 := ⟨hx, hb, hml, hown, hB, hE⟩
  have hV := q_EV.here hE
  have hl : lv_has ls 3 [(0, .ref h0)] := hl
  have K4 : ∀ (n4_ : Nat), ∀ (v1 : Int32) (v2 : Int32), ∀ ls : Array Slot, lv_has ls 3 [(0, .ref h0), (1, .int v1), (2, .int v2)] → zX4_carriesAll_4 s0 n4_ v1 v2 = some r → W p l e (q_rm 1) s m args below meth c s.heap [] 0 0 (MQ below (q_roQ (.int r)) args s 0 0 q_no) (F0 m 4 ls []) := by
    intro n4_
    induction n4_ with
    | zero => intro v1 v2 ls hl h; exact q_nn h
    | succ n4_ ih4 =>
      intro v1 v2 ls hl h
      rw [zX4_carriesAll_4_s] at h
      unfold jX4_carriesAll_4 at h
      refine lv_iload_n hx hb dX4_carriesAll_4 rfl (lv_at hl 2 rfl) ?_
      refine lv_aload_n hx hb dX4_carriesAll_5 rfl (lv_at hl 0 rfl) ?_
      refine q_get F q_K4 hP 0 rfl 1 (by decide) q_fX4_108 rfl dX4_carriesAll_6 ?_
      refine lv_icmp_ge (tgt := 27) hx hb dX4_carriesAll_9 (by decide) (fun c1 => ?_) (fun c1 => ?_)
      · replace h := q_i1 c1 h
        refine lv_iload_n hx hb dX4_carriesAll_27 rfl (lv_at hl 1 rfl) ?_
        exact q_rI F hr hlk dX4_carriesAll_28 h
      · replace h := q_i2 c1 h
        refine lv_iload_n hx hb dX4_carriesAll_12 rfl (lv_at hl 1 rfl) ?_
        refine lv_aload_n hx hb dX4_carriesAll_13 rfl (lv_at hl 0 rfl) ?_
        refine q_get F q_K4 hP 0 rfl 5 (by decide) q_fX4_20 rfl dX4_carriesAll_14 ?_
        refine lv_iload_n hx hb dX4_carriesAll_17 rfl (lv_at hl 2 rfl) ?_
        obtain ⟨eg2, h⟩ := q_og h
        refine q_iald F hP 4 rfl eg2 dX4_carriesAll_18 ?_
        refine lv_iadd hx hb dX4_carriesAll_19 ?_
        obtain ⟨x3, ex3, h⟩ := q_ol h
        refine q_top ex3 ?_
        refine lv_istore_n (lv' := [(1, .int x3), (0, .ref h0), (2, .int v2)]) hx hb dX4_carriesAll_20 rfl hl (by decide) rfl (fun ls hl => ?_)
        obtain ⟨x4, ex4, h⟩ := q_ol h
        refine lv_iinc (v := x4) (lv' := [(2, .int x4), (1, .int x3), (0, .ref h0)]) hx hb dX4_carriesAll_21 hl (k := 2) rfl (by rw [ex4]; rfl) (by decide) rfl (fun ls hl => ?_)
        refine lv_goto (tgt := 4) hx hb dX4_carriesAll_24 (by decide) ?_
        exact ih4 x3 x4 ls (lv_sub hl [2, 1, 0] rfl) h
  unfold zX4_carriesAll at h
  refine lv_iconst (v := 0) hx hb dX4_carriesAll_0 (by decide) ?_
  refine lv_istore_n (lv' := [(1, .int (0 : Int32)), (0, .ref h0)]) hx hb dX4_carriesAll_1 rfl hl (by decide) rfl (fun ls hl => ?_)
  refine lv_iconst (v := 0) hx hb dX4_carriesAll_2 (by decide) ?_
  refine lv_istore_n (lv' := [(2, .int (0 : Int32)), (1, .int (0 : Int32)), (0, .ref h0)]) hx hb dX4_carriesAll_3 rfl hl (by decide) rfl (fun ls hl => ?_)
  exact K4 70000 (0 : Int32) (0 : Int32) ls (lv_sub hl [2, 1, 0] rfl) h
def zX4_passWinter_48 (k2 : q_S → Int32 → Option (q_S)) (s0 : q_S) (v1 : Int32) (t1 : Int32) (t2 : Int32) : Option (q_S) := q_gd (q_ib t1 4) (q_lt (q_u s0 3 t1.toNatClampNeg t2) fun y2 => q_gd (q_ib v1 4) (if (y2 2 v1.toNatClampNeg) = (4 : Int32) then (q_gd (q_ib v1 4) (q_lt (q_u y2 5 v1.toNatClampNeg (0 : Int32)) fun y10 => q_lt (v1 + 1) fun x11 => k2 y10 x11)) else (q_gd (q_ib v1 4) (q_gd (q_ib v1 4) (q_lt (q_u y2 5 v1.toNatClampNeg (y2 5 v1.toNatClampNeg)) fun y7 => q_lt (v1 + 1) fun x8 => k2 y7 x8)))))
def jX4_passWinter_2 (k2 : q_S → Int32 → Option (q_S)) (s0 : q_S) (v1 : Int32) : Option (q_S) := if (s0 1 0) ≤ v1 then (some s0) else (q_gd (q_ib v1 4) (if (s0 4 v1.toNatClampNeg) = 0 then (q_lt (v1 + 1) fun x15 => k2 s0 x15) else (q_gd (q_ib v1 4) (if (s0 3 v1.toNatClampNeg) ≤ (6 : Int32) then (q_gd (q_ib v1 4) (zX4_passWinter_48 k2 s0 v1 v1 ((s0 3 v1.toNatClampNeg) + (3 : Int32)))) else (zX4_passWinter_48 k2 s0 v1 v1 (9 : Int32))))))
def zX4_passWinter_2  : Nat → q_S → Int32 → Option (q_S)
  | 0, _, _ => none
  | n + 1, s0, v1 => jX4_passWinter_2  (zX4_passWinter_2  n) s0 v1
theorem zX4_passWinter_2_s  (n : Nat) (s0 : q_S) (v1 : Int32) : zX4_passWinter_2  (n + 1) s0 v1 = jX4_passWinter_2  (zX4_passWinter_2  n) s0 v1 := rfl
def zX4_passWinter (s0 : q_S) : Option (q_S) := zX4_passWinter_2  70000 s0 (0 : Int32)
set_option maxHeartbeats 4000000 in
set_option maxRecDepth 100000 in
theorem kX4_passWinter (l : Launch) (E : q_E) (h0 : Nat) (a0 : Nat → Nat) (s0 : q_S) (g0 : q_G)  (sz : Nat) (rs0 : q_S) (h : zX4_passWinter s0 = some rs0) : q_MU l E yX4_passWinter cX4_passWinter 2 none 1 [.ref h0] sz (q_cM E h0 a0 s0 g0) (q_cM E h0 a0 rs0 g0) none := by
  refine q_MU.intro (by decide) (Nat.le_of_ble_eq_true rfl) ?_
  intro p e s m args below meth c A X hP hD hA hAl ls hl
  obtain ⟨hx, hb, hml, hr, hlk, hown, hB, hE⟩ := X
  have hown : s.vm.findClass RX4 = some m.cls := hown
  have F : q_Fx p s m c E RX4 cX4_passWinter 2 := ⟨hx, hb, hml, hown, hB, hE⟩
  have hS : va_S A s.heap s.heap [] := va_S.rf
  have hl : lv_has ls 2 [(0, .ref h0)] := hl
  have K2 : ∀ (n2_ : Nat), ∀ (v1 : Int32) (s0 : q_S), ∀ (H : Heap) (locs : List Loc), va_P (q_D E) vwCl (q_cM E h0 a0 s0 g0) H → va_D A (q_cM E h0 a0 s0 g0) → va_S A s.heap H locs → ∀ ls : Array Slot, lv_has ls 2 [(0, .ref h0), (1, .int v1)] → zX4_passWinter_2  n2_ s0 v1 = some rs0 → W p l e (q_rm 1) s m args below meth c H locs 0 0 (MQ below (q_muQ E A (q_cM E h0 a0 rs0 g0) none) args s 0 0 A) (F0 m 2 ls []) := by
    intro n2_
    induction n2_ with
    | zero => intro v1 s0 H locs hP hD hS ls hl h; exact q_nn h
    | succ n2_ ih2 =>
      have K48 : ∀ (v1 : Int32) (t1 : Int32) (t2 : Int32) (s0 : q_S), ∀ (H : Heap) (locs : List Loc), va_P (q_D E) vwCl (q_cM E h0 a0 s0 g0) H → va_D A (q_cM E h0 a0 s0 g0) → va_S A s.heap H locs → ∀ ls : Array Slot, lv_has ls 2 [(0, .ref h0), (1, .int v1)] → zX4_passWinter_48 (zX4_passWinter_2 n2_) s0 v1 t1 t2 = some rs0 → W p l e (q_rm 1) s m args below meth c H locs 0 0 (MQ below (q_muQ E A (q_cM E h0 a0 rs0 g0) none) args s 0 0 A) (F0 m 48 ls [.int t2, .int t1, .ref (a0 3)]) := by
        intro v1 t1 t2 s0 H locs hP hD hS ls hl h
        unfold zX4_passWinter_48 at h
        obtain ⟨eg1, h⟩ := q_og h
        obtain ⟨y2, ey2, h⟩ := q_ol h
        refine q_iast F hP hD hS 2 rfl eg1 (by rw [ey2]; rfl) dX4_passWinter_48 (fun H locs (hP : va_P (q_D E) vwCl (q_cM E h0 a0 y2 g0) H) hD hS => ?_)
        refine lv_aload_n hx hb dX4_passWinter_49 rfl (lv_at hl 0 rfl) ?_
        refine q_get F q_K4 hP 0 rfl 5 (by decide) q_fX4_20 rfl dX4_passWinter_50 ?_
        refine lv_iload_n hx hb dX4_passWinter_53 rfl (lv_at hl 1 rfl) ?_
        refine lv_aload_n hx hb dX4_passWinter_54 rfl (lv_at hl 0 rfl) ?_
        refine q_get F q_K4 hP 0 rfl 2 (by decide) q_fX4_7 rfl dX4_passWinter_55 ?_
        refine lv_iload_n hx hb dX4_passWinter_58 rfl (lv_at hl 1 rfl) ?_
        obtain ⟨eg3, h⟩ := q_og h
        refine q_iald F hP 1 rfl eg3 dX4_passWinter_59 ?_
        refine lv_iconst (v := 4) hx hb dX4_passWinter_60 (by decide) ?_
        refine lv_icmp_ne (tgt := 68) hx hb dX4_passWinter_61 (by decide) (fun c4 => ?_) (fun c4 => ?_)
        · replace h := q_i2 c4 h
          refine lv_aload_n hx hb dX4_passWinter_68 rfl (lv_at hl 0 rfl) ?_
          refine q_get F q_K4 hP 0 rfl 5 (by decide) q_fX4_20 rfl dX4_passWinter_69 ?_
          refine lv_iload_n hx hb dX4_passWinter_72 rfl (lv_at hl 1 rfl) ?_
          obtain ⟨eg5, h⟩ := q_og h
          refine q_iald F hP 4 rfl eg5 dX4_passWinter_73 ?_
          obtain ⟨eg6, h⟩ := q_og h
          obtain ⟨y7, ey7, h⟩ := q_ol h
          refine q_iast F hP hD hS 4 rfl eg6 (by rw [ey7]; rfl) dX4_passWinter_74 (fun H locs (hP : va_P (q_D E) vwCl (q_cM E h0 a0 y7 g0) H) hD hS => ?_)
          obtain ⟨x8, ex8, h⟩ := q_ol h
          refine lv_iinc (v := x8) (lv' := [(1, .int x8), (0, .ref h0)]) hx hb dX4_passWinter_75 hl (k := 1) rfl (by rw [ex8]; rfl) (by decide) rfl (fun ls hl => ?_)
          refine lv_goto (tgt := 2) hx hb dX4_passWinter_78 (by decide) ?_
          exact ih2 x8 y7 H _ hP hD hS ls (lv_sub hl [1, 0] rfl) h
        · replace h := q_i1 c4 h
          refine lv_iconst (v := 0) hx hb dX4_passWinter_64 (by decide) ?_
          refine lv_goto (tgt := 74) hx hb dX4_passWinter_65 (by decide) ?_
          obtain ⟨eg9, h⟩ := q_og h
          obtain ⟨y10, ey10, h⟩ := q_ol h
          refine q_iast F hP hD hS 4 rfl eg9 (by rw [ey10]; rfl) dX4_passWinter_74 (fun H locs (hP : va_P (q_D E) vwCl (q_cM E h0 a0 y10 g0) H) hD hS => ?_)
          obtain ⟨x11, ex11, h⟩ := q_ol h
          refine lv_iinc (v := x11) (lv' := [(1, .int x11), (0, .ref h0)]) hx hb dX4_passWinter_75 hl (k := 1) rfl (by rw [ex11]; rfl) (by decide) rfl (fun ls hl => ?_)
          refine lv_goto (tgt := 2) hx hb dX4_passWinter_78 (by decide) ?_
          exact ih2 x11 y10 H _ hP hD hS ls (lv_sub hl [1, 0] rfl) h
      intro v1 s0 H locs hP hD hS ls hl h
      rw [zX4_passWinter_2_s] at h
      unfold jX4_passWinter_2 at h
      refine lv_iload_n hx hb dX4_passWinter_2 rfl (lv_at hl 1 rfl) ?_
      refine lv_aload_n hx hb dX4_passWinter_3 rfl (lv_at hl 0 rfl) ?_
      refine q_get F q_K4 hP 0 rfl 1 (by decide) q_fX4_108 rfl dX4_passWinter_4 ?_
      refine lv_icmp_ge (tgt := 81) hx hb dX4_passWinter_7 (by decide) (fun c12 => ?_) (fun c12 => ?_)
      · replace h := q_i1 c12 h
        cases h
        exact q_wV F hr hlk dX4_passWinter_81 hP hD hS
      · replace h := q_i2 c12 h
        refine lv_aload_n hx hb dX4_passWinter_10 rfl (lv_at hl 0 rfl) ?_
        refine q_get F q_K4 hP 0 rfl 4 (by decide) q_fX4_16 rfl dX4_passWinter_11 ?_
        refine lv_iload_n hx hb dX4_passWinter_14 rfl (lv_at hl 1 rfl) ?_
        obtain ⟨eg13, h⟩ := q_og h
        refine q_zald F hP 3 rfl eg13 dX4_passWinter_15 ?_
        refine lv_if_eq (tgt := 75) hx hb dX4_passWinter_16 (by decide) (fun c14 => ?_) (fun c14 => ?_)
        · replace h := q_i1 c14 h
          obtain ⟨x15, ex15, h⟩ := q_ol h
          refine lv_iinc (v := x15) (lv' := [(1, .int x15), (0, .ref h0)]) hx hb dX4_passWinter_75 hl (k := 1) rfl (by rw [ex15]; rfl) (by decide) rfl (fun ls hl => ?_)
          refine lv_goto (tgt := 2) hx hb dX4_passWinter_78 (by decide) ?_
          exact ih2 x15 s0 H _ hP hD hS ls (lv_sub hl [1, 0] rfl) h
        · replace h := q_i2 c14 h
          refine lv_aload_n hx hb dX4_passWinter_19 rfl (lv_at hl 0 rfl) ?_
          refine q_get F q_K4 hP 0 rfl 3 (by decide) q_fX4_13 rfl dX4_passWinter_20 ?_
          refine lv_iload_n hx hb dX4_passWinter_23 rfl (lv_at hl 1 rfl) ?_
          refine lv_aload_n hx hb dX4_passWinter_24 rfl (lv_at hl 0 rfl) ?_
          refine q_get F q_K4 hP 0 rfl 3 (by decide) q_fX4_13 rfl dX4_passWinter_25 ?_
          refine lv_iload_n hx hb dX4_passWinter_28 rfl (lv_at hl 1 rfl) ?_
          obtain ⟨eg16, h⟩ := q_og h
          refine q_iald F hP 2 rfl eg16 dX4_passWinter_29 ?_
          refine lv_bipush (v := 6) hx hb dX4_passWinter_30 (by decide) ?_
          refine lv_icmp_le (tgt := 40) hx hb dX4_passWinter_32 (by decide) (fun c17 => ?_) (fun c17 => ?_)
          · replace h := q_i1 c17 h
            refine lv_aload_n hx hb dX4_passWinter_40 rfl (lv_at hl 0 rfl) ?_
            refine q_get F q_K4 hP 0 rfl 3 (by decide) q_fX4_13 rfl dX4_passWinter_41 ?_
            refine lv_iload_n hx hb dX4_passWinter_44 rfl (lv_at hl 1 rfl) ?_
            obtain ⟨eg18, h⟩ := q_og h
            refine q_iald F hP 2 rfl eg18 dX4_passWinter_45 ?_
            refine lv_iconst (v := 3) hx hb dX4_passWinter_46 (by decide) ?_
            refine lv_iadd hx hb dX4_passWinter_47 ?_
            exact K48 v1 v1 ((s0 3 v1.toNatClampNeg) + (3 : Int32)) s0 H _ hP hD hS ls (lv_sub hl [0, 1] rfl) h
          · replace h := q_i2 c17 h
            refine lv_bipush (v := 9) hx hb dX4_passWinter_35 (by decide) ?_
            refine lv_goto (tgt := 48) hx hb dX4_passWinter_37 (by decide) ?_
            exact K48 v1 v1 (9 : Int32) s0 H _ hP hD hS ls (lv_sub hl [0, 1] rfl) h
  unfold zX4_passWinter at h
  refine lv_iconst (v := 0) hx hb dX4_passWinter_0 (by decide) ?_
  refine lv_istore_n (lv' := [(1, .int (0 : Int32)), (0, .ref h0)]) hx hb dX4_passWinter_1 rfl hl (by decide) rfl (fun ls hl => ?_)
  exact K2 70000 (0 : Int32) s0 _ _ hP hD hS ls (lv_sub hl [1, 0] rfl) h
def jX4_save_2 (k2 : q_S → Int32 → Option (q_S)) (s0 : q_S) (v1 : Int32) : Option (q_S) := if (4 : Int32) ≤ v1 then (q_lt (q_u s0 25 0 (s0 10 0)) fun y2 => some y2) else (q_gd (q_ib v1 4) (q_gd (q_ib v1 4) (q_lt (q_u s0 22 v1.toNatClampNeg (s0 3 v1.toNatClampNeg)) fun y5 => q_gd (q_ib v1 4) (q_gd (q_ib v1 4) (q_lt (q_u y5 23 v1.toNatClampNeg (y5 5 v1.toNatClampNeg)) fun y8 => q_gd (q_ib v1 4) (q_gd (q_ib v1 4) (q_lt (q_u y8 24 v1.toNatClampNeg (y8 6 v1.toNatClampNeg)) fun y11 => q_lt (v1 + 1) fun x12 => k2 y11 x12)))))))
def zX4_save_2  : Nat → q_S → Int32 → Option (q_S)
  | 0, _, _ => none
  | n + 1, s0, v1 => jX4_save_2  (zX4_save_2  n) s0 v1
theorem zX4_save_2_s  (n : Nat) (s0 : q_S) (v1 : Int32) : zX4_save_2  (n + 1) s0 v1 = jX4_save_2  (zX4_save_2  n) s0 v1 := rfl
def zX4_save (s0 : q_S) : Option (q_S) := zX4_save_2  70000 s0 (0 : Int32)
set_option maxHeartbeats 4000000 in
set_option maxRecDepth 100000 in
theorem kX4_save (l : Launch) (E : q_E) (h0 : Nat) (a0 : Nat → Nat) (s0 : q_S) (g0 : q_G)  (sz : Nat) (rs0 : q_S) (h : zX4_save s0 = some rs0) : q_MU l E yX4_save cX4_save 2 none 1 [.ref h0] sz (q_cM E h0 a0 s0 g0) (q_cM E h0 a0 rs0 g0) none := by
  refine q_MU.intro (by decide) (Nat.le_of_ble_eq_true rfl) ?_
  intro p e s m args below meth c A X hP hD hA hAl ls hl
  obtain ⟨hx, hb, hml, hr, hlk, hown, hB, hE⟩ := X
  have hown : s.vm.findClass RX4 = some m.cls := hown
  have F : q_Fx p s m c E RX4 cX4_save 2 := ⟨hx, hb, hml, hown, hB, hE⟩
  have hS : va_S A s.heap s.heap [] := va_S.rf
  have hl : lv_has ls 2 [(0, .ref h0)] := hl
  have K2 : ∀ (n2_ : Nat), ∀ (v1 : Int32) (s0 : q_S), ∀ (H : Heap) (locs : List Loc), va_P (q_D E) vwCl (q_cM E h0 a0 s0 g0) H → va_D A (q_cM E h0 a0 s0 g0) → va_S A s.heap H locs → ∀ ls : Array Slot, lv_has ls 2 [(0, .ref h0), (1, .int v1)] → zX4_save_2  n2_ s0 v1 = some rs0 → W p l e (q_rm 1) s m args below meth c H locs 0 0 (MQ below (q_muQ E A (q_cM E h0 a0 rs0 g0) none) args s 0 0 A) (F0 m 2 ls []) := by
    intro n2_
    induction n2_ with
    | zero => intro v1 s0 H locs hP hD hS ls hl h; exact q_nn h
    | succ n2_ ih2 =>
      intro v1 s0 H locs hP hD hS ls hl h
      rw [zX4_save_2_s] at h
      unfold jX4_save_2 at h
      refine lv_iload_n hx hb dX4_save_2 rfl (lv_at hl 1 rfl) ?_
      refine lv_iconst (v := 4) hx hb dX4_save_3 (by decide) ?_
      refine lv_icmp_ge (tgt := 49) hx hb dX4_save_4 (by decide) (fun c1 => ?_) (fun c1 => ?_)
      · replace h := q_i1 c1 h
        refine lv_aload_n hx hb dX4_save_49 rfl (lv_at hl 0 rfl) ?_
        refine lv_aload_n hx hb dX4_save_50 rfl (lv_at hl 0 rfl) ?_
        refine q_get F q_K4 hP 0 rfl 10 (by decide) q_fX4_117 rfl dX4_save_51 ?_
        obtain ⟨y2, ey2, h⟩ := q_ol h
        refine q_put F q_K4 hP hD hS 0 rfl 25 (by decide) q_fX4_137 rfl rfl rfl (Nat.le_of_ble_eq_true rfl) (by rw [ey2]; rfl) dX4_save_54 (fun H locs (hP : va_P (q_D E) vwCl (q_cM E h0 a0 y2 g0) H) hD hS => ?_)
        cases h
        exact q_wV F hr hlk dX4_save_57 hP hD hS
      · replace h := q_i2 c1 h
        refine lv_aload_n hx hb dX4_save_7 rfl (lv_at hl 0 rfl) ?_
        refine q_get F q_K4 hP 0 rfl 22 (by decide) q_fX4_45 rfl dX4_save_8 ?_
        refine lv_iload_n hx hb dX4_save_11 rfl (lv_at hl 1 rfl) ?_
        refine lv_aload_n hx hb dX4_save_12 rfl (lv_at hl 0 rfl) ?_
        refine q_get F q_K4 hP 0 rfl 3 (by decide) q_fX4_13 rfl dX4_save_13 ?_
        refine lv_iload_n hx hb dX4_save_16 rfl (lv_at hl 1 rfl) ?_
        obtain ⟨eg3, h⟩ := q_og h
        refine q_iald F hP 2 rfl eg3 dX4_save_17 ?_
        obtain ⟨eg4, h⟩ := q_og h
        obtain ⟨y5, ey5, h⟩ := q_ol h
        refine q_iast F hP hD hS 12 rfl eg4 (by rw [ey5]; rfl) dX4_save_18 (fun H locs (hP : va_P (q_D E) vwCl (q_cM E h0 a0 y5 g0) H) hD hS => ?_)
        refine lv_aload_n hx hb dX4_save_19 rfl (lv_at hl 0 rfl) ?_
        refine q_get F q_K4 hP 0 rfl 23 (by decide) q_fX4_48 rfl dX4_save_20 ?_
        refine lv_iload_n hx hb dX4_save_23 rfl (lv_at hl 1 rfl) ?_
        refine lv_aload_n hx hb dX4_save_24 rfl (lv_at hl 0 rfl) ?_
        refine q_get F q_K4 hP 0 rfl 5 (by decide) q_fX4_20 rfl dX4_save_25 ?_
        refine lv_iload_n hx hb dX4_save_28 rfl (lv_at hl 1 rfl) ?_
        obtain ⟨eg6, h⟩ := q_og h
        refine q_iald F hP 4 rfl eg6 dX4_save_29 ?_
        obtain ⟨eg7, h⟩ := q_og h
        obtain ⟨y8, ey8, h⟩ := q_ol h
        refine q_iast F hP hD hS 13 rfl eg7 (by rw [ey8]; rfl) dX4_save_30 (fun H locs (hP : va_P (q_D E) vwCl (q_cM E h0 a0 y8 g0) H) hD hS => ?_)
        refine lv_aload_n hx hb dX4_save_31 rfl (lv_at hl 0 rfl) ?_
        refine q_get F q_K4 hP 0 rfl 24 (by decide) q_fX4_51 rfl dX4_save_32 ?_
        refine lv_iload_n hx hb dX4_save_35 rfl (lv_at hl 1 rfl) ?_
        refine lv_aload_n hx hb dX4_save_36 rfl (lv_at hl 0 rfl) ?_
        refine q_get F q_K4 hP 0 rfl 6 (by decide) q_fX4_23 rfl dX4_save_37 ?_
        refine lv_iload_n hx hb dX4_save_40 rfl (lv_at hl 1 rfl) ?_
        obtain ⟨eg9, h⟩ := q_og h
        refine q_iald F hP 5 rfl eg9 dX4_save_41 ?_
        obtain ⟨eg10, h⟩ := q_og h
        obtain ⟨y11, ey11, h⟩ := q_ol h
        refine q_iast F hP hD hS 14 rfl eg10 (by rw [ey11]; rfl) dX4_save_42 (fun H locs (hP : va_P (q_D E) vwCl (q_cM E h0 a0 y11 g0) H) hD hS => ?_)
        obtain ⟨x12, ex12, h⟩ := q_ol h
        refine lv_iinc (v := x12) (lv' := [(1, .int x12), (0, .ref h0)]) hx hb dX4_save_43 hl (k := 1) rfl (by rw [ex12]; rfl) (by decide) rfl (fun ls hl => ?_)
        refine lv_goto (tgt := 2) hx hb dX4_save_46 (by decide) ?_
        exact ih2 x12 y11 H _ hP hD hS ls (lv_sub hl [1, 0] rfl) h
  unfold zX4_save at h
  refine lv_iconst (v := 0) hx hb dX4_save_0 (by decide) ?_
  refine lv_istore_n (lv' := [(1, .int (0 : Int32)), (0, .ref h0)]) hx hb dX4_save_1 rfl hl (by decide) rfl (fun ls hl => ?_)
  exact K2 70000 (0 : Int32) s0 _ _ hP hD hS ls (lv_sub hl [1, 0] rfl) h
def jX4_load_2 (k2 : q_S → Int32 → Option (q_S)) (s0 : q_S) (v1 : Int32) : Option (q_S) := if (4 : Int32) ≤ v1 then (q_lt (q_u s0 10 0 (s0 25 0)) fun y2 => some y2) else (q_gd (q_ib v1 4) (q_gd (q_ib v1 4) (q_lt (q_u s0 3 v1.toNatClampNeg (s0 22 v1.toNatClampNeg)) fun y5 => q_gd (q_ib v1 4) (q_gd (q_ib v1 4) (q_lt (q_u y5 5 v1.toNatClampNeg (y5 23 v1.toNatClampNeg)) fun y8 => q_gd (q_ib v1 4) (q_gd (q_ib v1 4) (q_lt (q_u y8 6 v1.toNatClampNeg (y8 24 v1.toNatClampNeg)) fun y11 => q_lt (v1 + 1) fun x12 => k2 y11 x12)))))))
def zX4_load_2  : Nat → q_S → Int32 → Option (q_S)
  | 0, _, _ => none
  | n + 1, s0, v1 => jX4_load_2  (zX4_load_2  n) s0 v1
theorem zX4_load_2_s  (n : Nat) (s0 : q_S) (v1 : Int32) : zX4_load_2  (n + 1) s0 v1 = jX4_load_2  (zX4_load_2  n) s0 v1 := rfl
def zX4_load (s0 : q_S) : Option (q_S) := zX4_load_2  70000 s0 (0 : Int32)
set_option maxHeartbeats 4000000 in
set_option maxRecDepth 100000 in
theorem kX4_load (l : Launch) (E : q_E) (h0 : Nat) (a0 : Nat → Nat) (s0 : q_S) (g0 : q_G)  (sz : Nat) (rs0 : q_S) (h : zX4_load s0 = some rs0) : q_MU l E yX4_load cX4_load 2 none 1 [.ref h0] sz (q_cM E h0 a0 s0 g0) (q_cM E h0 a0 rs0 g0) none := by
  refine q_MU.intro (by decide) (Nat.le_of_ble_eq_true rfl) ?_
  intro p e s m args below meth c A X hP hD hA hAl ls hl
  obtain ⟨hx, hb, hml, hr, hlk, hown, hB, hE⟩ := X
  have hown : s.vm.findClass RX4 = some m.cls := hown
  have F : q_Fx p s m c E RX4 cX4_load 2 := ⟨hx, hb, hml, hown, hB, hE⟩
  have hS : va_S A s.heap s.heap [] := va_S.rf
  have hl : lv_has ls 2 [(0, .ref h0)] := hl
  have K2 : ∀ (n2_ : Nat), ∀ (v1 : Int32) (s0 : q_S), ∀ (H : Heap) (locs : List Loc), va_P (q_D E) vwCl (q_cM E h0 a0 s0 g0) H → va_D A (q_cM E h0 a0 s0 g0) → va_S A s.heap H locs → ∀ ls : Array Slot, lv_has ls 2 [(0, .ref h0), (1, .int v1)] → zX4_load_2  n2_ s0 v1 = some rs0 → W p l e (q_rm 1) s m args below meth c H locs 0 0 (MQ below (q_muQ E A (q_cM E h0 a0 rs0 g0) none) args s 0 0 A) (F0 m 2 ls []) := by
    intro n2_
    induction n2_ with
    | zero => intro v1 s0 H locs hP hD hS ls hl h; exact q_nn h
    | succ n2_ ih2 =>
      intro v1 s0 H locs hP hD hS ls hl h
      rw [zX4_load_2_s] at h
      unfold jX4_load_2 at h
      refine lv_iload_n hx hb dX4_load_2 rfl (lv_at hl 1 rfl) ?_
      refine lv_iconst (v := 4) hx hb dX4_load_3 (by decide) ?_
      refine lv_icmp_ge (tgt := 49) hx hb dX4_load_4 (by decide) (fun c1 => ?_) (fun c1 => ?_)
      · replace h := q_i1 c1 h
        refine lv_aload_n hx hb dX4_load_49 rfl (lv_at hl 0 rfl) ?_
        refine lv_aload_n hx hb dX4_load_50 rfl (lv_at hl 0 rfl) ?_
        refine q_get F q_K4 hP 0 rfl 25 (by decide) q_fX4_137 rfl dX4_load_51 ?_
        obtain ⟨y2, ey2, h⟩ := q_ol h
        refine q_put F q_K4 hP hD hS 0 rfl 10 (by decide) q_fX4_117 rfl rfl rfl (Nat.le_of_ble_eq_true rfl) (by rw [ey2]; rfl) dX4_load_54 (fun H locs (hP : va_P (q_D E) vwCl (q_cM E h0 a0 y2 g0) H) hD hS => ?_)
        cases h
        exact q_wV F hr hlk dX4_load_57 hP hD hS
      · replace h := q_i2 c1 h
        refine lv_aload_n hx hb dX4_load_7 rfl (lv_at hl 0 rfl) ?_
        refine q_get F q_K4 hP 0 rfl 3 (by decide) q_fX4_13 rfl dX4_load_8 ?_
        refine lv_iload_n hx hb dX4_load_11 rfl (lv_at hl 1 rfl) ?_
        refine lv_aload_n hx hb dX4_load_12 rfl (lv_at hl 0 rfl) ?_
        refine q_get F q_K4 hP 0 rfl 22 (by decide) q_fX4_45 rfl dX4_load_13 ?_
        refine lv_iload_n hx hb dX4_load_16 rfl (lv_at hl 1 rfl) ?_
        obtain ⟨eg3, h⟩ := q_og h
        refine q_iald F hP 12 rfl eg3 dX4_load_17 ?_
        obtain ⟨eg4, h⟩ := q_og h
        obtain ⟨y5, ey5, h⟩ := q_ol h
        refine q_iast F hP hD hS 2 rfl eg4 (by rw [ey5]; rfl) dX4_load_18 (fun H locs (hP : va_P (q_D E) vwCl (q_cM E h0 a0 y5 g0) H) hD hS => ?_)
        refine lv_aload_n hx hb dX4_load_19 rfl (lv_at hl 0 rfl) ?_
        refine q_get F q_K4 hP 0 rfl 5 (by decide) q_fX4_20 rfl dX4_load_20 ?_
        refine lv_iload_n hx hb dX4_load_23 rfl (lv_at hl 1 rfl) ?_
        refine lv_aload_n hx hb dX4_load_24 rfl (lv_at hl 0 rfl) ?_
        refine q_get F q_K4 hP 0 rfl 23 (by decide) q_fX4_48 rfl dX4_load_25 ?_
        refine lv_iload_n hx hb dX4_load_28 rfl (lv_at hl 1 rfl) ?_
        obtain ⟨eg6, h⟩ := q_og h
        refine q_iald F hP 13 rfl eg6 dX4_load_29 ?_
        obtain ⟨eg7, h⟩ := q_og h
        obtain ⟨y8, ey8, h⟩ := q_ol h
        refine q_iast F hP hD hS 4 rfl eg7 (by rw [ey8]; rfl) dX4_load_30 (fun H locs (hP : va_P (q_D E) vwCl (q_cM E h0 a0 y8 g0) H) hD hS => ?_)
        refine lv_aload_n hx hb dX4_load_31 rfl (lv_at hl 0 rfl) ?_
        refine q_get F q_K4 hP 0 rfl 6 (by decide) q_fX4_23 rfl dX4_load_32 ?_
        refine lv_iload_n hx hb dX4_load_35 rfl (lv_at hl 1 rfl) ?_
        refine lv_aload_n hx hb dX4_load_36 rfl (lv_at hl 0 rfl) ?_
        refine q_get F q_K4 hP 0 rfl 24 (by decide) q_fX4_51 rfl dX4_load_37 ?_
        refine lv_iload_n hx hb dX4_load_40 rfl (lv_at hl 1 rfl) ?_
        obtain ⟨eg9, h⟩ := q_og h
        refine q_iald F hP 14 rfl eg9 dX4_load_41 ?_
        obtain ⟨eg10, h⟩ := q_og h
        obtain ⟨y11, ey11, h⟩ := q_ol h
        refine q_iast F hP hD hS 5 rfl eg10 (by rw [ey11]; rfl) dX4_load_42 (fun H locs (hP : va_P (q_D E) vwCl (q_cM E h0 a0 y11 g0) H) hD hS => ?_)
        obtain ⟨x12, ex12, h⟩ := q_ol h
        refine lv_iinc (v := x12) (lv' := [(1, .int x12), (0, .ref h0)]) hx hb dX4_load_43 hl (k := 1) rfl (by rw [ex12]; rfl) (by decide) rfl (fun ls hl => ?_)
        refine lv_goto (tgt := 2) hx hb dX4_load_46 (by decide) ?_
        exact ih2 x12 y11 H _ hP hD hS ls (lv_sub hl [1, 0] rfl) h
  unfold zX4_load at h
  refine lv_iconst (v := 0) hx hb dX4_load_0 (by decide) ?_
  refine lv_istore_n (lv' := [(1, .int (0 : Int32)), (0, .ref h0)]) hx hb dX4_load_1 rfl hl (by decide) rfl (fun ls hl => ?_)
  exact K2 70000 (0 : Int32) s0 _ _ hP hD hS ls (lv_sub hl [1, 0] rfl) h
def jX4_wouldBits_4 (s0 : q_S) (v1 : Int32) (k4 : Int32 → Int32 → Option (Int32)) (v2 : Int32) (v3 : Int32) : Option (Int32) := if (s0 7 0) ≤ v3 then (some v2) else (q_b1 (zX4_would s0 v1 v3) fun x2 => if x2 = 0 then (q_lt (v2 ||| (0 : Int32)) fun x5 => q_lt (v3 + 1) fun x6 => k4 x5 x6) else (q_lt (v2 ||| ((1 : Int32) <<< (v3 &&& 31))) fun x7 => q_lt (v3 + 1) fun x8 => k4 x7 x8))
def zX4_wouldBits_4 (s0 : q_S) (v1 : Int32) : Nat → Int32 → Int32 → Option (Int32)
  | 0, _, _ => none
  | n + 1, v2, v3 => jX4_wouldBits_4 s0 v1 (zX4_wouldBits_4 s0 v1 n) v2 v3
theorem zX4_wouldBits_4_s (s0 : q_S) (v1 : Int32) (n : Nat) (v2 : Int32) (v3 : Int32) : zX4_wouldBits_4 s0 v1 (n + 1) v2 v3 = jX4_wouldBits_4 s0 v1 (zX4_wouldBits_4 s0 v1 n) v2 v3 := rfl
def zX4_wouldBits (s0 : q_S) (v1 : Int32) : Option (Int32) := zX4_wouldBits_4 s0 v1 70000 (0 : Int32) (0 : Int32)
set_option maxHeartbeats 4000000 in
set_option maxRecDepth 100000 in
theorem kX4_wouldBits (l : Launch) (E : q_E) (h0 : Nat) (a0 : Nat → Nat) (s0 : q_S) (g0 : q_G) (v1 : Int32) (r : Int32) (h : zX4_wouldBits s0 v1 = some r) : q_RO l E yX4_wouldBits cX4_wouldBits 4 (some .int) 3 [.ref h0, .int v1] (q_cM E h0 a0 s0 g0) (.int r) := by
  refine q_RO.intro (by decide) (Nat.le_of_ble_eq_true rfl) ?_
  intro p e s m args below meth c X hP ls hl
  obtain ⟨hx, hb, hml, hr, hlk, hown, hB, hE⟩ := X
  have hown : s.vm.findClass RX4 = some m.cls := hown
  have F : q_Fx p s m c E RX4 cX4_wouldBits 4 := ⟨hx, hb, hml, hown, hB, hE⟩
  have hV := q_EV.here hE
  have hl : lv_has ls 4 [(0, .ref h0), (1, .int v1)] := hl
  have K4 : ∀ (n4_ : Nat), ∀ (v1 : Int32) (v2 : Int32) (v3 : Int32), ∀ ls : Array Slot, lv_has ls 4 [(0, .ref h0), (1, .int v1), (2, .int v2), (3, .int v3)] → zX4_wouldBits_4 s0 v1 n4_ v2 v3 = some r → W p l e (q_rm 3) s m args below meth c s.heap [] 0 0 (MQ below (q_roQ (.int r)) args s 0 0 q_no) (F0 m 4 ls []) := by
    intro n4_
    induction n4_ with
    | zero => intro v1 v2 v3 ls hl h; exact q_nn h
    | succ n4_ ih4 =>
      intro v1 v2 v3 ls hl h
      rw [zX4_wouldBits_4_s] at h
      unfold jX4_wouldBits_4 at h
      refine lv_iload_n hx hb dX4_wouldBits_4 rfl (lv_at hl 3 rfl) ?_
      refine lv_aload_n hx hb dX4_wouldBits_5 rfl (lv_at hl 0 rfl) ?_
      refine q_get F q_K4 hP 0 rfl 7 (by decide) q_fX4_111 rfl dX4_wouldBits_6 ?_
      refine lv_icmp_ge (tgt := 37) hx hb dX4_wouldBits_9 (by decide) (fun c1 => ?_) (fun c1 => ?_)
      · replace h := q_i1 c1 h
        refine lv_iload_n hx hb dX4_wouldBits_37 rfl (lv_at hl 2 rfl) ?_
        exact q_rI F hr hlk dX4_wouldBits_38 h
      · replace h := q_i2 c1 h
        refine lv_iload_n hx hb dX4_wouldBits_12 rfl (lv_at hl 2 rfl) ?_
        refine lv_aload_n hx hb dX4_wouldBits_13 rfl (lv_at hl 0 rfl) ?_
        refine lv_iload_n hx hb dX4_wouldBits_14 rfl (lv_at hl 1 rfl) ?_
        refine lv_iload_n hx hb dX4_wouldBits_15 rfl (lv_at hl 3 rfl) ?_
        obtain ⟨x2, c3, h⟩ := q_o1 h
        refine q_roV F (kX4_would l E h0 a0 s0 g0 v1 v3 x2 c3) q_cX4_would q_lX4_140 hV hP ⟨by decide, by decide⟩ (q0 := 0) rfl rfl rfl rfl ⟨_, hl⟩ (rest := [.int v2]) rfl (Nat.le_of_ble_eq_true rfl) dX4_wouldBits_16 ?_
        refine lv_if_eq (tgt := 28) hx hb dX4_wouldBits_19 (by decide) (fun c4 => ?_) (fun c4 => ?_)
        · replace h := q_i1 c4 h
          refine lv_iconst (v := 0) hx hb dX4_wouldBits_28 (by decide) ?_
          refine lv_ior hx hb dX4_wouldBits_29 ?_
          obtain ⟨x5, ex5, h⟩ := q_ol h
          refine q_top ex5 ?_
          refine lv_istore_n (lv' := [(2, .int x5), (0, .ref h0), (1, .int v1), (3, .int v3)]) hx hb dX4_wouldBits_30 rfl hl (by decide) rfl (fun ls hl => ?_)
          obtain ⟨x6, ex6, h⟩ := q_ol h
          refine lv_iinc (v := x6) (lv' := [(3, .int x6), (2, .int x5), (0, .ref h0), (1, .int v1)]) hx hb dX4_wouldBits_31 hl (k := 3) rfl (by rw [ex6]; rfl) (by decide) rfl (fun ls hl => ?_)
          refine lv_goto (tgt := 4) hx hb dX4_wouldBits_34 (by decide) ?_
          exact ih4 v1 x5 x6 ls (lv_sub hl [2, 3, 1, 0] rfl) h
        · replace h := q_i2 c4 h
          refine lv_iconst (v := 1) hx hb dX4_wouldBits_22 (by decide) ?_
          refine lv_iload_n hx hb dX4_wouldBits_23 rfl (lv_at hl 3 rfl) ?_
          refine lv_ishl hx hb dX4_wouldBits_24 ?_
          refine lv_goto (tgt := 29) hx hb dX4_wouldBits_25 (by decide) ?_
          refine lv_ior hx hb dX4_wouldBits_29 ?_
          obtain ⟨x7, ex7, h⟩ := q_ol h
          refine q_top ex7 ?_
          refine lv_istore_n (lv' := [(2, .int x7), (0, .ref h0), (1, .int v1), (3, .int v3)]) hx hb dX4_wouldBits_30 rfl hl (by decide) rfl (fun ls hl => ?_)
          obtain ⟨x8, ex8, h⟩ := q_ol h
          refine lv_iinc (v := x8) (lv' := [(3, .int x8), (2, .int x7), (0, .ref h0), (1, .int v1)]) hx hb dX4_wouldBits_31 hl (k := 3) rfl (by rw [ex8]; rfl) (by decide) rfl (fun ls hl => ?_)
          refine lv_goto (tgt := 4) hx hb dX4_wouldBits_34 (by decide) ?_
          exact ih4 v1 x7 x8 ls (lv_sub hl [2, 3, 1, 0] rfl) h
  unfold zX4_wouldBits at h
  refine lv_iconst (v := 0) hx hb dX4_wouldBits_0 (by decide) ?_
  refine lv_istore_n (lv' := [(2, .int (0 : Int32)), (0, .ref h0), (1, .int v1)]) hx hb dX4_wouldBits_1 rfl hl (by decide) rfl (fun ls hl => ?_)
  refine lv_iconst (v := 0) hx hb dX4_wouldBits_2 (by decide) ?_
  refine lv_istore_n (lv' := [(3, .int (0 : Int32)), (2, .int (0 : Int32)), (0, .ref h0), (1, .int v1)]) hx hb dX4_wouldBits_3 rfl hl (by decide) rfl (fun ls hl => ?_)
  exact K4 70000 v1 (0 : Int32) (0 : Int32) ls (lv_sub hl [2, 3, 1, 0] rfl) h
def zX4_paidBy_60 (s0 : q_S) (v1 : Int32) (v3 : Int32) (v4 : Int32) : Option (Int32 × q_S) := q_gd (q_ib v1 4) (q_lt ((s0 6 v1.toNatClampNeg) - v4) fun x2 => q_b1 (zX4_load s0) fun y3 => if v3 = 0 then (some ((-1 : Int32), y3)) else (some (x2, y3)))
def jX4_paidBy_13 (v1 : Int32) (v2 : Int32) (v4 : Int32) (k13 : q_S → Int32 → Int32 → Option (Int32 × q_S)) (s0 : q_S) (v3 : Int32) (v5 : Int32) : Option (Int32 × q_S) := if (s0 7 0) ≤ v5 then (zX4_paidBy_60 s0 v1 v3 v4) else (if v3 = 0 then (zX4_paidBy_60 s0 v1 v3 v4) else (q_b1 (zX4_isIn v2 v5) fun x8 => if x8 = 0 then (q_lt (v5 + 1) fun x11 => k13 s0 v3 x11) else (q_b1 (zX4_would s0 v1 v5) fun x12 => if x12 = 0 then (q_lt (v5 + 1) fun x15 => k13 s0 x12 x15) else (q_b1 (zX4_eats s0 v1 v5) fun y16 => q_lt (v5 + 1) fun x18 => k13 y16 x12 x18))))
def zX4_paidBy_13 (v1 : Int32) (v2 : Int32) (v4 : Int32) : Nat → q_S → Int32 → Int32 → Option (Int32 × q_S)
  | 0, _, _, _ => none
  | n + 1, s0, v3, v5 => jX4_paidBy_13 v1 v2 v4 (zX4_paidBy_13 v1 v2 v4 n) s0 v3 v5
theorem zX4_paidBy_13_s (v1 : Int32) (v2 : Int32) (v4 : Int32) (n : Nat) (s0 : q_S) (v3 : Int32) (v5 : Int32) : zX4_paidBy_13 v1 v2 v4 (n + 1) s0 v3 v5 = jX4_paidBy_13 v1 v2 v4 (zX4_paidBy_13 v1 v2 v4 n) s0 v3 v5 := rfl
def zX4_paidBy (s0 : q_S) (v1 : Int32) (v2 : Int32) : Option (Int32 × q_S) := q_gd (q_ib v1 4) (q_lt (s0 6 v1.toNatClampNeg) fun x20 => zX4_paidBy_13 v1 v2 x20 70000 s0 (1 : Int32) (0 : Int32))
set_option maxHeartbeats 4000000 in
set_option maxRecDepth 100000 in
theorem kX4_paidBy (l : Launch) (E : q_E) (h0 : Nat) (a0 : Nat → Nat) (s0 : q_S) (g0 : q_G) (v1 : Int32) (v2 : Int32) (sz : Nat) (r : Int32) (rs0 : q_S) (h : zX4_paidBy s0 v1 v2 = some (r, rs0)) : q_MU l E yX4_paidBy cX4_paidBy 6 (some .int) 3 [.ref h0, .int v1, .int v2] sz (q_cM E h0 a0 s0 g0) (q_cM E h0 a0 rs0 g0) (some (.int r)) := by
  refine q_MU.intro (by decide) (Nat.le_of_ble_eq_true rfl) ?_
  intro p e s m args below meth c A X hP hD hA hAl ls hl
  obtain ⟨hx, hb, hml, hr, hlk, hown, hB, hE⟩ := X
  have hown : s.vm.findClass RX4 = some m.cls := hown
  have F : q_Fx p s m c E RX4 cX4_paidBy 6 := ⟨hx, hb, hml, hown, hB, hE⟩
  have hS : va_S A s.heap s.heap [] := va_S.rf
  have hl : lv_has ls 6 [(0, .ref h0), (1, .int v1), (2, .int v2)] := hl
  have K60 : ∀ (v1 : Int32) (v3 : Int32) (v4 : Int32) (s0 : q_S), ∀ (H : Heap) (locs : List Loc), va_P (q_D E) vwCl (q_cM E h0 a0 s0 g0) H → va_D A (q_cM E h0 a0 s0 g0) → va_S A s.heap H locs → ∀ ls : Array Slot, lv_has ls 6 [(0, .ref h0), (1, .int v1), (3, .int v3), (4, .int v4)] → zX4_paidBy_60 s0 v1 v3 v4 = some (r, rs0) → W p l e (q_rm 3) s m args below meth c H locs 0 0 (MQ below (q_muQ E A (q_cM E h0 a0 rs0 g0) (some (.int r))) args s 0 0 A) (F0 m 60 ls []) := by
    intro v1 v3 v4 s0 H locs hP hD hS ls hl h
    unfold zX4_paidBy_60 at h
    refine lv_aload_n hx hb dX4_paidBy_60 rfl (lv_at hl 0 rfl) ?_
    refine q_get F q_K4 hP 0 rfl 6 (by decide) q_fX4_23 rfl dX4_paidBy_61 ?_
    refine lv_iload_n hx hb dX4_paidBy_64 rfl (lv_at hl 1 rfl) ?_
    obtain ⟨eg1, h⟩ := q_og h
    refine q_iald F hP 5 rfl eg1 dX4_paidBy_65 ?_
    refine lv_iload hx hb dX4_paidBy_66 (lv_at hl 3 rfl) ?_
    refine lv_isub hx hb dX4_paidBy_68 ?_
    obtain ⟨x2, ex2, h⟩ := q_ol h
    refine q_top ex2 ?_
    refine lv_istore (lv' := [(5, .int x2), (0, .ref h0), (1, .int v1), (3, .int v3), (4, .int v4)]) hx hb dX4_paidBy_69 hl (by decide) rfl (fun ls hl => ?_)
    refine lv_aload_n hx hb dX4_paidBy_71 rfl (lv_at hl 1 rfl) ?_
    obtain ⟨y3, c4, h⟩ := q_o1 h
    refine q_muV F (kX4_load l E h0 a0 s0 g0 H.size y3 c4) q_cX4_load q_lX4_146 (q_s_M_M_0w E h0 a0 s0 g0 y3 g0) hP hD hS hA hAl ⟨by decide, by decide⟩ (q0 := 0) rfl rfl rfl rfl ⟨_, hl⟩ (rest := []) rfl (Nat.le_of_ble_eq_true rfl) dX4_paidBy_72 (fun H locs (hP : va_P (q_D E) vwCl (q_cM E h0 a0 y3 g0) H) hD hS => ?_)
    refine lv_iload_n hx hb dX4_paidBy_75 rfl (lv_at hl 3 rfl) ?_
    refine lv_if_eq (tgt := 84) hx hb dX4_paidBy_76 (by decide) (fun c5 => ?_) (fun c5 => ?_)
    · replace h := q_i1 c5 h
      refine lv_iconst (v := (-1)) hx hb dX4_paidBy_84 (by decide) ?_
      cases h
      exact q_wI F hr hlk dX4_paidBy_85 hP hD hS
    · replace h := q_i2 c5 h
      refine lv_iload hx hb dX4_paidBy_79 (lv_at hl 0 rfl) ?_
      refine lv_goto (tgt := 85) hx hb dX4_paidBy_81 (by decide) ?_
      cases h
      exact q_wI F hr hlk dX4_paidBy_85 hP hD hS
  have K13 : ∀ (n13_ : Nat), ∀ (v1 : Int32) (v2 : Int32) (v3 : Int32) (v4 : Int32) (v5 : Int32) (s0 : q_S), ∀ (H : Heap) (locs : List Loc), va_P (q_D E) vwCl (q_cM E h0 a0 s0 g0) H → va_D A (q_cM E h0 a0 s0 g0) → va_S A s.heap H locs → ∀ ls : Array Slot, lv_has ls 6 [(0, .ref h0), (1, .int v1), (2, .int v2), (3, .int v3), (4, .int v4), (5, .int v5)] → zX4_paidBy_13 v1 v2 v4 n13_ s0 v3 v5 = some (r, rs0) → W p l e (q_rm 3) s m args below meth c H locs 0 0 (MQ below (q_muQ E A (q_cM E h0 a0 rs0 g0) (some (.int r))) args s 0 0 A) (F0 m 13 ls []) := by
    intro n13_
    induction n13_ with
    | zero => intro v1 v2 v3 v4 v5 s0 H locs hP hD hS ls hl h; exact q_nn h
    | succ n13_ ih13 =>
      intro v1 v2 v3 v4 v5 s0 H locs hP hD hS ls hl h
      rw [zX4_paidBy_13_s] at h
      unfold jX4_paidBy_13 at h
      refine lv_iload hx hb dX4_paidBy_13 (lv_at hl 5 rfl) ?_
      refine lv_aload_n hx hb dX4_paidBy_15 rfl (lv_at hl 0 rfl) ?_
      refine q_get F q_K4 hP 0 rfl 7 (by decide) q_fX4_111 rfl dX4_paidBy_16 ?_
      refine lv_icmp_ge (tgt := 60) hx hb dX4_paidBy_19 (by decide) (fun c6 => ?_) (fun c6 => ?_)
      · replace h := q_i1 c6 h
        exact K60 v1 v3 v4 s0 H _ hP hD hS ls (lv_sub hl [0, 1, 3, 4] rfl) h
      · replace h := q_i2 c6 h
        refine lv_iload_n hx hb dX4_paidBy_22 rfl (lv_at hl 3 rfl) ?_
        refine lv_if_eq (tgt := 60) hx hb dX4_paidBy_23 (by decide) (fun c7 => ?_) (fun c7 => ?_)
        · replace h := q_i1 c7 h
          exact K60 v1 v3 v4 s0 H _ hP hD hS ls (lv_sub hl [0, 1, 3, 4] rfl) h
        · replace h := q_i2 c7 h
          refine lv_iload_n hx hb dX4_paidBy_26 rfl (lv_at hl 2 rfl) ?_
          refine lv_iload hx hb dX4_paidBy_27 (lv_at hl 5 rfl) ?_
          obtain ⟨x8, c9, h⟩ := q_o1 h
          refine q_roS F (kX4_isIn l E  v2 v5 x8 c9) q_cX4_isIn q_lX4_126 (q_EV.go F.2.2.2.2.2 hAl hS) (fun k q h => by simp at h) ⟨by decide, by decide⟩ rfl ⟨_, hl⟩ (rest := []) rfl (Nat.le_of_ble_eq_true rfl) dX4_paidBy_29 ?_
          refine lv_if_eq (tgt := 54) hx hb dX4_paidBy_32 (by decide) (fun c10 => ?_) (fun c10 => ?_)
          · replace h := q_i1 c10 h
            obtain ⟨x11, ex11, h⟩ := q_ol h
            refine lv_iinc (v := x11) (lv' := [(5, .int x11), (0, .ref h0), (1, .int v1), (2, .int v2), (3, .int v3), (4, .int v4)]) hx hb dX4_paidBy_54 hl (k := 5) rfl (by rw [ex11]; rfl) (by decide) rfl (fun ls hl => ?_)
            refine lv_goto (tgt := 13) hx hb dX4_paidBy_57 (by decide) ?_
            exact ih13 v1 v2 v3 v4 x11 s0 H _ hP hD hS ls (lv_sub hl [1, 2, 3, 4, 5, 0] rfl) h
          · replace h := q_i2 c10 h
            refine lv_aload_n hx hb dX4_paidBy_35 rfl (lv_at hl 0 rfl) ?_
            refine lv_iload_n hx hb dX4_paidBy_36 rfl (lv_at hl 1 rfl) ?_
            refine lv_iload hx hb dX4_paidBy_37 (lv_at hl 5 rfl) ?_
            obtain ⟨x12, c13, h⟩ := q_o1 h
            refine q_roV F (kX4_would l E h0 a0 s0 g0 v1 v5 x12 c13) q_cX4_would q_lX4_140 (q_EV.go F.2.2.2.2.2 hAl hS) hP ⟨by decide, by decide⟩ (q0 := 0) rfl rfl rfl rfl ⟨_, hl⟩ (rest := []) rfl (Nat.le_of_ble_eq_true rfl) dX4_paidBy_39 ?_
            refine lv_istore_n (lv' := [(3, .int x12), (0, .ref h0), (1, .int v1), (2, .int v2), (4, .int v4), (5, .int v5)]) hx hb dX4_paidBy_42 rfl hl (by decide) rfl (fun ls hl => ?_)
            refine lv_iload_n hx hb dX4_paidBy_43 rfl (lv_at hl 0 rfl) ?_
            refine lv_if_eq (tgt := 54) hx hb dX4_paidBy_44 (by decide) (fun c14 => ?_) (fun c14 => ?_)
            · replace h := q_i1 c14 h
              obtain ⟨x15, ex15, h⟩ := q_ol h
              refine lv_iinc (v := x15) (lv' := [(5, .int x15), (3, .int x12), (0, .ref h0), (1, .int v1), (2, .int v2), (4, .int v4)]) hx hb dX4_paidBy_54 hl (k := 5) rfl (by rw [ex15]; rfl) (by decide) rfl (fun ls hl => ?_)
              refine lv_goto (tgt := 13) hx hb dX4_paidBy_57 (by decide) ?_
              exact ih13 v1 v2 x12 v4 x15 s0 H _ hP hD hS ls (lv_sub hl [2, 3, 4, 1, 5, 0] rfl) h
            · replace h := q_i2 c14 h
              refine lv_aload_n hx hb dX4_paidBy_47 rfl (lv_at hl 1 rfl) ?_
              refine lv_iload_n hx hb dX4_paidBy_48 rfl (lv_at hl 2 rfl) ?_
              refine lv_iload hx hb dX4_paidBy_49 (lv_at hl 5 rfl) ?_
              obtain ⟨y16, c17, h⟩ := q_o1 h
              refine q_muV F (kX4_eats l E h0 a0 s0 g0 v1 v5 H.size y16 c17) q_cX4_eats q_lX4_143 (q_s_M_M_0w E h0 a0 s0 g0 y16 g0) hP hD hS hA hAl ⟨by decide, by decide⟩ (q0 := 0) rfl rfl rfl rfl ⟨_, hl⟩ (rest := []) rfl (Nat.le_of_ble_eq_true rfl) dX4_paidBy_51 (fun H locs (hP : va_P (q_D E) vwCl (q_cM E h0 a0 y16 g0) H) hD hS => ?_)
              obtain ⟨x18, ex18, h⟩ := q_ol h
              refine lv_iinc (v := x18) (lv' := [(5, .int x18), (3, .int x12), (0, .ref h0), (1, .int v1), (2, .int v2), (4, .int v4)]) hx hb dX4_paidBy_54 hl (k := 5) rfl (by rw [ex18]; rfl) (by decide) rfl (fun ls hl => ?_)
              refine lv_goto (tgt := 13) hx hb dX4_paidBy_57 (by decide) ?_
              exact ih13 v1 v2 x12 v4 x18 y16 H _ hP hD hS ls (lv_sub hl [2, 3, 4, 1, 5, 0] rfl) h
  unfold zX4_paidBy at h
  refine lv_iconst (v := 1) hx hb dX4_paidBy_0 (by decide) ?_
  refine lv_istore_n (lv' := [(3, .int (1 : Int32)), (0, .ref h0), (1, .int v1), (2, .int v2)]) hx hb dX4_paidBy_1 rfl hl (by decide) rfl (fun ls hl => ?_)
  refine lv_aload_n hx hb dX4_paidBy_2 rfl (lv_at hl 1 rfl) ?_
  refine q_get F q_K4 hP 0 rfl 6 (by decide) q_fX4_23 rfl dX4_paidBy_3 ?_
  refine lv_iload_n hx hb dX4_paidBy_6 rfl (lv_at hl 2 rfl) ?_
  obtain ⟨eg19, h⟩ := q_og h
  refine q_iald F hP 5 rfl eg19 dX4_paidBy_7 ?_
  obtain ⟨x20, ex20, h⟩ := q_ol h
  refine q_top ex20 ?_
  refine lv_istore (lv' := [(4, .int x20), (3, .int (1 : Int32)), (0, .ref h0), (1, .int v1), (2, .int v2)]) hx hb dX4_paidBy_8 hl (by decide) rfl (fun ls hl => ?_)
  refine lv_iconst (v := 0) hx hb dX4_paidBy_10 (by decide) ?_
  refine lv_istore (lv' := [(5, .int (0 : Int32)), (4, .int x20), (3, .int (1 : Int32)), (0, .ref h0), (1, .int v1), (2, .int v2)]) hx hb dX4_paidBy_11 hl (by decide) rfl (fun ls hl => ?_)
  exact K13 70000 v1 v2 (1 : Int32) x20 (0 : Int32) s0 _ _ hP hD hS ls (lv_sub hl [3, 4, 5, 2, 1, 0] rfl) h
def zX4_fedNow_45 (k12 : q_S → Int32 → Int32 → Int32 → Option (Int32 × q_S)) (s0 : q_S) (v4 : Int32) (v5 : Int32) (v6 : Int32) (t0 : Int32) : Option (Int32 × q_S) := if v6 ≤ v4 then (q_lt (v5 + 1) fun x2 => k12 s0 t0 v4 x2) else (q_lt (v5 + 1) fun x3 => k12 s0 t0 v6 x3)
def jX4_fedNow_12 (v1 : Int32) (v2 : Int32) (k12 : q_S → Int32 → Int32 → Int32 → Option (Int32 × q_S)) (s0 : q_S) (v3 : Int32) (v4 : Int32) (v5 : Int32) : Option (Int32 × q_S) := if ((1 : Int32) <<< ((s0 7 0) &&& 31)) ≤ v5 then (if v2 = 0 then (some (v3, s0)) else (some (v4, s0))) else (q_b2 (zX4_paidBy s0 v1 v5) fun x6 y7 => if x6 ≤ v4 then (zX4_fedNow_45 k12 y7 v4 v5 x6 v3) else (zX4_fedNow_45 k12 y7 v4 v5 x6 v5))
def zX4_fedNow_12 (v1 : Int32) (v2 : Int32) : Nat → q_S → Int32 → Int32 → Int32 → Option (Int32 × q_S)
  | 0, _, _, _, _ => none
  | n + 1, s0, v3, v4, v5 => jX4_fedNow_12 v1 v2 (zX4_fedNow_12 v1 v2 n) s0 v3 v4 v5
theorem zX4_fedNow_12_s (v1 : Int32) (v2 : Int32) (n : Nat) (s0 : q_S) (v3 : Int32) (v4 : Int32) (v5 : Int32) : zX4_fedNow_12 v1 v2 (n + 1) s0 v3 v4 v5 = jX4_fedNow_12 v1 v2 (zX4_fedNow_12 v1 v2 n) s0 v3 v4 v5 := rfl
def zX4_fedNow (s0 : q_S) (v1 : Int32) (v2 : Int32) : Option (Int32 × q_S) := q_b1 (zX4_save s0) fun y10 => zX4_fedNow_12 v1 v2 70000 y10 (0 : Int32) (0 : Int32) (0 : Int32)
set_option maxHeartbeats 4000000 in
set_option maxRecDepth 100000 in
theorem kX4_fedNow (l : Launch) (E : q_E) (h0 : Nat) (a0 : Nat → Nat) (s0 : q_S) (g0 : q_G) (v1 : Int32) (v2 : Int32) (sz : Nat) (r : Int32) (rs0 : q_S) (h : zX4_fedNow s0 v1 v2 = some (r, rs0)) : q_MU l E yX4_fedNow cX4_fedNow 7 (some .int) 4 [.ref h0, .int v1, .int v2] sz (q_cM E h0 a0 s0 g0) (q_cM E h0 a0 rs0 g0) (some (.int r)) := by
  refine q_MU.intro (by decide) (Nat.le_of_ble_eq_true rfl) ?_
  intro p e s m args below meth c A X hP hD hA hAl ls hl
  obtain ⟨hx, hb, hml, hr, hlk, hown, hB, hE⟩ := X
  have hown : s.vm.findClass RX4 = some m.cls := hown
  have F : q_Fx p s m c E RX4 cX4_fedNow 7 := ⟨hx, hb, hml, hown, hB, hE⟩
  have hS : va_S A s.heap s.heap [] := va_S.rf
  have hl : lv_has ls 7 [(0, .ref h0), (1, .int v1), (2, .int v2)] := hl
  have K12 : ∀ (n12_ : Nat), ∀ (v1 : Int32) (v2 : Int32) (v3 : Int32) (v4 : Int32) (v5 : Int32) (s0 : q_S), ∀ (H : Heap) (locs : List Loc), va_P (q_D E) vwCl (q_cM E h0 a0 s0 g0) H → va_D A (q_cM E h0 a0 s0 g0) → va_S A s.heap H locs → ∀ ls : Array Slot, lv_has ls 7 [(0, .ref h0), (1, .int v1), (2, .int v2), (3, .int v3), (4, .int v4), (5, .int v5)] → zX4_fedNow_12 v1 v2 n12_ s0 v3 v4 v5 = some (r, rs0) → W p l e (q_rm 4) s m args below meth c H locs 0 0 (MQ below (q_muQ E A (q_cM E h0 a0 rs0 g0) (some (.int r))) args s 0 0 A) (F0 m 12 ls []) := by
    intro n12_
    induction n12_ with
    | zero => intro v1 v2 v3 v4 v5 s0 H locs hP hD hS ls hl h; exact q_nn h
    | succ n12_ ih12 =>
      have K45 : ∀ (v1 : Int32) (v2 : Int32) (v4 : Int32) (v5 : Int32) (v6 : Int32) (t0 : Int32) (s0 : q_S), ∀ (H : Heap) (locs : List Loc), va_P (q_D E) vwCl (q_cM E h0 a0 s0 g0) H → va_D A (q_cM E h0 a0 s0 g0) → va_S A s.heap H locs → ∀ ls : Array Slot, lv_has ls 7 [(0, .ref h0), (1, .int v1), (2, .int v2), (4, .int v4), (5, .int v5), (6, .int v6)] → zX4_fedNow_45 (zX4_fedNow_12 v1 v2 n12_) s0 v4 v5 v6 t0 = some (r, rs0) → W p l e (q_rm 4) s m args below meth c H locs 0 0 (MQ below (q_muQ E A (q_cM E h0 a0 rs0 g0) (some (.int r))) args s 0 0 A) (F0 m 45 ls [.int t0]) := by
        intro v1 v2 v4 v5 v6 t0 s0 H locs hP hD hS ls hl h
        unfold zX4_fedNow_45 at h
        refine lv_istore_n (lv' := [(3, .int t0), (0, .ref h0), (1, .int v1), (2, .int v2), (4, .int v4), (5, .int v5), (6, .int v6)]) hx hb dX4_fedNow_45 rfl hl (by decide) rfl (fun ls hl => ?_)
        refine lv_iload hx hb dX4_fedNow_46 (lv_at hl 6 rfl) ?_
        refine lv_iload hx hb dX4_fedNow_48 (lv_at hl 4 rfl) ?_
        refine lv_icmp_le (tgt := 58) hx hb dX4_fedNow_50 (by decide) (fun c1 => ?_) (fun c1 => ?_)
        · replace h := q_i1 c1 h
          refine lv_iload hx hb dX4_fedNow_58 (lv_at hl 4 rfl) ?_
          refine lv_istore (lv' := [(4, .int v4), (3, .int t0), (0, .ref h0), (1, .int v1), (2, .int v2), (5, .int v5), (6, .int v6)]) hx hb dX4_fedNow_60 hl (by decide) rfl (fun ls hl => ?_)
          obtain ⟨x2, ex2, h⟩ := q_ol h
          refine lv_iinc (v := x2) (lv' := [(5, .int x2), (4, .int v4), (3, .int t0), (0, .ref h0), (1, .int v1), (2, .int v2), (6, .int v6)]) hx hb dX4_fedNow_62 hl (k := 5) rfl (by rw [ex2]; rfl) (by decide) rfl (fun ls hl => ?_)
          refine lv_goto (tgt := 12) hx hb dX4_fedNow_65 (by decide) ?_
          exact ih12 v1 v2 t0 v4 x2 s0 H _ hP hD hS ls (lv_sub hl [3, 4, 5, 2, 1, 0] rfl) h
        · replace h := q_i2 c1 h
          refine lv_iload hx hb dX4_fedNow_53 (lv_at hl 6 rfl) ?_
          refine lv_goto (tgt := 60) hx hb dX4_fedNow_55 (by decide) ?_
          refine lv_istore (lv' := [(4, .int v6), (3, .int t0), (0, .ref h0), (1, .int v1), (2, .int v2), (5, .int v5), (6, .int v6)]) hx hb dX4_fedNow_60 hl (by decide) rfl (fun ls hl => ?_)
          obtain ⟨x3, ex3, h⟩ := q_ol h
          refine lv_iinc (v := x3) (lv' := [(5, .int x3), (4, .int v6), (3, .int t0), (0, .ref h0), (1, .int v1), (2, .int v2), (6, .int v6)]) hx hb dX4_fedNow_62 hl (k := 5) rfl (by rw [ex3]; rfl) (by decide) rfl (fun ls hl => ?_)
          refine lv_goto (tgt := 12) hx hb dX4_fedNow_65 (by decide) ?_
          exact ih12 v1 v2 t0 v6 x3 s0 H _ hP hD hS ls (lv_sub hl [3, 4, 5, 2, 1, 0] rfl) h
      intro v1 v2 v3 v4 v5 s0 H locs hP hD hS ls hl h
      rw [zX4_fedNow_12_s] at h
      unfold jX4_fedNow_12 at h
      refine lv_iload hx hb dX4_fedNow_12 (lv_at hl 5 rfl) ?_
      refine lv_iconst (v := 1) hx hb dX4_fedNow_14 (by decide) ?_
      refine lv_aload_n hx hb dX4_fedNow_15 rfl (lv_at hl 0 rfl) ?_
      refine q_get F q_K4 hP 0 rfl 7 (by decide) q_fX4_111 rfl dX4_fedNow_16 ?_
      refine lv_ishl hx hb dX4_fedNow_19 ?_
      refine lv_icmp_ge (tgt := 68) hx hb dX4_fedNow_20 (by decide) (fun c4 => ?_) (fun c4 => ?_)
      · replace h := q_i1 c4 h
        refine lv_iload_n hx hb dX4_fedNow_68 rfl (lv_at hl 2 rfl) ?_
        refine lv_if_eq (tgt := 77) hx hb dX4_fedNow_69 (by decide) (fun c5 => ?_) (fun c5 => ?_)
        · replace h := q_i1 c5 h
          refine lv_iload_n hx hb dX4_fedNow_77 rfl (lv_at hl 3 rfl) ?_
          cases h
          exact q_wI F hr hlk dX4_fedNow_78 hP hD hS
        · replace h := q_i2 c5 h
          refine lv_iload hx hb dX4_fedNow_72 (lv_at hl 4 rfl) ?_
          refine lv_goto (tgt := 78) hx hb dX4_fedNow_74 (by decide) ?_
          cases h
          exact q_wI F hr hlk dX4_fedNow_78 hP hD hS
      · replace h := q_i2 c4 h
        refine lv_aload_n hx hb dX4_fedNow_23 rfl (lv_at hl 0 rfl) ?_
        refine lv_iload_n hx hb dX4_fedNow_24 rfl (lv_at hl 1 rfl) ?_
        refine lv_iload hx hb dX4_fedNow_25 (lv_at hl 5 rfl) ?_
        obtain ⟨x6, y7, c8, h⟩ := q_o2 h
        refine q_muV F (kX4_paidBy l E h0 a0 s0 g0 v1 v5 H.size x6 y7 c8) q_cX4_paidBy q_lX4_152 (q_s_M_M_0w E h0 a0 s0 g0 y7 g0) hP hD hS hA hAl ⟨by decide, by decide⟩ (q0 := 0) rfl rfl rfl rfl ⟨_, hl⟩ (rest := []) rfl (Nat.le_of_ble_eq_true rfl) dX4_fedNow_27 (fun H locs (hP : va_P (q_D E) vwCl (q_cM E h0 a0 y7 g0) H) hD hS => ?_)
        refine lv_istore (lv' := [(6, .int x6), (0, .ref h0), (1, .int v1), (2, .int v2), (3, .int v3), (4, .int v4), (5, .int v5)]) hx hb dX4_fedNow_30 hl (by decide) rfl (fun ls hl => ?_)
        refine lv_iload hx hb dX4_fedNow_32 (lv_at hl 0 rfl) ?_
        refine lv_iload hx hb dX4_fedNow_34 (lv_at hl 5 rfl) ?_
        refine lv_icmp_le (tgt := 44) hx hb dX4_fedNow_36 (by decide) (fun c9 => ?_) (fun c9 => ?_)
        · replace h := q_i1 c9 h
          refine lv_iload_n hx hb dX4_fedNow_44 rfl (lv_at hl 4 rfl) ?_
          exact K45 v1 v2 v4 v5 x6 v3 y7 H _ hP hD hS ls (lv_sub hl [1, 2, 3, 5, 6, 0] rfl) h
        · replace h := q_i2 c9 h
          refine lv_iload hx hb dX4_fedNow_39 (lv_at hl 6 rfl) ?_
          refine lv_goto (tgt := 45) hx hb dX4_fedNow_41 (by decide) ?_
          exact K45 v1 v2 v4 v5 x6 v5 y7 H _ hP hD hS ls (lv_sub hl [1, 2, 3, 5, 6, 0] rfl) h
  unfold zX4_fedNow at h
  refine lv_aload_n hx hb dX4_fedNow_0 rfl (lv_at hl 0 rfl) ?_
  obtain ⟨y10, c11, h⟩ := q_o1 h
  refine q_muV F (kX4_save l E h0 a0 s0 g0 s.heap.size y10 c11) q_cX4_save q_lX4_149 (q_s_M_M_0w E h0 a0 s0 g0 y10 g0) hP hD hS hA hAl ⟨by decide, by decide⟩ (q0 := 0) rfl rfl rfl rfl ⟨_, hl⟩ (rest := []) rfl (Nat.le_of_ble_eq_true rfl) dX4_fedNow_1 (fun H locs (hP : va_P (q_D E) vwCl (q_cM E h0 a0 y10 g0) H) hD hS => ?_)
  refine lv_iconst (v := 0) hx hb dX4_fedNow_4 (by decide) ?_
  refine lv_istore_n (lv' := [(3, .int (0 : Int32)), (0, .ref h0), (1, .int v1), (2, .int v2)]) hx hb dX4_fedNow_5 rfl hl (by decide) rfl (fun ls hl => ?_)
  refine lv_iconst (v := 0) hx hb dX4_fedNow_6 (by decide) ?_
  refine lv_istore (lv' := [(4, .int (0 : Int32)), (3, .int (0 : Int32)), (0, .ref h0), (1, .int v1), (2, .int v2)]) hx hb dX4_fedNow_7 hl (by decide) rfl (fun ls hl => ?_)
  refine lv_iconst (v := 0) hx hb dX4_fedNow_9 (by decide) ?_
  refine lv_istore (lv' := [(5, .int (0 : Int32)), (4, .int (0 : Int32)), (3, .int (0 : Int32)), (0, .ref h0), (1, .int v1), (2, .int v2)]) hx hb dX4_fedNow_10 hl (by decide) rfl (fun ls hl => ?_)
  exact K12 70000 v1 v2 (0 : Int32) (0 : Int32) (0 : Int32) y10 H _ hP hD hS ls (lv_sub hl [3, 4, 5, 2, 1, 0] rfl) h
def zX4_eaterNow (s0 : q_S) (v1 : Int32) (v2 : Int32) : Option (Int32 × q_S) := if v2 = 0 then (q_gd (q_ib v1 4) (some ((s0 2 v1.toNatClampNeg), s0))) else (if v2 = 1 then (q_gd (q_ib v1 4) (some ((s0 3 v1.toNatClampNeg), s0))) else (if v2 = 2 then (q_gd (q_ib v1 4) (if (s0 4 v1.toNatClampNeg) = 0 then (some ((0 : Int32), s0)) else (some ((1 : Int32), s0)))) else (if v2 = 3 then (q_gd (q_ib v1 4) (some ((s0 5 v1.toNatClampNeg), s0))) else (if v2 = 4 then (q_gd (q_ib v1 4) (some ((s0 6 v1.toNatClampNeg), s0))) else (if v2 = 5 then (q_b1 (zX4_wouldBits s0 v1) fun x13 => some (x13, s0)) else (if v2 = (6 : Int32) then (q_b2 (zX4_fedNow s0 v1 (1 : Int32)) fun x19 y20 => some (x19, y20)) else (q_b2 (zX4_fedNow s0 v1 (0 : Int32)) fun x16 y17 => some (x16, y17))))))))
set_option maxHeartbeats 4000000 in
set_option maxRecDepth 100000 in
theorem kX4_eaterNow (l : Launch) (E : q_E) (h0 : Nat) (a0 : Nat → Nat) (s0 : q_S) (g0 : q_G) (v1 : Int32) (v2 : Int32) (sz : Nat) (r : Int32) (rs0 : q_S) (h : zX4_eaterNow s0 v1 v2 = some (r, rs0)) : q_MU l E yX4_eaterNow cX4_eaterNow 3 (some .int) 5 [.ref h0, .int v1, .int v2] sz (q_cM E h0 a0 s0 g0) (q_cM E h0 a0 rs0 g0) (some (.int r)) := by
  refine q_MU.intro (by decide) (Nat.le_of_ble_eq_true rfl) ?_
  intro p e s m args below meth c A X hP hD hA hAl ls hl
  obtain ⟨hx, hb, hml, hr, hlk, hown, hB, hE⟩ := X
  have hown : s.vm.findClass RX4 = some m.cls := hown
  have F : q_Fx p s m c E RX4 cX4_eaterNow 3 := ⟨hx, hb, hml, hown, hB, hE⟩
  have hS : va_S A s.heap s.heap [] := va_S.rf
  have hl : lv_has ls 3 [(0, .ref h0), (1, .int v1), (2, .int v2)] := hl
  unfold zX4_eaterNow at h
  refine lv_iload_n hx hb dX4_eaterNow_0 rfl (lv_at hl 2 rfl) ?_
  by_cases c1 : v2 = 0
  · replace h := q_i1 c1 h
    refine lv_tableIn (off := 39) (tgt := 40) hx hb dX4_eaterNow_1 (by rw [c1]; decide) (by rw [c1]; decide) (by rw [c1]; rfl) (by decide) ?_
    refine lv_aload_n hx hb dX4_eaterNow_40 rfl (lv_at hl 0 rfl) ?_
    refine q_get F q_K4 hP 0 rfl 2 (by decide) q_fX4_7 rfl dX4_eaterNow_41 ?_
    refine lv_iload_n hx hb dX4_eaterNow_44 rfl (lv_at hl 1 rfl) ?_
    obtain ⟨eg2, h⟩ := q_og h
    refine q_iald F hP 1 rfl eg2 dX4_eaterNow_45 ?_
    cases h
    exact q_wI F hr hlk dX4_eaterNow_46 hP hD hS
  · replace h := q_i2 c1 h
    by_cases c3 : v2 = 1
    · replace h := q_i1 c3 h
      refine lv_tableIn (off := 46) (tgt := 47) hx hb dX4_eaterNow_1 (by rw [c3]; decide) (by rw [c3]; decide) (by rw [c3]; rfl) (by decide) ?_
      refine lv_aload_n hx hb dX4_eaterNow_47 rfl (lv_at hl 0 rfl) ?_
      refine q_get F q_K4 hP 0 rfl 3 (by decide) q_fX4_13 rfl dX4_eaterNow_48 ?_
      refine lv_iload_n hx hb dX4_eaterNow_51 rfl (lv_at hl 1 rfl) ?_
      obtain ⟨eg4, h⟩ := q_og h
      refine q_iald F hP 2 rfl eg4 dX4_eaterNow_52 ?_
      cases h
      exact q_wI F hr hlk dX4_eaterNow_53 hP hD hS
    · replace h := q_i2 c3 h
      by_cases c5 : v2 = 2
      · replace h := q_i1 c5 h
        refine lv_tableIn (off := 53) (tgt := 54) hx hb dX4_eaterNow_1 (by rw [c5]; decide) (by rw [c5]; decide) (by rw [c5]; rfl) (by decide) ?_
        refine lv_aload_n hx hb dX4_eaterNow_54 rfl (lv_at hl 0 rfl) ?_
        refine q_get F q_K4 hP 0 rfl 4 (by decide) q_fX4_16 rfl dX4_eaterNow_55 ?_
        refine lv_iload_n hx hb dX4_eaterNow_58 rfl (lv_at hl 1 rfl) ?_
        obtain ⟨eg6, h⟩ := q_og h
        refine q_zald F hP 3 rfl eg6 dX4_eaterNow_59 ?_
        refine lv_if_eq (tgt := 67) hx hb dX4_eaterNow_60 (by decide) (fun c7 => ?_) (fun c7 => ?_)
        · replace h := q_i1 c7 h
          refine lv_iconst (v := 0) hx hb dX4_eaterNow_67 (by decide) ?_
          cases h
          exact q_wI F hr hlk dX4_eaterNow_68 hP hD hS
        · replace h := q_i2 c7 h
          refine lv_iconst (v := 1) hx hb dX4_eaterNow_63 (by decide) ?_
          refine lv_goto (tgt := 68) hx hb dX4_eaterNow_64 (by decide) ?_
          cases h
          exact q_wI F hr hlk dX4_eaterNow_68 hP hD hS
      · replace h := q_i2 c5 h
        by_cases c8 : v2 = 3
        · replace h := q_i1 c8 h
          refine lv_tableIn (off := 68) (tgt := 69) hx hb dX4_eaterNow_1 (by rw [c8]; decide) (by rw [c8]; decide) (by rw [c8]; rfl) (by decide) ?_
          refine lv_aload_n hx hb dX4_eaterNow_69 rfl (lv_at hl 0 rfl) ?_
          refine q_get F q_K4 hP 0 rfl 5 (by decide) q_fX4_20 rfl dX4_eaterNow_70 ?_
          refine lv_iload_n hx hb dX4_eaterNow_73 rfl (lv_at hl 1 rfl) ?_
          obtain ⟨eg9, h⟩ := q_og h
          refine q_iald F hP 4 rfl eg9 dX4_eaterNow_74 ?_
          cases h
          exact q_wI F hr hlk dX4_eaterNow_75 hP hD hS
        · replace h := q_i2 c8 h
          by_cases c10 : v2 = 4
          · replace h := q_i1 c10 h
            refine lv_tableIn (off := 75) (tgt := 76) hx hb dX4_eaterNow_1 (by rw [c10]; decide) (by rw [c10]; decide) (by rw [c10]; rfl) (by decide) ?_
            refine lv_aload_n hx hb dX4_eaterNow_76 rfl (lv_at hl 0 rfl) ?_
            refine q_get F q_K4 hP 0 rfl 6 (by decide) q_fX4_23 rfl dX4_eaterNow_77 ?_
            refine lv_iload_n hx hb dX4_eaterNow_80 rfl (lv_at hl 1 rfl) ?_
            obtain ⟨eg11, h⟩ := q_og h
            refine q_iald F hP 5 rfl eg11 dX4_eaterNow_81 ?_
            cases h
            exact q_wI F hr hlk dX4_eaterNow_82 hP hD hS
          · replace h := q_i2 c10 h
            by_cases c12 : v2 = 5
            · replace h := q_i1 c12 h
              refine lv_tableIn (off := 82) (tgt := 83) hx hb dX4_eaterNow_1 (by rw [c12]; decide) (by rw [c12]; decide) (by rw [c12]; rfl) (by decide) ?_
              refine lv_aload_n hx hb dX4_eaterNow_83 rfl (lv_at hl 0 rfl) ?_
              refine lv_iload_n hx hb dX4_eaterNow_84 rfl (lv_at hl 1 rfl) ?_
              obtain ⟨x13, c14, h⟩ := q_o1 h
              refine q_roV F (kX4_wouldBits l E h0 a0 s0 g0 v1 x13 c14) q_cX4_wouldBits q_lX4_156 (q_EV.go F.2.2.2.2.2 hAl hS) hP ⟨by decide, by decide⟩ (q0 := 0) rfl rfl rfl rfl ⟨_, hl⟩ (rest := []) rfl (Nat.le_of_ble_eq_true rfl) dX4_eaterNow_85 ?_
              cases h
              exact q_wI F hr hlk dX4_eaterNow_88 hP hD hS
            · replace h := q_i2 c12 h
              refine lv_tableOut (tgt := 89) hx hb dX4_eaterNow_1 (by have zc1 := lv_neT c1 (a := 0) (by decide); have zc3 := lv_neT c3 (a := 1) (by decide); have zc5 := lv_neT c5 (a := 2) (by decide); have zc8 := lv_neT c8 (a := 3) (by decide); have zc10 := lv_neT c10 (a := 4) (by decide); have zc12 := lv_neT c12 (a := 5) (by decide); omega) (by decide) ?_
              refine lv_aload_n hx hb dX4_eaterNow_89 rfl (lv_at hl 0 rfl) ?_
              refine lv_iload_n hx hb dX4_eaterNow_90 rfl (lv_at hl 1 rfl) ?_
              refine lv_iload_n hx hb dX4_eaterNow_91 rfl (lv_at hl 2 rfl) ?_
              refine lv_bipush (v := 6) hx hb dX4_eaterNow_92 (by decide) ?_
              refine lv_icmp_ne (tgt := 101) hx hb dX4_eaterNow_94 (by decide) (fun c15 => ?_) (fun c15 => ?_)
              · replace h := q_i2 c15 h
                refine lv_iconst (v := 0) hx hb dX4_eaterNow_101 (by decide) ?_
                obtain ⟨x16, y17, c18, h⟩ := q_o2 h
                refine q_muV F (kX4_fedNow l E h0 a0 s0 g0 v1 (0 : Int32) s.heap.size x16 y17 c18) q_cX4_fedNow q_lX4_159 (q_s_M_M_0w E h0 a0 s0 g0 y17 g0) hP hD hS hA hAl ⟨by decide, by decide⟩ (q0 := 0) rfl rfl rfl rfl ⟨_, hl⟩ (rest := []) rfl (Nat.le_of_ble_eq_true rfl) dX4_eaterNow_102 (fun H locs (hP : va_P (q_D E) vwCl (q_cM E h0 a0 y17 g0) H) hD hS => ?_)
                cases h
                exact q_wI F hr hlk dX4_eaterNow_105 hP hD hS
              · replace h := q_i1 c15 h
                refine lv_iconst (v := 1) hx hb dX4_eaterNow_97 (by decide) ?_
                refine lv_goto (tgt := 102) hx hb dX4_eaterNow_98 (by decide) ?_
                obtain ⟨x19, y20, c21, h⟩ := q_o2 h
                refine q_muV F (kX4_fedNow l E h0 a0 s0 g0 v1 (1 : Int32) s.heap.size x19 y20 c21) q_cX4_fedNow q_lX4_159 (q_s_M_M_0w E h0 a0 s0 g0 y20 g0) hP hD hS hA hAl ⟨by decide, by decide⟩ (q0 := 0) rfl rfl rfl rfl ⟨_, hl⟩ (rest := []) rfl (Nat.le_of_ble_eq_true rfl) dX4_eaterNow_102 (fun H locs (hP : va_P (q_D E) vwCl (q_cM E h0 a0 y20 g0) H) hD hS => ?_)
                cases h
                exact q_wI F hr hlk dX4_eaterNow_105 hP hD hS
def zX4_about (s0 : q_S) (v1 : Int32) (v2 : Int32) : Option (Int32 × q_S) := q_b1 (zX4_isEater s0 v1) fun x1 => if x1 = 0 then (some ((-101 : Int32), s0)) else (q_b1 (zX4_within v2 (0 : Int32) (7 : Int32)) fun x4 => if x4 = 0 then (some ((-102 : Int32), s0)) else (q_b2 (zX4_eaterNow s0 v1 v2) fun x7 y8 => some (x7, y8)))
set_option maxHeartbeats 4000000 in
set_option maxRecDepth 100000 in
theorem kX4_about (l : Launch) (E : q_E) (h0 : Nat) (a0 : Nat → Nat) (s0 : q_S) (g0 : q_G) (v1 : Int32) (v2 : Int32) (sz : Nat) (r : Int32) (rs0 : q_S) (h : zX4_about s0 v1 v2 = some (r, rs0)) : q_MU l E yX4_about cX4_about 3 (some .int) 6 [.ref h0, .int v1, .int v2] sz (q_cM E h0 a0 s0 g0) (q_cM E h0 a0 rs0 g0) (some (.int r)) := by
  refine q_MU.intro (by decide) (Nat.le_of_ble_eq_true rfl) ?_
  intro p e s m args below meth c A X hP hD hA hAl ls hl
  obtain ⟨hx, hb, hml, hr, hlk, hown, hB, hE⟩ := X
  have hown : s.vm.findClass RX4 = some m.cls := hown
  have F : q_Fx p s m c E RX4 cX4_about 3 := ⟨hx, hb, hml, hown, hB, hE⟩
  have hS : va_S A s.heap s.heap [] := va_S.rf
  have hl : lv_has ls 3 [(0, .ref h0), (1, .int v1), (2, .int v2)] := hl
  unfold zX4_about at h
  refine lv_aload_n hx hb dX4_about_0 rfl (lv_at hl 0 rfl) ?_
  refine lv_iload_n hx hb dX4_about_1 rfl (lv_at hl 1 rfl) ?_
  obtain ⟨x1, c2, h⟩ := q_o1 h
  refine q_roV F (kX4_isEater l E h0 a0 s0 g0 v1 x1 c2) q_cX4_isEater q_lX4_163 (q_EV.go F.2.2.2.2.2 hAl hS) hP ⟨by decide, by decide⟩ (q0 := 0) rfl rfl rfl rfl ⟨_, hl⟩ (rest := []) rfl (Nat.le_of_ble_eq_true rfl) dX4_about_2 ?_
  refine lv_if_ne (tgt := 13) hx hb dX4_about_5 (by decide) (fun c3 => ?_) (fun c3 => ?_)
  · replace h := q_i2 c3 h
    refine lv_iload_n hx hb dX4_about_13 rfl (lv_at hl 2 rfl) ?_
    refine lv_iconst (v := 0) hx hb dX4_about_14 (by decide) ?_
    refine lv_bipush (v := 7) hx hb dX4_about_15 (by decide) ?_
    obtain ⟨x4, c5, h⟩ := q_o1 h
    refine q_roS F (kX4_within l E  v2 (0 : Int32) (7 : Int32) x4 c5) q_cX4_within q_lX4_75 (q_EV.go F.2.2.2.2.2 hAl hS) (fun k q h => by simp at h) ⟨by decide, by decide⟩ rfl ⟨_, hl⟩ (rest := []) rfl (Nat.le_of_ble_eq_true rfl) dX4_about_17 ?_
    refine lv_if_eq (tgt := 32) hx hb dX4_about_20 (by decide) (fun c6 => ?_) (fun c6 => ?_)
    · replace h := q_i1 c6 h
      refine lv_bipush (v := (-102)) hx hb dX4_about_32 (by decide) ?_
      cases h
      exact q_wI F hr hlk dX4_about_34 hP hD hS
    · replace h := q_i2 c6 h
      refine lv_aload_n hx hb dX4_about_23 rfl (lv_at hl 0 rfl) ?_
      refine lv_iload_n hx hb dX4_about_24 rfl (lv_at hl 1 rfl) ?_
      refine lv_iload_n hx hb dX4_about_25 rfl (lv_at hl 2 rfl) ?_
      obtain ⟨x7, y8, c9, h⟩ := q_o2 h
      refine q_muV F (kX4_eaterNow l E h0 a0 s0 g0 v1 v2 s.heap.size x7 y8 c9) q_cX4_eaterNow q_lX4_166 (q_s_M_M_0w E h0 a0 s0 g0 y8 g0) hP hD hS hA hAl ⟨by decide, by decide⟩ (q0 := 0) rfl rfl rfl rfl ⟨_, hl⟩ (rest := []) rfl (Nat.le_of_ble_eq_true rfl) dX4_about_26 (fun H locs (hP : va_P (q_D E) vwCl (q_cM E h0 a0 y8 g0) H) hD hS => ?_)
      refine lv_goto (tgt := 34) hx hb dX4_about_29 (by decide) ?_
      cases h
      exact q_wI F hr hlk dX4_about_34 hP hD hS
  · replace h := q_i1 c3 h
    refine lv_bipush (v := (-101)) hx hb dX4_about_8 (by decide) ?_
    refine lv_goto (tgt := 34) hx hb dX4_about_10 (by decide) ?_
    cases h
    exact q_wI F hr hlk dX4_about_34 hP hD hS
def zX4_as (s0 : q_S) (v1 : Int32) (v2 : Int32) : Option (Int32) := q_b1 (zX4_isEater s0 v1) fun x1 => if x1 = 0 then (some (-101 : Int32)) else (q_b1 (zX4_within v2 (0 : Int32) (4 : Int32)) fun x4 => if x4 = 0 then (some (-102 : Int32)) else (q_gd (q_ib v1 4) (q_lt (s0 2 v1.toNatClampNeg) fun x8 => if v2 = 0 then (some v1) else (if x8 = v2 then (some v1) else (if v2 = (1 : Int32) then (if x8 = (4 : Int32) then (some v1) else (some (-1 : Int32))) else (some (-1 : Int32)))))))
set_option maxHeartbeats 4000000 in
set_option maxRecDepth 100000 in
theorem kX4_as (l : Launch) (E : q_E) (h0 : Nat) (a0 : Nat → Nat) (s0 : q_S) (g0 : q_G) (v1 : Int32) (v2 : Int32) (r : Int32) (h : zX4_as s0 v1 v2 = some r) : q_RO l E yX4_as cX4_as 4 (some .int) 3 [.ref h0, .int v1, .int v2] (q_cM E h0 a0 s0 g0) (.int r) := by
  refine q_RO.intro (by decide) (Nat.le_of_ble_eq_true rfl) ?_
  intro p e s m args below meth c X hP ls hl
  obtain ⟨hx, hb, hml, hr, hlk, hown, hB, hE⟩ := X
  have hown : s.vm.findClass RX4 = some m.cls := hown
  have F : q_Fx p s m c E RX4 cX4_as 4 := ⟨hx, hb, hml, hown, hB, hE⟩
  have hV := q_EV.here hE
  have hl : lv_has ls 4 [(0, .ref h0), (1, .int v1), (2, .int v2)] := hl
  unfold zX4_as at h
  refine lv_aload_n hx hb dX4_as_0 rfl (lv_at hl 0 rfl) ?_
  refine lv_iload_n hx hb dX4_as_1 rfl (lv_at hl 1 rfl) ?_
  obtain ⟨x1, c2, h⟩ := q_o1 h
  refine q_roV F (kX4_isEater l E h0 a0 s0 g0 v1 x1 c2) q_cX4_isEater q_lX4_163 hV hP ⟨by decide, by decide⟩ (q0 := 0) rfl rfl rfl rfl ⟨_, hl⟩ (rest := []) rfl (Nat.le_of_ble_eq_true rfl) dX4_as_2 ?_
  refine lv_if_ne (tgt := 11) hx hb dX4_as_5 (by decide) (fun c3 => ?_) (fun c3 => ?_)
  · replace h := q_i2 c3 h
    refine lv_iload_n hx hb dX4_as_11 rfl (lv_at hl 2 rfl) ?_
    refine lv_iconst (v := 0) hx hb dX4_as_12 (by decide) ?_
    refine lv_iconst (v := 4) hx hb dX4_as_13 (by decide) ?_
    obtain ⟨x4, c5, h⟩ := q_o1 h
    refine q_roS F (kX4_within l E  v2 (0 : Int32) (4 : Int32) x4 c5) q_cX4_within q_lX4_75 hV (fun k q h => by simp at h) ⟨by decide, by decide⟩ rfl ⟨_, hl⟩ (rest := []) rfl (Nat.le_of_ble_eq_true rfl) dX4_as_14 ?_
    refine lv_if_ne (tgt := 23) hx hb dX4_as_17 (by decide) (fun c6 => ?_) (fun c6 => ?_)
    · replace h := q_i2 c6 h
      refine lv_aload_n hx hb dX4_as_23 rfl (lv_at hl 0 rfl) ?_
      refine q_get F q_K4 hP 0 rfl 2 (by decide) q_fX4_7 rfl dX4_as_24 ?_
      refine lv_iload_n hx hb dX4_as_27 rfl (lv_at hl 1 rfl) ?_
      obtain ⟨eg7, h⟩ := q_og h
      refine q_iald F hP 1 rfl eg7 dX4_as_28 ?_
      obtain ⟨x8, ex8, h⟩ := q_ol h
      refine q_top ex8 ?_
      refine lv_istore_n (lv' := [(3, .int x8), (0, .ref h0), (1, .int v1), (2, .int v2)]) hx hb dX4_as_29 rfl hl (by decide) rfl (fun ls hl => ?_)
      refine lv_iload_n hx hb dX4_as_30 rfl (lv_at hl 3 rfl) ?_
      refine lv_if_eq (tgt := 49) hx hb dX4_as_31 (by decide) (fun c9 => ?_) (fun c9 => ?_)
      · replace h := q_i1 c9 h
        refine lv_iload_n hx hb dX4_as_49 rfl (lv_at hl 2 rfl) ?_
        refine lv_goto (tgt := 54) hx hb dX4_as_50 (by decide) ?_
        exact q_rI F hr hlk dX4_as_54 h
      · replace h := q_i2 c9 h
        refine lv_iload_n hx hb dX4_as_34 rfl (lv_at hl 0 rfl) ?_
        refine lv_iload_n hx hb dX4_as_35 rfl (lv_at hl 3 rfl) ?_
        refine lv_icmp_eq (tgt := 49) hx hb dX4_as_36 (by decide) (fun c10 => ?_) (fun c10 => ?_)
        · replace h := q_i1 c10 h
          refine lv_iload_n hx hb dX4_as_49 rfl (lv_at hl 2 rfl) ?_
          refine lv_goto (tgt := 54) hx hb dX4_as_50 (by decide) ?_
          exact q_rI F hr hlk dX4_as_54 h
        · replace h := q_i2 c10 h
          refine lv_iload_n hx hb dX4_as_39 rfl (lv_at hl 3 rfl) ?_
          refine lv_iconst (v := 1) hx hb dX4_as_40 (by decide) ?_
          refine lv_icmp_ne (tgt := 53) hx hb dX4_as_41 (by decide) (fun c11 => ?_) (fun c11 => ?_)
          · replace h := q_i2 c11 h
            refine lv_iconst (v := (-1)) hx hb dX4_as_53 (by decide) ?_
            exact q_rI F hr hlk dX4_as_54 h
          · replace h := q_i1 c11 h
            refine lv_iload_n hx hb dX4_as_44 rfl (lv_at hl 0 rfl) ?_
            refine lv_iconst (v := 4) hx hb dX4_as_45 (by decide) ?_
            refine lv_icmp_ne (tgt := 53) hx hb dX4_as_46 (by decide) (fun c12 => ?_) (fun c12 => ?_)
            · replace h := q_i2 c12 h
              refine lv_iconst (v := (-1)) hx hb dX4_as_53 (by decide) ?_
              exact q_rI F hr hlk dX4_as_54 h
            · replace h := q_i1 c12 h
              refine lv_iload_n hx hb dX4_as_49 rfl (lv_at hl 2 rfl) ?_
              refine lv_goto (tgt := 54) hx hb dX4_as_50 (by decide) ?_
              exact q_rI F hr hlk dX4_as_54 h
    · replace h := q_i1 c6 h
      refine lv_bipush (v := (-102)) hx hb dX4_as_20 (by decide) ?_
      exact q_rI F hr hlk dX4_as_22 h
  · replace h := q_i1 c3 h
    refine lv_bipush (v := (-101)) hx hb dX4_as_8 (by decide) ?_
    exact q_rI F hr hlk dX4_as_10 h
def jX4_muchOf_4 (s0 : q_S) (v1 : Int32) (k4 : Int32 → Int32 → Option (Int32)) (v2 : Int32) (v3 : Int32) : Option (Int32) := if (8 : Int32) ≤ v3 then (some v2) else (q_b1 (zX4_isIn v1 v3) fun x2 => if x2 = 0 then (q_lt (v2 + (0 : Int32)) fun x5 => q_lt (v3 + 1) fun x6 => k4 x5 x6) else (q_gd (q_ib v3 8) (q_gd (q_ib v3 8) (q_lt (v2 + ((s0 8 v3.toNatClampNeg) + (s0 9 v3.toNatClampNeg))) fun x9 => q_lt (v3 + 1) fun x10 => k4 x9 x10))))
def zX4_muchOf_4 (s0 : q_S) (v1 : Int32) : Nat → Int32 → Int32 → Option (Int32)
  | 0, _, _ => none
  | n + 1, v2, v3 => jX4_muchOf_4 s0 v1 (zX4_muchOf_4 s0 v1 n) v2 v3
theorem zX4_muchOf_4_s (s0 : q_S) (v1 : Int32) (n : Nat) (v2 : Int32) (v3 : Int32) : zX4_muchOf_4 s0 v1 (n + 1) v2 v3 = jX4_muchOf_4 s0 v1 (zX4_muchOf_4 s0 v1 n) v2 v3 := rfl
def zX4_muchOf (s0 : q_S) (v1 : Int32) : Option (Int32) := zX4_muchOf_4 s0 v1 70000 (0 : Int32) (0 : Int32)
set_option maxHeartbeats 4000000 in
set_option maxRecDepth 100000 in
theorem kX4_muchOf (l : Launch) (E : q_E) (h0 : Nat) (a0 : Nat → Nat) (s0 : q_S) (g0 : q_G) (v1 : Int32) (r : Int32) (h : zX4_muchOf s0 v1 = some r) : q_RO l E yX4_muchOf cX4_muchOf 4 (some .int) 2 [.ref h0, .int v1] (q_cM E h0 a0 s0 g0) (.int r) := by
  refine q_RO.intro (by decide) (Nat.le_of_ble_eq_true rfl) ?_
  intro p e s m args below meth c X hP ls hl
  obtain ⟨hx, hb, hml, hr, hlk, hown, hB, hE⟩ := X
  have hown : s.vm.findClass RX4 = some m.cls := hown
  have F : q_Fx p s m c E RX4 cX4_muchOf 4 := ⟨hx, hb, hml, hown, hB, hE⟩
  have hV := q_EV.here hE
  have hl : lv_has ls 4 [(0, .ref h0), (1, .int v1)] := hl
  have K4 : ∀ (n4_ : Nat), ∀ (v1 : Int32) (v2 : Int32) (v3 : Int32), ∀ ls : Array Slot, lv_has ls 4 [(0, .ref h0), (1, .int v1), (2, .int v2), (3, .int v3)] → zX4_muchOf_4 s0 v1 n4_ v2 v3 = some r → W p l e (q_rm 2) s m args below meth c s.heap [] 0 0 (MQ below (q_roQ (.int r)) args s 0 0 q_no) (F0 m 4 ls []) := by
    intro n4_
    induction n4_ with
    | zero => intro v1 v2 v3 ls hl h; exact q_nn h
    | succ n4_ ih4 =>
      intro v1 v2 v3 ls hl h
      rw [zX4_muchOf_4_s] at h
      unfold jX4_muchOf_4 at h
      refine lv_iload_n hx hb dX4_muchOf_4 rfl (lv_at hl 3 rfl) ?_
      refine lv_bipush (v := 8) hx hb dX4_muchOf_5 (by decide) ?_
      refine lv_icmp_ge (tgt := 44) hx hb dX4_muchOf_7 (by decide) (fun c1 => ?_) (fun c1 => ?_)
      · replace h := q_i1 c1 h
        refine lv_iload_n hx hb dX4_muchOf_44 rfl (lv_at hl 2 rfl) ?_
        exact q_rI F hr hlk dX4_muchOf_45 h
      · replace h := q_i2 c1 h
        refine lv_iload_n hx hb dX4_muchOf_10 rfl (lv_at hl 2 rfl) ?_
        refine lv_iload_n hx hb dX4_muchOf_11 rfl (lv_at hl 1 rfl) ?_
        refine lv_iload_n hx hb dX4_muchOf_12 rfl (lv_at hl 3 rfl) ?_
        obtain ⟨x2, c3, h⟩ := q_o1 h
        refine q_roS F (kX4_isIn l E  v1 v3 x2 c3) q_cX4_isIn q_lX4_126 hV (fun k q h => by simp at h) ⟨by decide, by decide⟩ rfl ⟨_, hl⟩ (rest := [.int v2]) rfl (Nat.le_of_ble_eq_true rfl) dX4_muchOf_13 ?_
        refine lv_if_eq (tgt := 35) hx hb dX4_muchOf_16 (by decide) (fun c4 => ?_) (fun c4 => ?_)
        · replace h := q_i1 c4 h
          refine lv_iconst (v := 0) hx hb dX4_muchOf_35 (by decide) ?_
          refine lv_iadd hx hb dX4_muchOf_36 ?_
          obtain ⟨x5, ex5, h⟩ := q_ol h
          refine q_top ex5 ?_
          refine lv_istore_n (lv' := [(2, .int x5), (0, .ref h0), (1, .int v1), (3, .int v3)]) hx hb dX4_muchOf_37 rfl hl (by decide) rfl (fun ls hl => ?_)
          obtain ⟨x6, ex6, h⟩ := q_ol h
          refine lv_iinc (v := x6) (lv' := [(3, .int x6), (2, .int x5), (0, .ref h0), (1, .int v1)]) hx hb dX4_muchOf_38 hl (k := 3) rfl (by rw [ex6]; rfl) (by decide) rfl (fun ls hl => ?_)
          refine lv_goto (tgt := 4) hx hb dX4_muchOf_41 (by decide) ?_
          exact ih4 v1 x5 x6 ls (lv_sub hl [2, 3, 1, 0] rfl) h
        · replace h := q_i2 c4 h
          refine lv_aload_n hx hb dX4_muchOf_19 rfl (lv_at hl 0 rfl) ?_
          refine q_get F q_K4 hP 0 rfl 8 (by decide) q_fX4_26 rfl dX4_muchOf_20 ?_
          refine lv_iload_n hx hb dX4_muchOf_23 rfl (lv_at hl 3 rfl) ?_
          obtain ⟨eg7, h⟩ := q_og h
          refine q_iald F hP 6 rfl eg7 dX4_muchOf_24 ?_
          refine lv_aload_n hx hb dX4_muchOf_25 rfl (lv_at hl 0 rfl) ?_
          refine q_get F q_K4 hP 0 rfl 9 (by decide) q_fX4_29 rfl dX4_muchOf_26 ?_
          refine lv_iload_n hx hb dX4_muchOf_29 rfl (lv_at hl 3 rfl) ?_
          obtain ⟨eg8, h⟩ := q_og h
          refine q_iald F hP 7 rfl eg8 dX4_muchOf_30 ?_
          refine lv_iadd hx hb dX4_muchOf_31 ?_
          refine lv_goto (tgt := 36) hx hb dX4_muchOf_32 (by decide) ?_
          refine lv_iadd hx hb dX4_muchOf_36 ?_
          obtain ⟨x9, ex9, h⟩ := q_ol h
          refine q_top ex9 ?_
          refine lv_istore_n (lv' := [(2, .int x9), (0, .ref h0), (1, .int v1), (3, .int v3)]) hx hb dX4_muchOf_37 rfl hl (by decide) rfl (fun ls hl => ?_)
          obtain ⟨x10, ex10, h⟩ := q_ol h
          refine lv_iinc (v := x10) (lv' := [(3, .int x10), (2, .int x9), (0, .ref h0), (1, .int v1)]) hx hb dX4_muchOf_38 hl (k := 3) rfl (by rw [ex10]; rfl) (by decide) rfl (fun ls hl => ?_)
          refine lv_goto (tgt := 4) hx hb dX4_muchOf_41 (by decide) ?_
          exact ih4 v1 x9 x10 ls (lv_sub hl [2, 3, 1, 0] rfl) h
  unfold zX4_muchOf at h
  refine lv_iconst (v := 0) hx hb dX4_muchOf_0 (by decide) ?_
  refine lv_istore_n (lv' := [(2, .int (0 : Int32)), (0, .ref h0), (1, .int v1)]) hx hb dX4_muchOf_1 rfl hl (by decide) rfl (fun ls hl => ?_)
  refine lv_iconst (v := 0) hx hb dX4_muchOf_2 (by decide) ?_
  refine lv_istore_n (lv' := [(3, .int (0 : Int32)), (2, .int (0 : Int32)), (0, .ref h0), (1, .int v1)]) hx hb dX4_muchOf_3 rfl hl (by decide) rfl (fun ls hl => ?_)
  exact K4 70000 v1 (0 : Int32) (0 : Int32) ls (lv_sub hl [2, 3, 1, 0] rfl) h
def zX4_isSaid_55 (k4 : Int32 → Int32 → Option (Int32)) (v2 : Int32) (t0 : Int32) (t1 : Int32) : Option (Int32) := if t0 = t1 then (q_lt (v2 + 1) fun x3 => k4 (1 : Int32) x3) else (q_lt (v2 + 1) fun x2 => k4 (0 : Int32) x2)
def zX4_isSaid_40 (k4 : Int32 → Int32 → Option (Int32)) (s0 : q_S) (v2 : Int32) (t0 : Int32) : Option (Int32) := q_gd (q_ib v2 6) (if (s0 15 v2.toNatClampNeg) = (1 : Int32) then (zX4_isSaid_55 k4 v2 t0 (1 : Int32)) else (zX4_isSaid_55 k4 v2 t0 (0 : Int32)))
def jX4_isSaid_4 (s0 : q_S) (k4 : Int32 → Int32 → Option (Int32)) (v1 : Int32) (v2 : Int32) : Option (Int32) := if (s0 12 0) ≤ v2 then (q_gd (q_is v1) (some v1)) else (if v1 = 0 then (q_lt (v2 + 1) fun x9 => k4 (0 : Int32) x9) else (q_gd (q_ib v2 6) (q_b1 (zX4_muchOf s0 (s0 13 v2.toNatClampNeg)) fun x11 => q_gd (q_ib v2 6) (if x11 ≤ (s0 14 v2.toNatClampNeg) then (zX4_isSaid_40 k4 s0 v2 (0 : Int32)) else (zX4_isSaid_40 k4 s0 v2 (1 : Int32))))))
def zX4_isSaid_4 (s0 : q_S) : Nat → Int32 → Int32 → Option (Int32)
  | 0, _, _ => none
  | n + 1, v1, v2 => jX4_isSaid_4 s0 (zX4_isSaid_4 s0 n) v1 v2
theorem zX4_isSaid_4_s (s0 : q_S) (n : Nat) (v1 : Int32) (v2 : Int32) : zX4_isSaid_4 s0 (n + 1) v1 v2 = jX4_isSaid_4 s0 (zX4_isSaid_4 s0 n) v1 v2 := rfl
def zX4_isSaid (s0 : q_S) : Option (Int32) := zX4_isSaid_4 s0 70000 (1 : Int32) (0 : Int32)
set_option maxHeartbeats 4000000 in
set_option maxRecDepth 100000 in
theorem kX4_isSaid (l : Launch) (E : q_E) (h0 : Nat) (a0 : Nat → Nat) (s0 : q_S) (g0 : q_G)  (r : Int32) (h : zX4_isSaid s0 = some r) : q_RO l E yX4_isSaid cX4_isSaid 3 (some .boolean) 3 [.ref h0] (q_cM E h0 a0 s0 g0) (.int r) := by
  refine q_RO.intro (by decide) (Nat.le_of_ble_eq_true rfl) ?_
  intro p e s m args below meth c X hP ls hl
  obtain ⟨hx, hb, hml, hr, hlk, hown, hB, hE⟩ := X
  have hown : s.vm.findClass RX4 = some m.cls := hown
  have F : q_Fx p s m c E RX4 cX4_isSaid 3 := ⟨hx, hb, hml, hown, hB, hE⟩
  have hV := q_EV.here hE
  have hl : lv_has ls 3 [(0, .ref h0)] := hl
  have K4 : ∀ (n4_ : Nat), ∀ (v1 : Int32) (v2 : Int32), ∀ ls : Array Slot, lv_has ls 3 [(0, .ref h0), (1, .int v1), (2, .int v2)] → zX4_isSaid_4 s0 n4_ v1 v2 = some r → W p l e (q_rm 3) s m args below meth c s.heap [] 0 0 (MQ below (q_roQ (.int r)) args s 0 0 q_no) (F0 m 4 ls []) := by
    intro n4_
    induction n4_ with
    | zero => intro v1 v2 ls hl h; exact q_nn h
    | succ n4_ ih4 =>
      have K55 : ∀ (v2 : Int32) (t0 : Int32) (t1 : Int32), ∀ ls : Array Slot, lv_has ls 3 [(0, .ref h0), (2, .int v2)] → zX4_isSaid_55 (zX4_isSaid_4 s0 n4_) v2 t0 t1 = some r → W p l e (q_rm 3) s m args below meth c s.heap [] 0 0 (MQ below (q_roQ (.int r)) args s 0 0 q_no) (F0 m 55 ls [.int t1, .int t0]) := by
        intro v2 t0 t1 ls hl h
        unfold zX4_isSaid_55 at h
        refine lv_icmp_ne (tgt := 62) hx hb dX4_isSaid_55 (by decide) (fun c1 => ?_) (fun c1 => ?_)
        · replace h := q_i2 c1 h
          refine lv_iconst (v := 0) hx hb dX4_isSaid_62 (by decide) ?_
          refine lv_istore_n (lv' := [(1, .int (0 : Int32)), (0, .ref h0), (2, .int v2)]) hx hb dX4_isSaid_63 rfl hl (by decide) rfl (fun ls hl => ?_)
          obtain ⟨x2, ex2, h⟩ := q_ol h
          refine lv_iinc (v := x2) (lv' := [(2, .int x2), (1, .int (0 : Int32)), (0, .ref h0)]) hx hb dX4_isSaid_64 hl (k := 2) rfl (by rw [ex2]; rfl) (by decide) rfl (fun ls hl => ?_)
          refine lv_goto (tgt := 4) hx hb dX4_isSaid_67 (by decide) ?_
          exact ih4 (0 : Int32) x2 ls (lv_sub hl [2, 1, 0] rfl) h
        · replace h := q_i1 c1 h
          refine lv_iconst (v := 1) hx hb dX4_isSaid_58 (by decide) ?_
          refine lv_goto (tgt := 63) hx hb dX4_isSaid_59 (by decide) ?_
          refine lv_istore_n (lv' := [(1, .int (1 : Int32)), (0, .ref h0), (2, .int v2)]) hx hb dX4_isSaid_63 rfl hl (by decide) rfl (fun ls hl => ?_)
          obtain ⟨x3, ex3, h⟩ := q_ol h
          refine lv_iinc (v := x3) (lv' := [(2, .int x3), (1, .int (1 : Int32)), (0, .ref h0)]) hx hb dX4_isSaid_64 hl (k := 2) rfl (by rw [ex3]; rfl) (by decide) rfl (fun ls hl => ?_)
          refine lv_goto (tgt := 4) hx hb dX4_isSaid_67 (by decide) ?_
          exact ih4 (1 : Int32) x3 ls (lv_sub hl [2, 1, 0] rfl) h
      have K40 : ∀ (v2 : Int32) (t0 : Int32), ∀ ls : Array Slot, lv_has ls 3 [(0, .ref h0), (2, .int v2)] → zX4_isSaid_40 (zX4_isSaid_4 s0 n4_) s0 v2 t0 = some r → W p l e (q_rm 3) s m args below meth c s.heap [] 0 0 (MQ below (q_roQ (.int r)) args s 0 0 q_no) (F0 m 40 ls [.int t0]) := by
        intro v2 t0 ls hl h
        unfold zX4_isSaid_40 at h
        refine lv_aload_n hx hb dX4_isSaid_40 rfl (lv_at hl 0 rfl) ?_
        refine q_get F q_K4 hP 0 rfl 15 (by decide) q_fX4_38 rfl dX4_isSaid_41 ?_
        refine lv_iload_n hx hb dX4_isSaid_44 rfl (lv_at hl 1 rfl) ?_
        obtain ⟨eg4, h⟩ := q_og h
        refine q_iald F hP 10 rfl eg4 dX4_isSaid_45 ?_
        refine lv_iconst (v := 1) hx hb dX4_isSaid_46 (by decide) ?_
        refine lv_icmp_ne (tgt := 54) hx hb dX4_isSaid_47 (by decide) (fun c5 => ?_) (fun c5 => ?_)
        · replace h := q_i2 c5 h
          refine lv_iconst (v := 0) hx hb dX4_isSaid_54 (by decide) ?_
          exact K55 v2 t0 (0 : Int32) ls (lv_sub hl [0, 1] rfl) h
        · replace h := q_i1 c5 h
          refine lv_iconst (v := 1) hx hb dX4_isSaid_50 (by decide) ?_
          refine lv_goto (tgt := 55) hx hb dX4_isSaid_51 (by decide) ?_
          exact K55 v2 t0 (1 : Int32) ls (lv_sub hl [0, 1] rfl) h
      intro v1 v2 ls hl h
      rw [zX4_isSaid_4_s] at h
      unfold jX4_isSaid_4 at h
      refine lv_iload_n hx hb dX4_isSaid_4 rfl (lv_at hl 2 rfl) ?_
      refine lv_aload_n hx hb dX4_isSaid_5 rfl (lv_at hl 0 rfl) ?_
      refine q_get F q_K4 hP 0 rfl 12 (by decide) q_fX4_123 rfl dX4_isSaid_6 ?_
      refine lv_icmp_ge (tgt := 70) hx hb dX4_isSaid_9 (by decide) (fun c6 => ?_) (fun c6 => ?_)
      · replace h := q_i1 c6 h
        refine lv_iload_n hx hb dX4_isSaid_70 rfl (lv_at hl 1 rfl) ?_
        obtain ⟨eg7, h⟩ := q_og h
        exact q_rZ F hr hlk (q_is_in eg7) dX4_isSaid_71 h
      · replace h := q_i2 c6 h
        refine lv_iload_n hx hb dX4_isSaid_12 rfl (lv_at hl 1 rfl) ?_
        refine lv_if_eq (tgt := 62) hx hb dX4_isSaid_13 (by decide) (fun c8 => ?_) (fun c8 => ?_)
        · replace h := q_i1 c8 h
          refine lv_iconst (v := 0) hx hb dX4_isSaid_62 (by decide) ?_
          refine lv_istore_n (lv' := [(1, .int (0 : Int32)), (0, .ref h0), (2, .int v2)]) hx hb dX4_isSaid_63 rfl hl (by decide) rfl (fun ls hl => ?_)
          obtain ⟨x9, ex9, h⟩ := q_ol h
          refine lv_iinc (v := x9) (lv' := [(2, .int x9), (1, .int (0 : Int32)), (0, .ref h0)]) hx hb dX4_isSaid_64 hl (k := 2) rfl (by rw [ex9]; rfl) (by decide) rfl (fun ls hl => ?_)
          refine lv_goto (tgt := 4) hx hb dX4_isSaid_67 (by decide) ?_
          exact ih4 (0 : Int32) x9 ls (lv_sub hl [2, 1, 0] rfl) h
        · replace h := q_i2 c8 h
          refine lv_aload_n hx hb dX4_isSaid_16 rfl (lv_at hl 0 rfl) ?_
          refine lv_aload_n hx hb dX4_isSaid_17 rfl (lv_at hl 0 rfl) ?_
          refine q_get F q_K4 hP 0 rfl 13 (by decide) q_fX4_32 rfl dX4_isSaid_18 ?_
          refine lv_iload_n hx hb dX4_isSaid_21 rfl (lv_at hl 2 rfl) ?_
          obtain ⟨eg10, h⟩ := q_og h
          refine q_iald F hP 8 rfl eg10 dX4_isSaid_22 ?_
          obtain ⟨x11, c12, h⟩ := q_o1 h
          refine q_roV F (kX4_muchOf l E h0 a0 s0 g0 (s0 13 v2.toNatClampNeg) x11 c12) q_cX4_muchOf q_lX4_203 hV hP ⟨by decide, by decide⟩ (q0 := 0) rfl rfl rfl rfl ⟨_, hl⟩ (rest := []) rfl (Nat.le_of_ble_eq_true rfl) dX4_isSaid_23 ?_
          refine lv_aload_n hx hb dX4_isSaid_26 rfl (lv_at hl 0 rfl) ?_
          refine q_get F q_K4 hP 0 rfl 14 (by decide) q_fX4_35 rfl dX4_isSaid_27 ?_
          refine lv_iload_n hx hb dX4_isSaid_30 rfl (lv_at hl 2 rfl) ?_
          obtain ⟨eg13, h⟩ := q_og h
          refine q_iald F hP 9 rfl eg13 dX4_isSaid_31 ?_
          refine lv_icmp_le (tgt := 39) hx hb dX4_isSaid_32 (by decide) (fun c14 => ?_) (fun c14 => ?_)
          · replace h := q_i1 c14 h
            refine lv_iconst (v := 0) hx hb dX4_isSaid_39 (by decide) ?_
            exact K40 v2 (0 : Int32) ls (lv_sub hl [0, 2] rfl) h
          · replace h := q_i2 c14 h
            refine lv_iconst (v := 1) hx hb dX4_isSaid_35 (by decide) ?_
            refine lv_goto (tgt := 40) hx hb dX4_isSaid_36 (by decide) ?_
            exact K40 v2 (1 : Int32) ls (lv_sub hl [0, 2] rfl) h
  unfold zX4_isSaid at h
  refine lv_iconst (v := 1) hx hb dX4_isSaid_0 (by decide) ?_
  refine lv_istore_n (lv' := [(1, .int (1 : Int32)), (0, .ref h0)]) hx hb dX4_isSaid_1 rfl hl (by decide) rfl (fun ls hl => ?_)
  refine lv_iconst (v := 0) hx hb dX4_isSaid_2 (by decide) ?_
  refine lv_istore_n (lv' := [(2, .int (0 : Int32)), (1, .int (1 : Int32)), (0, .ref h0)]) hx hb dX4_isSaid_3 rfl hl (by decide) rfl (fun ls hl => ?_)
  exact K4 70000 (1 : Int32) (0 : Int32) ls (lv_sub hl [2, 1, 0] rfl) h
def jX4_bakedNow_12 (v1 : Int32) (v2 : Int32) (k12 : q_S → Int32 → Int32 → Option (Int32 × q_S)) (s0 : q_S) (v3 : Int32) (v4 : Int32) : Option (Int32 × q_S) := if (9 : Int32) < v4 then (q_gd (q_ib v1 8) (q_lt (q_u s0 9 v1.toNatClampNeg v2) fun y3 => some (v3, y3))) else (q_gd (q_ib v1 8) (q_lt (q_u s0 9 v1.toNatClampNeg v4) fun y5 => q_b1 (zX4_isSaid y5) fun x6 => if x6 = 0 then (q_lt (v3 ||| (0 : Int32)) fun x9 => q_lt (v4 + 1) fun x10 => k12 y5 x9 x10) else (q_lt (v3 ||| ((1 : Int32) <<< (v4 &&& 31))) fun x11 => q_lt (v4 + 1) fun x12 => k12 y5 x11 x12)))
def zX4_bakedNow_12 (v1 : Int32) (v2 : Int32) : Nat → q_S → Int32 → Int32 → Option (Int32 × q_S)
  | 0, _, _, _ => none
  | n + 1, s0, v3, v4 => jX4_bakedNow_12 v1 v2 (zX4_bakedNow_12 v1 v2 n) s0 v3 v4
theorem zX4_bakedNow_12_s (v1 : Int32) (v2 : Int32) (n : Nat) (s0 : q_S) (v3 : Int32) (v4 : Int32) : zX4_bakedNow_12 v1 v2 (n + 1) s0 v3 v4 = jX4_bakedNow_12 v1 v2 (zX4_bakedNow_12 v1 v2 n) s0 v3 v4 := rfl
def zX4_bakedNow (s0 : q_S) (v1 : Int32) : Option (Int32 × q_S) := q_gd (q_ib v1 8) (q_lt (s0 9 v1.toNatClampNeg) fun x14 => zX4_bakedNow_12 v1 x14 70000 s0 (0 : Int32) (0 : Int32))
set_option maxHeartbeats 4000000 in
set_option maxRecDepth 100000 in
theorem kX4_bakedNow (l : Launch) (E : q_E) (h0 : Nat) (a0 : Nat → Nat) (s0 : q_S) (g0 : q_G) (v1 : Int32) (sz : Nat) (r : Int32) (rs0 : q_S) (h : zX4_bakedNow s0 v1 = some (r, rs0)) : q_MU l E yX4_bakedNow cX4_bakedNow 5 (some .int) 4 [.ref h0, .int v1] sz (q_cM E h0 a0 s0 g0) (q_cM E h0 a0 rs0 g0) (some (.int r)) := by
  refine q_MU.intro (by decide) (Nat.le_of_ble_eq_true rfl) ?_
  intro p e s m args below meth c A X hP hD hA hAl ls hl
  obtain ⟨hx, hb, hml, hr, hlk, hown, hB, hE⟩ := X
  have hown : s.vm.findClass RX4 = some m.cls := hown
  have F : q_Fx p s m c E RX4 cX4_bakedNow 5 := ⟨hx, hb, hml, hown, hB, hE⟩
  have hS : va_S A s.heap s.heap [] := va_S.rf
  have hl : lv_has ls 5 [(0, .ref h0), (1, .int v1)] := hl
  have K12 : ∀ (n12_ : Nat), ∀ (v1 : Int32) (v2 : Int32) (v3 : Int32) (v4 : Int32) (s0 : q_S), ∀ (H : Heap) (locs : List Loc), va_P (q_D E) vwCl (q_cM E h0 a0 s0 g0) H → va_D A (q_cM E h0 a0 s0 g0) → va_S A s.heap H locs → ∀ ls : Array Slot, lv_has ls 5 [(0, .ref h0), (1, .int v1), (2, .int v2), (3, .int v3), (4, .int v4)] → zX4_bakedNow_12 v1 v2 n12_ s0 v3 v4 = some (r, rs0) → W p l e (q_rm 4) s m args below meth c H locs 0 0 (MQ below (q_muQ E A (q_cM E h0 a0 rs0 g0) (some (.int r))) args s 0 0 A) (F0 m 12 ls []) := by
    intro n12_
    induction n12_ with
    | zero => intro v1 v2 v3 v4 s0 H locs hP hD hS ls hl h; exact q_nn h
    | succ n12_ ih12 =>
      intro v1 v2 v3 v4 s0 H locs hP hD hS ls hl h
      rw [zX4_bakedNow_12_s] at h
      unfold jX4_bakedNow_12 at h
      refine lv_iload hx hb dX4_bakedNow_12 (lv_at hl 4 rfl) ?_
      refine lv_bipush (v := 9) hx hb dX4_bakedNow_14 (by decide) ?_
      refine lv_icmp_gt (tgt := 51) hx hb dX4_bakedNow_16 (by decide) (fun c1 => ?_) (fun c1 => ?_)
      · replace h := q_i1 c1 h
        refine lv_aload_n hx hb dX4_bakedNow_51 rfl (lv_at hl 0 rfl) ?_
        refine q_get F q_K4 hP 0 rfl 9 (by decide) q_fX4_29 rfl dX4_bakedNow_52 ?_
        refine lv_iload_n hx hb dX4_bakedNow_55 rfl (lv_at hl 1 rfl) ?_
        refine lv_iload_n hx hb dX4_bakedNow_56 rfl (lv_at hl 2 rfl) ?_
        obtain ⟨eg2, h⟩ := q_og h
        obtain ⟨y3, ey3, h⟩ := q_ol h
        refine q_iast F hP hD hS 7 rfl eg2 (by rw [ey3]; rfl) dX4_bakedNow_57 (fun H locs (hP : va_P (q_D E) vwCl (q_cM E h0 a0 y3 g0) H) hD hS => ?_)
        refine lv_iload_n hx hb dX4_bakedNow_58 rfl (lv_at hl 3 rfl) ?_
        cases h
        exact q_wI F hr hlk dX4_bakedNow_59 hP hD hS
      · replace h := q_i2 c1 h
        refine lv_aload_n hx hb dX4_bakedNow_19 rfl (lv_at hl 0 rfl) ?_
        refine q_get F q_K4 hP 0 rfl 9 (by decide) q_fX4_29 rfl dX4_bakedNow_20 ?_
        refine lv_iload_n hx hb dX4_bakedNow_23 rfl (lv_at hl 1 rfl) ?_
        refine lv_iload hx hb dX4_bakedNow_24 (lv_at hl 4 rfl) ?_
        obtain ⟨eg4, h⟩ := q_og h
        obtain ⟨y5, ey5, h⟩ := q_ol h
        refine q_iast F hP hD hS 7 rfl eg4 (by rw [ey5]; rfl) dX4_bakedNow_26 (fun H locs (hP : va_P (q_D E) vwCl (q_cM E h0 a0 y5 g0) H) hD hS => ?_)
        refine lv_iload_n hx hb dX4_bakedNow_27 rfl (lv_at hl 3 rfl) ?_
        refine lv_aload_n hx hb dX4_bakedNow_28 rfl (lv_at hl 0 rfl) ?_
        obtain ⟨x6, c7, h⟩ := q_o1 h
        refine q_roV F (kX4_isSaid l E h0 a0 y5 g0 x6 c7) q_cX4_isSaid q_lX4_206 (q_EV.go F.2.2.2.2.2 hAl hS) hP ⟨by decide, by decide⟩ (q0 := 0) rfl rfl rfl rfl ⟨_, hl⟩ (rest := [.int v3]) rfl (Nat.le_of_ble_eq_true rfl) dX4_bakedNow_29 ?_
        refine lv_if_eq (tgt := 42) hx hb dX4_bakedNow_32 (by decide) (fun c8 => ?_) (fun c8 => ?_)
        · replace h := q_i1 c8 h
          refine lv_iconst (v := 0) hx hb dX4_bakedNow_42 (by decide) ?_
          refine lv_ior hx hb dX4_bakedNow_43 ?_
          obtain ⟨x9, ex9, h⟩ := q_ol h
          refine q_top ex9 ?_
          refine lv_istore_n (lv' := [(3, .int x9), (0, .ref h0), (1, .int v1), (2, .int v2), (4, .int v4)]) hx hb dX4_bakedNow_44 rfl hl (by decide) rfl (fun ls hl => ?_)
          obtain ⟨x10, ex10, h⟩ := q_ol h
          refine lv_iinc (v := x10) (lv' := [(4, .int x10), (3, .int x9), (0, .ref h0), (1, .int v1), (2, .int v2)]) hx hb dX4_bakedNow_45 hl (k := 4) rfl (by rw [ex10]; rfl) (by decide) rfl (fun ls hl => ?_)
          refine lv_goto (tgt := 12) hx hb dX4_bakedNow_48 (by decide) ?_
          exact ih12 v1 v2 x9 x10 y5 H _ hP hD hS ls (lv_sub hl [2, 3, 4, 1, 0] rfl) h
        · replace h := q_i2 c8 h
          refine lv_iconst (v := 1) hx hb dX4_bakedNow_35 (by decide) ?_
          refine lv_iload hx hb dX4_bakedNow_36 (lv_at hl 4 rfl) ?_
          refine lv_ishl hx hb dX4_bakedNow_38 ?_
          refine lv_goto (tgt := 43) hx hb dX4_bakedNow_39 (by decide) ?_
          refine lv_ior hx hb dX4_bakedNow_43 ?_
          obtain ⟨x11, ex11, h⟩ := q_ol h
          refine q_top ex11 ?_
          refine lv_istore_n (lv' := [(3, .int x11), (0, .ref h0), (1, .int v1), (2, .int v2), (4, .int v4)]) hx hb dX4_bakedNow_44 rfl hl (by decide) rfl (fun ls hl => ?_)
          obtain ⟨x12, ex12, h⟩ := q_ol h
          refine lv_iinc (v := x12) (lv' := [(4, .int x12), (3, .int x11), (0, .ref h0), (1, .int v1), (2, .int v2)]) hx hb dX4_bakedNow_45 hl (k := 4) rfl (by rw [ex12]; rfl) (by decide) rfl (fun ls hl => ?_)
          refine lv_goto (tgt := 12) hx hb dX4_bakedNow_48 (by decide) ?_
          exact ih12 v1 v2 x11 x12 y5 H _ hP hD hS ls (lv_sub hl [2, 3, 4, 1, 0] rfl) h
  unfold zX4_bakedNow at h
  refine lv_aload_n hx hb dX4_bakedNow_0 rfl (lv_at hl 0 rfl) ?_
  refine q_get F q_K4 hP 0 rfl 9 (by decide) q_fX4_29 rfl dX4_bakedNow_1 ?_
  refine lv_iload_n hx hb dX4_bakedNow_4 rfl (lv_at hl 1 rfl) ?_
  obtain ⟨eg13, h⟩ := q_og h
  refine q_iald F hP 7 rfl eg13 dX4_bakedNow_5 ?_
  obtain ⟨x14, ex14, h⟩ := q_ol h
  refine q_top ex14 ?_
  refine lv_istore_n (lv' := [(2, .int x14), (0, .ref h0), (1, .int v1)]) hx hb dX4_bakedNow_6 rfl hl (by decide) rfl (fun ls hl => ?_)
  refine lv_iconst (v := 0) hx hb dX4_bakedNow_7 (by decide) ?_
  refine lv_istore_n (lv' := [(3, .int (0 : Int32)), (2, .int x14), (0, .ref h0), (1, .int v1)]) hx hb dX4_bakedNow_8 rfl hl (by decide) rfl (fun ls hl => ?_)
  refine lv_iconst (v := 0) hx hb dX4_bakedNow_9 (by decide) ?_
  refine lv_istore (lv' := [(4, .int (0 : Int32)), (3, .int (0 : Int32)), (2, .int x14), (0, .ref h0), (1, .int v1)]) hx hb dX4_bakedNow_10 hl (by decide) rfl (fun ls hl => ?_)
  exact K12 70000 v1 x14 (0 : Int32) (0 : Int32) s0 _ _ hP hD hS ls (lv_sub hl [3, 4, 2, 1, 0] rfl) h
def zX4_askNow_127 (k15 : Int32 → Int32 → Int32 → Option (Int32 × q_S)) (v4 : Int32) (v5 : Int32) (v8 : Int32) (t0 : Int32) : Option (Int32 × q_S) := if v4 ≤ v8 then (q_lt (v5 + 1) fun x2 => k15 t0 v4 x2) else (q_lt (v5 + 1) fun x3 => k15 t0 v8 x3)
def zX4_askNow_112 (k15 : Int32 → Int32 → Int32 → Option (Int32 × q_S)) (v3 : Int32) (v4 : Int32) (v5 : Int32) (t0 : Int32) : Option (Int32 × q_S) := if v4 ≤ t0 then (zX4_askNow_127 k15 v4 v5 t0 v3) else (zX4_askNow_127 k15 v4 v5 t0 v5)
def zX4_askNow_82 (k35 : Int32 → Int32 → Int32 → Option (Int32 × q_S)) (v7 : Int32) (v8 : Int32) (t0 : Int32) : Option (Int32 × q_S) := q_lt (t0 + (0 : Int32)) fun x5 => q_lt (v8 + 1) fun x6 => k35 x5 v7 x6
def jX4_askNow_35 (k15 : Int32 → Int32 → Int32 → Option (Int32 × q_S)) (s0 : q_S) (v1 : Int32) (v2 : Int32) (v3 : Int32) (v4 : Int32) (v5 : Int32) (k35 : Int32 → Int32 → Int32 → Option (Int32 × q_S)) (v6 : Int32) (v7 : Int32) (v8 : Int32) : Option (Int32 × q_S) := if (9 : Int32) < v8 then (if v6 ≤ (v7 - v6) then (zX4_askNow_112 k15 v3 v4 v5 (v7 - v6)) else (zX4_askNow_112 k15 v3 v4 v5 v6)) else (q_lt (v7 + ((v2 >>> (v8 &&& 31)) &&& (1 : Int32))) fun x9 => q_b1 (zX4_isIn v2 v8) fun x10 => if x10 = 0 then (zX4_askNow_82 k35 x9 v8 v6) else (q_gd (q_ib v1 8) (if ((s0 8 v1.toNatClampNeg) + v8) ≤ v5 then (zX4_askNow_82 k35 x9 v8 v6) else (q_lt (v6 + (1 : Int32)) fun x15 => q_lt (v8 + 1) fun x16 => k35 x15 x9 x16))))
def zX4_askNow_35 (k15 : Int32 → Int32 → Int32 → Option (Int32 × q_S)) (s0 : q_S) (v1 : Int32) (v2 : Int32) (v3 : Int32) (v4 : Int32) (v5 : Int32) : Nat → Int32 → Int32 → Int32 → Option (Int32 × q_S)
  | 0, _, _, _ => none
  | n + 1, v6, v7, v8 => jX4_askNow_35 k15 s0 v1 v2 v3 v4 v5 (zX4_askNow_35 k15 s0 v1 v2 v3 v4 v5 n) v6 v7 v8
theorem zX4_askNow_35_s (k15 : Int32 → Int32 → Int32 → Option (Int32 × q_S)) (s0 : q_S) (v1 : Int32) (v2 : Int32) (v3 : Int32) (v4 : Int32) (v5 : Int32) (n : Nat) (v6 : Int32) (v7 : Int32) (v8 : Int32) : zX4_askNow_35 k15 s0 v1 v2 v3 v4 v5 (n + 1) v6 v7 v8 = jX4_askNow_35 k15 s0 v1 v2 v3 v4 v5 (zX4_askNow_35 k15 s0 v1 v2 v3 v4 v5 n) v6 v7 v8 := rfl
def jX4_askNow_15 (s0 : q_S) (v1 : Int32) (v2 : Int32) (k15 : Int32 → Int32 → Int32 → Option (Int32 × q_S)) (v3 : Int32) (v4 : Int32) (v5 : Int32) : Option (Int32 × q_S) := if (20 : Int32) < v5 then (some (v3, s0)) else (if v2 = 0 then (some (v3, s0)) else (zX4_askNow_35 k15 s0 v1 v2 v3 v4 v5 70000 (0 : Int32) (0 : Int32) (0 : Int32)))
def zX4_askNow_15 (s0 : q_S) (v1 : Int32) (v2 : Int32) : Nat → Int32 → Int32 → Int32 → Option (Int32 × q_S)
  | 0, _, _, _ => none
  | n + 1, v3, v4, v5 => jX4_askNow_15 s0 v1 v2 (zX4_askNow_15 s0 v1 v2 n) v3 v4 v5
theorem zX4_askNow_15_s (s0 : q_S) (v1 : Int32) (v2 : Int32) (n : Nat) (v3 : Int32) (v4 : Int32) (v5 : Int32) : zX4_askNow_15 s0 v1 v2 (n + 1) v3 v4 v5 = jX4_askNow_15 s0 v1 v2 (zX4_askNow_15 s0 v1 v2 n) v3 v4 v5 := rfl
def zX4_askNow (s0 : q_S) (v1 : Int32) : Option (Int32 × q_S) := q_b2 (zX4_bakedNow s0 v1) fun x19 y20 => zX4_askNow_15 y20 v1 x19 70000 (-1 : Int32) (268435456 : Int32) (0 : Int32)
set_option maxHeartbeats 4000000 in
set_option maxRecDepth 100000 in
theorem kX4_askNow (l : Launch) (E : q_E) (h0 : Nat) (a0 : Nat → Nat) (s0 : q_S) (g0 : q_G) (v1 : Int32) (sz : Nat) (r : Int32) (rs0 : q_S) (h : zX4_askNow s0 v1 = some (r, rs0)) : q_MU l E yX4_askNow cX4_askNow 9 (some .int) 5 [.ref h0, .int v1] sz (q_cM E h0 a0 s0 g0) (q_cM E h0 a0 rs0 g0) (some (.int r)) := by
  refine q_MU.intro (by decide) (Nat.le_of_ble_eq_true rfl) ?_
  intro p e s m args below meth c A X hP hD hA hAl ls hl
  obtain ⟨hx, hb, hml, hr, hlk, hown, hB, hE⟩ := X
  have hown : s.vm.findClass RX4 = some m.cls := hown
  have F : q_Fx p s m c E RX4 cX4_askNow 9 := ⟨hx, hb, hml, hown, hB, hE⟩
  have hS : va_S A s.heap s.heap [] := va_S.rf
  have hl : lv_has ls 9 [(0, .ref h0), (1, .int v1)] := hl
  have K15 : ∀ (n15_ : Nat), ∀ (v1 : Int32) (v2 : Int32) (v3 : Int32) (v4 : Int32) (v5 : Int32) (s0 : q_S), ∀ (H : Heap) (locs : List Loc), va_P (q_D E) vwCl (q_cM E h0 a0 s0 g0) H → va_D A (q_cM E h0 a0 s0 g0) → va_S A s.heap H locs → ∀ ls : Array Slot, lv_has ls 9 [(0, .ref h0), (1, .int v1), (2, .int v2), (3, .int v3), (4, .int v4), (5, .int v5)] → zX4_askNow_15 s0 v1 v2 n15_ v3 v4 v5 = some (r, rs0) → W p l e (q_rm 5) s m args below meth c H locs 0 0 (MQ below (q_muQ E A (q_cM E h0 a0 rs0 g0) (some (.int r))) args s 0 0 A) (F0 m 15 ls []) := by
    intro n15_
    induction n15_ with
    | zero => intro v1 v2 v3 v4 v5 s0 H locs hP hD hS ls hl h; exact q_nn h
    | succ n15_ ih15 =>
      have K127 : ∀ (v1 : Int32) (v2 : Int32) (v4 : Int32) (v5 : Int32) (v8 : Int32) (t0 : Int32) (s0 : q_S), ∀ (H : Heap) (locs : List Loc), va_P (q_D E) vwCl (q_cM E h0 a0 s0 g0) H → va_D A (q_cM E h0 a0 s0 g0) → va_S A s.heap H locs → ∀ ls : Array Slot, lv_has ls 9 [(0, .ref h0), (1, .int v1), (2, .int v2), (4, .int v4), (5, .int v5), (8, .int v8)] → zX4_askNow_127 (zX4_askNow_15 s0 v1 v2 n15_) v4 v5 v8 t0 = some (r, rs0) → W p l e (q_rm 5) s m args below meth c H locs 0 0 (MQ below (q_muQ E A (q_cM E h0 a0 rs0 g0) (some (.int r))) args s 0 0 A) (F0 m 127 ls [.int t0]) := by
        intro v1 v2 v4 v5 v8 t0 s0 H locs hP hD hS ls hl h
        unfold zX4_askNow_127 at h
        refine lv_istore_n (lv' := [(3, .int t0), (0, .ref h0), (1, .int v1), (2, .int v2), (4, .int v4), (5, .int v5), (8, .int v8)]) hx hb dX4_askNow_127 rfl hl (by decide) rfl (fun ls hl => ?_)
        refine lv_iload hx hb dX4_askNow_128 (lv_at hl 6 rfl) ?_
        refine lv_iload hx hb dX4_askNow_130 (lv_at hl 4 rfl) ?_
        refine lv_icmp_ge (tgt := 140) hx hb dX4_askNow_132 (by decide) (fun c1 => ?_) (fun c1 => ?_)
        · replace h := q_i1 c1 h
          refine lv_iload hx hb dX4_askNow_140 (lv_at hl 4 rfl) ?_
          refine lv_istore (lv' := [(4, .int v4), (3, .int t0), (0, .ref h0), (1, .int v1), (2, .int v2), (5, .int v5), (8, .int v8)]) hx hb dX4_askNow_142 hl (by decide) rfl (fun ls hl => ?_)
          obtain ⟨x2, ex2, h⟩ := q_ol h
          refine lv_iinc (v := x2) (lv' := [(5, .int x2), (4, .int v4), (3, .int t0), (0, .ref h0), (1, .int v1), (2, .int v2), (8, .int v8)]) hx hb dX4_askNow_144 hl (k := 5) rfl (by rw [ex2]; rfl) (by decide) rfl (fun ls hl => ?_)
          refine lv_goto (tgt := 15) hx hb dX4_askNow_147 (by decide) ?_
          exact ih15 v1 v2 t0 v4 x2 s0 H _ hP hD hS ls (lv_sub hl [3, 4, 5, 2, 1, 0] rfl) h
        · replace h := q_i2 c1 h
          refine lv_iload hx hb dX4_askNow_135 (lv_at hl 6 rfl) ?_
          refine lv_goto (tgt := 142) hx hb dX4_askNow_137 (by decide) ?_
          refine lv_istore (lv' := [(4, .int v8), (3, .int t0), (0, .ref h0), (1, .int v1), (2, .int v2), (5, .int v5), (8, .int v8)]) hx hb dX4_askNow_142 hl (by decide) rfl (fun ls hl => ?_)
          obtain ⟨x3, ex3, h⟩ := q_ol h
          refine lv_iinc (v := x3) (lv' := [(5, .int x3), (4, .int v8), (3, .int t0), (0, .ref h0), (1, .int v1), (2, .int v2), (8, .int v8)]) hx hb dX4_askNow_144 hl (k := 5) rfl (by rw [ex3]; rfl) (by decide) rfl (fun ls hl => ?_)
          refine lv_goto (tgt := 15) hx hb dX4_askNow_147 (by decide) ?_
          exact ih15 v1 v2 t0 v8 x3 s0 H _ hP hD hS ls (lv_sub hl [3, 4, 5, 2, 1, 0] rfl) h
      have K112 : ∀ (v1 : Int32) (v2 : Int32) (v3 : Int32) (v4 : Int32) (v5 : Int32) (t0 : Int32) (s0 : q_S), ∀ (H : Heap) (locs : List Loc), va_P (q_D E) vwCl (q_cM E h0 a0 s0 g0) H → va_D A (q_cM E h0 a0 s0 g0) → va_S A s.heap H locs → ∀ ls : Array Slot, lv_has ls 9 [(0, .ref h0), (1, .int v1), (2, .int v2), (3, .int v3), (4, .int v4), (5, .int v5)] → zX4_askNow_112 (zX4_askNow_15 s0 v1 v2 n15_) v3 v4 v5 t0 = some (r, rs0) → W p l e (q_rm 5) s m args below meth c H locs 0 0 (MQ below (q_muQ E A (q_cM E h0 a0 rs0 g0) (some (.int r))) args s 0 0 A) (F0 m 112 ls [.int t0]) := by
        intro v1 v2 v3 v4 v5 t0 s0 H locs hP hD hS ls hl h
        unfold zX4_askNow_112 at h
        refine lv_istore (lv' := [(8, .int t0), (0, .ref h0), (1, .int v1), (2, .int v2), (3, .int v3), (4, .int v4), (5, .int v5)]) hx hb dX4_askNow_112 hl (by decide) rfl (fun ls hl => ?_)
        refine lv_iload hx hb dX4_askNow_114 (lv_at hl 0 rfl) ?_
        refine lv_iload hx hb dX4_askNow_116 (lv_at hl 5 rfl) ?_
        refine lv_icmp_ge (tgt := 126) hx hb dX4_askNow_118 (by decide) (fun c4 => ?_) (fun c4 => ?_)
        · replace h := q_i1 c4 h
          refine lv_iload_n hx hb dX4_askNow_126 rfl (lv_at hl 4 rfl) ?_
          exact K127 v1 v2 v4 v5 t0 v3 s0 H _ hP hD hS ls (lv_sub hl [1, 2, 3, 5, 6, 0] rfl) h
        · replace h := q_i2 c4 h
          refine lv_iload hx hb dX4_askNow_121 (lv_at hl 6 rfl) ?_
          refine lv_goto (tgt := 127) hx hb dX4_askNow_123 (by decide) ?_
          exact K127 v1 v2 v4 v5 t0 v5 s0 H _ hP hD hS ls (lv_sub hl [1, 2, 3, 5, 6, 0] rfl) h
      have K35 : ∀ (n35_ : Nat), ∀ (v1 : Int32) (v2 : Int32) (v3 : Int32) (v4 : Int32) (v5 : Int32) (v6 : Int32) (v7 : Int32) (v8 : Int32) (s0 : q_S), ∀ (H : Heap) (locs : List Loc), va_P (q_D E) vwCl (q_cM E h0 a0 s0 g0) H → va_D A (q_cM E h0 a0 s0 g0) → va_S A s.heap H locs → ∀ ls : Array Slot, lv_has ls 9 [(0, .ref h0), (1, .int v1), (2, .int v2), (3, .int v3), (4, .int v4), (5, .int v5), (6, .int v6), (7, .int v7), (8, .int v8)] → zX4_askNow_35 (zX4_askNow_15 s0 v1 v2 n15_) s0 v1 v2 v3 v4 v5 n35_ v6 v7 v8 = some (r, rs0) → W p l e (q_rm 5) s m args below meth c H locs 0 0 (MQ below (q_muQ E A (q_cM E h0 a0 rs0 g0) (some (.int r))) args s 0 0 A) (F0 m 35 ls []) := by
        intro n35_
        induction n35_ with
        | zero => intro v1 v2 v3 v4 v5 v6 v7 v8 s0 H locs hP hD hS ls hl h; exact q_nn h
        | succ n35_ ih35 =>
          have K82 : ∀ (v1 : Int32) (v2 : Int32) (v3 : Int32) (v4 : Int32) (v5 : Int32) (v7 : Int32) (v8 : Int32) (t0 : Int32) (s0 : q_S), ∀ (H : Heap) (locs : List Loc), va_P (q_D E) vwCl (q_cM E h0 a0 s0 g0) H → va_D A (q_cM E h0 a0 s0 g0) → va_S A s.heap H locs → ∀ ls : Array Slot, lv_has ls 9 [(0, .ref h0), (1, .int v1), (2, .int v2), (3, .int v3), (4, .int v4), (5, .int v5), (7, .int v7), (8, .int v8)] → zX4_askNow_82 (zX4_askNow_35 (zX4_askNow_15 s0 v1 v2 n15_) s0 v1 v2 v3 v4 v5 n35_) v7 v8 t0 = some (r, rs0) → W p l e (q_rm 5) s m args below meth c H locs 0 0 (MQ below (q_muQ E A (q_cM E h0 a0 rs0 g0) (some (.int r))) args s 0 0 A) (F0 m 82 ls [.int t0]) := by
            intro v1 v2 v3 v4 v5 v7 v8 t0 s0 H locs hP hD hS ls hl h
            unfold zX4_askNow_82 at h
            refine lv_iconst (v := 0) hx hb dX4_askNow_82 (by decide) ?_
            refine lv_iadd hx hb dX4_askNow_83 ?_
            obtain ⟨x5, ex5, h⟩ := q_ol h
            refine q_top ex5 ?_
            refine lv_istore (lv' := [(6, .int x5), (0, .ref h0), (1, .int v1), (2, .int v2), (3, .int v3), (4, .int v4), (5, .int v5), (7, .int v7), (8, .int v8)]) hx hb dX4_askNow_84 hl (by decide) rfl (fun ls hl => ?_)
            obtain ⟨x6, ex6, h⟩ := q_ol h
            refine lv_iinc (v := x6) (lv' := [(8, .int x6), (6, .int x5), (0, .ref h0), (1, .int v1), (2, .int v2), (3, .int v3), (4, .int v4), (5, .int v5), (7, .int v7)]) hx hb dX4_askNow_86 hl (k := 8) rfl (by rw [ex6]; rfl) (by decide) rfl (fun ls hl => ?_)
            refine lv_goto (tgt := 35) hx hb dX4_askNow_89 (by decide) ?_
            exact ih35 v1 v2 v3 v4 v5 x5 v7 x6 s0 H _ hP hD hS ls (lv_sub hl [2, 3, 4, 5, 6, 7, 1, 8, 0] rfl) h
          intro v1 v2 v3 v4 v5 v6 v7 v8 s0 H locs hP hD hS ls hl h
          rw [zX4_askNow_35_s] at h
          unfold jX4_askNow_35 at h
          refine lv_iload hx hb dX4_askNow_35 (lv_at hl 8 rfl) ?_
          refine lv_bipush (v := 9) hx hb dX4_askNow_37 (by decide) ?_
          refine lv_icmp_gt (tgt := 92) hx hb dX4_askNow_39 (by decide) (fun c7 => ?_) (fun c7 => ?_)
          · replace h := q_i1 c7 h
            refine lv_iload hx hb dX4_askNow_92 (lv_at hl 6 rfl) ?_
            refine lv_iload hx hb dX4_askNow_94 (lv_at hl 7 rfl) ?_
            refine lv_iload hx hb dX4_askNow_96 (lv_at hl 6 rfl) ?_
            refine lv_isub hx hb dX4_askNow_98 ?_
            refine lv_icmp_le (tgt := 107) hx hb dX4_askNow_99 (by decide) (fun c8 => ?_) (fun c8 => ?_)
            · replace h := q_i1 c8 h
              refine lv_iload hx hb dX4_askNow_107 (lv_at hl 7 rfl) ?_
              refine lv_iload hx hb dX4_askNow_109 (lv_at hl 6 rfl) ?_
              refine lv_isub hx hb dX4_askNow_111 ?_
              exact K112 v1 v2 v3 v4 v5 (v7 - v6) s0 H _ hP hD hS ls (lv_sub hl [0, 1, 2, 3, 4, 5] rfl) h
            · replace h := q_i2 c8 h
              refine lv_iload hx hb dX4_askNow_102 (lv_at hl 6 rfl) ?_
              refine lv_goto (tgt := 112) hx hb dX4_askNow_104 (by decide) ?_
              exact K112 v1 v2 v3 v4 v5 v6 s0 H _ hP hD hS ls (lv_sub hl [0, 1, 2, 3, 4, 5] rfl) h
          · replace h := q_i2 c7 h
            refine lv_iload hx hb dX4_askNow_42 (lv_at hl 7 rfl) ?_
            refine lv_iload_n hx hb dX4_askNow_44 rfl (lv_at hl 2 rfl) ?_
            refine lv_iload hx hb dX4_askNow_45 (lv_at hl 8 rfl) ?_
            refine lv_ishr hx hb dX4_askNow_47 ?_
            refine lv_iconst (v := 1) hx hb dX4_askNow_48 (by decide) ?_
            refine lv_iand hx hb dX4_askNow_49 ?_
            refine lv_iadd hx hb dX4_askNow_50 ?_
            obtain ⟨x9, ex9, h⟩ := q_ol h
            refine q_top ex9 ?_
            refine lv_istore (lv' := [(7, .int x9), (0, .ref h0), (1, .int v1), (2, .int v2), (3, .int v3), (4, .int v4), (5, .int v5), (6, .int v6), (8, .int v8)]) hx hb dX4_askNow_51 hl (by decide) rfl (fun ls hl => ?_)
            refine lv_iload hx hb dX4_askNow_53 (lv_at hl 7 rfl) ?_
            refine lv_iload_n hx hb dX4_askNow_55 rfl (lv_at hl 3 rfl) ?_
            refine lv_iload hx hb dX4_askNow_56 (lv_at hl 8 rfl) ?_
            obtain ⟨x10, c11, h⟩ := q_o1 h
            refine q_roS F (kX4_isIn l E  v2 v8 x10 c11) q_cX4_isIn q_lX4_126 (q_EV.go F.2.2.2.2.2 hAl hS) (fun k q h => by simp at h) ⟨by decide, by decide⟩ rfl ⟨_, hl⟩ (rest := [.int v6]) rfl (Nat.le_of_ble_eq_true rfl) dX4_askNow_58 ?_
            refine lv_if_eq (tgt := 82) hx hb dX4_askNow_61 (by decide) (fun c12 => ?_) (fun c12 => ?_)
            · replace h := q_i1 c12 h
              exact K82 v1 v2 v3 v4 v5 x9 v8 v6 s0 H _ hP hD hS ls (lv_sub hl [1, 2, 3, 4, 5, 6, 0, 8] rfl) h
            · replace h := q_i2 c12 h
              refine lv_aload_n hx hb dX4_askNow_64 rfl (lv_at hl 1 rfl) ?_
              refine q_get F q_K4 hP 0 rfl 8 (by decide) q_fX4_26 rfl dX4_askNow_65 ?_
              refine lv_iload_n hx hb dX4_askNow_68 rfl (lv_at hl 2 rfl) ?_
              obtain ⟨eg13, h⟩ := q_og h
              refine q_iald F hP 6 rfl eg13 dX4_askNow_69 ?_
              refine lv_iload hx hb dX4_askNow_70 (lv_at hl 8 rfl) ?_
              refine lv_iadd hx hb dX4_askNow_72 ?_
              refine lv_iload hx hb dX4_askNow_73 (lv_at hl 6 rfl) ?_
              refine lv_icmp_le (tgt := 82) hx hb dX4_askNow_75 (by decide) (fun c14 => ?_) (fun c14 => ?_)
              · replace h := q_i1 c14 h
                exact K82 v1 v2 v3 v4 v5 x9 v8 v6 s0 H _ hP hD hS ls (lv_sub hl [1, 2, 3, 4, 5, 6, 0, 8] rfl) h
              · replace h := q_i2 c14 h
                refine lv_iconst (v := 1) hx hb dX4_askNow_78 (by decide) ?_
                refine lv_goto (tgt := 83) hx hb dX4_askNow_79 (by decide) ?_
                refine lv_iadd hx hb dX4_askNow_83 ?_
                obtain ⟨x15, ex15, h⟩ := q_ol h
                refine q_top ex15 ?_
                refine lv_istore (lv' := [(6, .int x15), (7, .int x9), (0, .ref h0), (1, .int v1), (2, .int v2), (3, .int v3), (4, .int v4), (5, .int v5), (8, .int v8)]) hx hb dX4_askNow_84 hl (by decide) rfl (fun ls hl => ?_)
                obtain ⟨x16, ex16, h⟩ := q_ol h
                refine lv_iinc (v := x16) (lv' := [(8, .int x16), (6, .int x15), (7, .int x9), (0, .ref h0), (1, .int v1), (2, .int v2), (3, .int v3), (4, .int v4), (5, .int v5)]) hx hb dX4_askNow_86 hl (k := 8) rfl (by rw [ex16]; rfl) (by decide) rfl (fun ls hl => ?_)
                refine lv_goto (tgt := 35) hx hb dX4_askNow_89 (by decide) ?_
                exact ih35 v1 v2 v3 v4 v5 x15 x9 x16 s0 H _ hP hD hS ls (lv_sub hl [3, 4, 5, 6, 7, 8, 1, 2, 0] rfl) h
      intro v1 v2 v3 v4 v5 s0 H locs hP hD hS ls hl h
      rw [zX4_askNow_15_s] at h
      unfold jX4_askNow_15 at h
      refine lv_iload hx hb dX4_askNow_15 (lv_at hl 5 rfl) ?_
      refine lv_bipush (v := 20) hx hb dX4_askNow_17 (by decide) ?_
      refine lv_icmp_gt (tgt := 150) hx hb dX4_askNow_19 (by decide) (fun c17 => ?_) (fun c17 => ?_)
      · replace h := q_i1 c17 h
        refine lv_iload_n hx hb dX4_askNow_150 rfl (lv_at hl 3 rfl) ?_
        cases h
        exact q_wI F hr hlk dX4_askNow_151 hP hD hS
      · replace h := q_i2 c17 h
        refine lv_iload_n hx hb dX4_askNow_22 rfl (lv_at hl 2 rfl) ?_
        refine lv_if_eq (tgt := 150) hx hb dX4_askNow_23 (by decide) (fun c18 => ?_) (fun c18 => ?_)
        · replace h := q_i1 c18 h
          refine lv_iload_n hx hb dX4_askNow_150 rfl (lv_at hl 3 rfl) ?_
          cases h
          exact q_wI F hr hlk dX4_askNow_151 hP hD hS
        · replace h := q_i2 c18 h
          refine lv_iconst (v := 0) hx hb dX4_askNow_26 (by decide) ?_
          refine lv_istore (lv' := [(6, .int (0 : Int32)), (0, .ref h0), (1, .int v1), (2, .int v2), (3, .int v3), (4, .int v4), (5, .int v5)]) hx hb dX4_askNow_27 hl (by decide) rfl (fun ls hl => ?_)
          refine lv_iconst (v := 0) hx hb dX4_askNow_29 (by decide) ?_
          refine lv_istore (lv' := [(7, .int (0 : Int32)), (6, .int (0 : Int32)), (0, .ref h0), (1, .int v1), (2, .int v2), (3, .int v3), (4, .int v4), (5, .int v5)]) hx hb dX4_askNow_30 hl (by decide) rfl (fun ls hl => ?_)
          refine lv_iconst (v := 0) hx hb dX4_askNow_32 (by decide) ?_
          refine lv_istore (lv' := [(8, .int (0 : Int32)), (7, .int (0 : Int32)), (6, .int (0 : Int32)), (0, .ref h0), (1, .int v1), (2, .int v2), (3, .int v3), (4, .int v4), (5, .int v5)]) hx hb dX4_askNow_33 hl (by decide) rfl (fun ls hl => ?_)
          exact K35 70000 v1 v2 v3 v4 v5 (0 : Int32) (0 : Int32) (0 : Int32) s0 H _ hP hD hS ls (lv_sub hl [3, 4, 5, 6, 7, 8, 2, 1, 0] rfl) h
  unfold zX4_askNow at h
  refine lv_aload_n hx hb dX4_askNow_0 rfl (lv_at hl 0 rfl) ?_
  refine lv_iload_n hx hb dX4_askNow_1 rfl (lv_at hl 1 rfl) ?_
  obtain ⟨x19, y20, c21, h⟩ := q_o2 h
  refine q_muV F (kX4_bakedNow l E h0 a0 s0 g0 v1 s.heap.size x19 y20 c21) q_cX4_bakedNow q_lX4_169 (q_s_M_M_0w E h0 a0 s0 g0 y20 g0) hP hD hS hA hAl ⟨by decide, by decide⟩ (q0 := 0) rfl rfl rfl rfl ⟨_, hl⟩ (rest := []) rfl (Nat.le_of_ble_eq_true rfl) dX4_askNow_2 (fun H locs (hP : va_P (q_D E) vwCl (q_cM E h0 a0 y20 g0) H) hD hS => ?_)
  refine lv_istore_n (lv' := [(2, .int x19), (0, .ref h0), (1, .int v1)]) hx hb dX4_askNow_5 rfl hl (by decide) rfl (fun ls hl => ?_)
  refine lv_iconst (v := (-1)) hx hb dX4_askNow_6 (by decide) ?_
  refine lv_istore_n (lv' := [(3, .int (-1 : Int32)), (2, .int x19), (0, .ref h0), (1, .int v1)]) hx hb dX4_askNow_7 rfl hl (by decide) rfl (fun ls hl => ?_)
  refine lv_ldc (v := 268435456) hx hb hown (hB _ q_kX4_190 _) dX4_askNow_8 ?_
  refine lv_istore (lv' := [(4, .int (268435456 : Int32)), (3, .int (-1 : Int32)), (2, .int x19), (0, .ref h0), (1, .int v1)]) hx hb dX4_askNow_10 hl (by decide) rfl (fun ls hl => ?_)
  refine lv_iconst (v := 0) hx hb dX4_askNow_12 (by decide) ?_
  refine lv_istore (lv' := [(5, .int (0 : Int32)), (4, .int (268435456 : Int32)), (3, .int (-1 : Int32)), (2, .int x19), (0, .ref h0), (1, .int v1)]) hx hb dX4_askNow_13 hl (by decide) rfl (fun ls hl => ?_)
  exact K15 70000 v1 x19 (-1 : Int32) (268435456 : Int32) (0 : Int32) y20 H _ hP hD hS ls (lv_sub hl [4, 5, 3, 2, 1, 0] rfl) h
def zX4_loafNow (s0 : q_S) (v1 : Int32) (v2 : Int32) : Option (Int32 × q_S) := if v2 = 0 then (q_gd (q_ib v1 8) (some ((s0 8 v1.toNatClampNeg), s0))) else (if v2 = 1 then (q_gd (q_ib v1 8) (some ((s0 9 v1.toNatClampNeg), s0))) else (if v2 = 2 then (some ((((s0 10 0) >>> (v1 &&& 31)) &&& (1 : Int32)), s0)) else (if v2 = 3 then (q_b2 (zX4_bakedNow s0 v1) fun x7 y8 => some (x7, y8)) else (q_b2 (zX4_askNow s0 v1) fun x10 y11 => some (x10, y11)))))
set_option maxHeartbeats 4000000 in
set_option maxRecDepth 100000 in
theorem kX4_loafNow (l : Launch) (E : q_E) (h0 : Nat) (a0 : Nat → Nat) (s0 : q_S) (g0 : q_G) (v1 : Int32) (v2 : Int32) (sz : Nat) (r : Int32) (rs0 : q_S) (h : zX4_loafNow s0 v1 v2 = some (r, rs0)) : q_MU l E yX4_loafNow cX4_loafNow 3 (some .int) 6 [.ref h0, .int v1, .int v2] sz (q_cM E h0 a0 s0 g0) (q_cM E h0 a0 rs0 g0) (some (.int r)) := by
  refine q_MU.intro (by decide) (Nat.le_of_ble_eq_true rfl) ?_
  intro p e s m args below meth c A X hP hD hA hAl ls hl
  obtain ⟨hx, hb, hml, hr, hlk, hown, hB, hE⟩ := X
  have hown : s.vm.findClass RX4 = some m.cls := hown
  have F : q_Fx p s m c E RX4 cX4_loafNow 3 := ⟨hx, hb, hml, hown, hB, hE⟩
  have hS : va_S A s.heap s.heap [] := va_S.rf
  have hl : lv_has ls 3 [(0, .ref h0), (1, .int v1), (2, .int v2)] := hl
  unfold zX4_loafNow at h
  refine lv_iload_n hx hb dX4_loafNow_0 rfl (lv_at hl 2 rfl) ?_
  by_cases c1 : v2 = 0
  · replace h := q_i1 c1 h
    refine lv_tableIn (off := 31) (tgt := 32) hx hb dX4_loafNow_1 (by rw [c1]; decide) (by rw [c1]; decide) (by rw [c1]; rfl) (by decide) ?_
    refine lv_aload_n hx hb dX4_loafNow_32 rfl (lv_at hl 0 rfl) ?_
    refine q_get F q_K4 hP 0 rfl 8 (by decide) q_fX4_26 rfl dX4_loafNow_33 ?_
    refine lv_iload_n hx hb dX4_loafNow_36 rfl (lv_at hl 1 rfl) ?_
    obtain ⟨eg2, h⟩ := q_og h
    refine q_iald F hP 6 rfl eg2 dX4_loafNow_37 ?_
    cases h
    exact q_wI F hr hlk dX4_loafNow_38 hP hD hS
  · replace h := q_i2 c1 h
    by_cases c3 : v2 = 1
    · replace h := q_i1 c3 h
      refine lv_tableIn (off := 38) (tgt := 39) hx hb dX4_loafNow_1 (by rw [c3]; decide) (by rw [c3]; decide) (by rw [c3]; rfl) (by decide) ?_
      refine lv_aload_n hx hb dX4_loafNow_39 rfl (lv_at hl 0 rfl) ?_
      refine q_get F q_K4 hP 0 rfl 9 (by decide) q_fX4_29 rfl dX4_loafNow_40 ?_
      refine lv_iload_n hx hb dX4_loafNow_43 rfl (lv_at hl 1 rfl) ?_
      obtain ⟨eg4, h⟩ := q_og h
      refine q_iald F hP 7 rfl eg4 dX4_loafNow_44 ?_
      cases h
      exact q_wI F hr hlk dX4_loafNow_45 hP hD hS
    · replace h := q_i2 c3 h
      by_cases c5 : v2 = 2
      · replace h := q_i1 c5 h
        refine lv_tableIn (off := 45) (tgt := 46) hx hb dX4_loafNow_1 (by rw [c5]; decide) (by rw [c5]; decide) (by rw [c5]; rfl) (by decide) ?_
        refine lv_aload_n hx hb dX4_loafNow_46 rfl (lv_at hl 0 rfl) ?_
        refine q_get F q_K4 hP 0 rfl 10 (by decide) q_fX4_117 rfl dX4_loafNow_47 ?_
        refine lv_iload_n hx hb dX4_loafNow_50 rfl (lv_at hl 1 rfl) ?_
        refine lv_ishr hx hb dX4_loafNow_51 ?_
        refine lv_iconst (v := 1) hx hb dX4_loafNow_52 (by decide) ?_
        refine lv_iand hx hb dX4_loafNow_53 ?_
        cases h
        exact q_wI F hr hlk dX4_loafNow_54 hP hD hS
      · replace h := q_i2 c5 h
        by_cases c6 : v2 = 3
        · replace h := q_i1 c6 h
          refine lv_tableIn (off := 54) (tgt := 55) hx hb dX4_loafNow_1 (by rw [c6]; decide) (by rw [c6]; decide) (by rw [c6]; rfl) (by decide) ?_
          refine lv_aload_n hx hb dX4_loafNow_55 rfl (lv_at hl 0 rfl) ?_
          refine lv_iload_n hx hb dX4_loafNow_56 rfl (lv_at hl 1 rfl) ?_
          obtain ⟨x7, y8, c9, h⟩ := q_o2 h
          refine q_muV F (kX4_bakedNow l E h0 a0 s0 g0 v1 s.heap.size x7 y8 c9) q_cX4_bakedNow q_lX4_169 (q_s_M_M_0w E h0 a0 s0 g0 y8 g0) hP hD hS hA hAl ⟨by decide, by decide⟩ (q0 := 0) rfl rfl rfl rfl ⟨_, hl⟩ (rest := []) rfl (Nat.le_of_ble_eq_true rfl) dX4_loafNow_57 (fun H locs (hP : va_P (q_D E) vwCl (q_cM E h0 a0 y8 g0) H) hD hS => ?_)
          cases h
          exact q_wI F hr hlk dX4_loafNow_60 hP hD hS
        · replace h := q_i2 c6 h
          refine lv_tableOut (tgt := 61) hx hb dX4_loafNow_1 (by have zc1 := lv_neT c1 (a := 0) (by decide); have zc3 := lv_neT c3 (a := 1) (by decide); have zc5 := lv_neT c5 (a := 2) (by decide); have zc6 := lv_neT c6 (a := 3) (by decide); omega) (by decide) ?_
          refine lv_aload_n hx hb dX4_loafNow_61 rfl (lv_at hl 0 rfl) ?_
          refine lv_iload_n hx hb dX4_loafNow_62 rfl (lv_at hl 1 rfl) ?_
          obtain ⟨x10, y11, c12, h⟩ := q_o2 h
          refine q_muV F (kX4_askNow l E h0 a0 s0 g0 v1 s.heap.size x10 y11 c12) q_cX4_askNow q_lX4_172 (q_s_M_M_0w E h0 a0 s0 g0 y11 g0) hP hD hS hA hAl ⟨by decide, by decide⟩ (q0 := 0) rfl rfl rfl rfl ⟨_, hl⟩ (rest := []) rfl (Nat.le_of_ble_eq_true rfl) dX4_loafNow_63 (fun H locs (hP : va_P (q_D E) vwCl (q_cM E h0 a0 y11 g0) H) hD hS => ?_)
          cases h
          exact q_wI F hr hlk dX4_loafNow_66 hP hD hS
def zX4_loaf (s0 : q_S) (v1 : Int32) (v2 : Int32) : Option (Int32 × q_S) := q_b1 (zX4_isLoaf s0 v1) fun x1 => if x1 = 0 then (some ((-101 : Int32), s0)) else (q_b1 (zX4_within v2 (0 : Int32) (4 : Int32)) fun x4 => if x4 = 0 then (some ((-102 : Int32), s0)) else (q_b2 (zX4_loafNow s0 v1 v2) fun x7 y8 => some (x7, y8)))
set_option maxHeartbeats 4000000 in
set_option maxRecDepth 100000 in
theorem kX4_loaf (l : Launch) (E : q_E) (h0 : Nat) (a0 : Nat → Nat) (s0 : q_S) (g0 : q_G) (v1 : Int32) (v2 : Int32) (sz : Nat) (r : Int32) (rs0 : q_S) (h : zX4_loaf s0 v1 v2 = some (r, rs0)) : q_MU l E yX4_loaf cX4_loaf 3 (some .int) 7 [.ref h0, .int v1, .int v2] sz (q_cM E h0 a0 s0 g0) (q_cM E h0 a0 rs0 g0) (some (.int r)) := by
  refine q_MU.intro (by decide) (Nat.le_of_ble_eq_true rfl) ?_
  intro p e s m args below meth c A X hP hD hA hAl ls hl
  obtain ⟨hx, hb, hml, hr, hlk, hown, hB, hE⟩ := X
  have hown : s.vm.findClass RX4 = some m.cls := hown
  have F : q_Fx p s m c E RX4 cX4_loaf 3 := ⟨hx, hb, hml, hown, hB, hE⟩
  have hS : va_S A s.heap s.heap [] := va_S.rf
  have hl : lv_has ls 3 [(0, .ref h0), (1, .int v1), (2, .int v2)] := hl
  unfold zX4_loaf at h
  refine lv_aload_n hx hb dX4_loaf_0 rfl (lv_at hl 0 rfl) ?_
  refine lv_iload_n hx hb dX4_loaf_1 rfl (lv_at hl 1 rfl) ?_
  obtain ⟨x1, c2, h⟩ := q_o1 h
  refine q_roV F (kX4_isLoaf l E h0 a0 s0 g0 v1 x1 c2) q_cX4_isLoaf q_lX4_175 (q_EV.go F.2.2.2.2.2 hAl hS) hP ⟨by decide, by decide⟩ (q0 := 0) rfl rfl rfl rfl ⟨_, hl⟩ (rest := []) rfl (Nat.le_of_ble_eq_true rfl) dX4_loaf_2 ?_
  refine lv_if_ne (tgt := 13) hx hb dX4_loaf_5 (by decide) (fun c3 => ?_) (fun c3 => ?_)
  · replace h := q_i2 c3 h
    refine lv_iload_n hx hb dX4_loaf_13 rfl (lv_at hl 2 rfl) ?_
    refine lv_iconst (v := 0) hx hb dX4_loaf_14 (by decide) ?_
    refine lv_iconst (v := 4) hx hb dX4_loaf_15 (by decide) ?_
    obtain ⟨x4, c5, h⟩ := q_o1 h
    refine q_roS F (kX4_within l E  v2 (0 : Int32) (4 : Int32) x4 c5) q_cX4_within q_lX4_75 (q_EV.go F.2.2.2.2.2 hAl hS) (fun k q h => by simp at h) ⟨by decide, by decide⟩ rfl ⟨_, hl⟩ (rest := []) rfl (Nat.le_of_ble_eq_true rfl) dX4_loaf_16 ?_
    refine lv_if_eq (tgt := 31) hx hb dX4_loaf_19 (by decide) (fun c6 => ?_) (fun c6 => ?_)
    · replace h := q_i1 c6 h
      refine lv_bipush (v := (-102)) hx hb dX4_loaf_31 (by decide) ?_
      cases h
      exact q_wI F hr hlk dX4_loaf_33 hP hD hS
    · replace h := q_i2 c6 h
      refine lv_aload_n hx hb dX4_loaf_22 rfl (lv_at hl 0 rfl) ?_
      refine lv_iload_n hx hb dX4_loaf_23 rfl (lv_at hl 1 rfl) ?_
      refine lv_iload_n hx hb dX4_loaf_24 rfl (lv_at hl 2 rfl) ?_
      obtain ⟨x7, y8, c9, h⟩ := q_o2 h
      refine q_muV F (kX4_loafNow l E h0 a0 s0 g0 v1 v2 s.heap.size x7 y8 c9) q_cX4_loafNow q_lX4_178 (q_s_M_M_0w E h0 a0 s0 g0 y8 g0) hP hD hS hA hAl ⟨by decide, by decide⟩ (q0 := 0) rfl rfl rfl rfl ⟨_, hl⟩ (rest := []) rfl (Nat.le_of_ble_eq_true rfl) dX4_loaf_25 (fun H locs (hP : va_P (q_D E) vwCl (q_cM E h0 a0 y8 g0) H) hD hS => ?_)
      refine lv_goto (tgt := 33) hx hb dX4_loaf_28 (by decide) ?_
      cases h
      exact q_wI F hr hlk dX4_loaf_33 hP hD hS
  · replace h := q_i1 c3 h
    refine lv_bipush (v := (-101)) hx hb dX4_loaf_8 (by decide) ?_
    refine lv_goto (tgt := 33) hx hb dX4_loaf_10 (by decide) ?_
    cases h
    exact q_wI F hr hlk dX4_loaf_33 hP hD hS
def zX4_eat (s0 : q_S) (v1 : Int32) (v2 : Int32) : Option (Int32 × q_S) := q_b1 (zX4_isEater s0 v1) fun x1 => if x1 = 0 then (some ((-101 : Int32), s0)) else (q_b1 (zX4_isLoaf s0 v2) fun x4 => if x4 = 0 then (some ((-101 : Int32), s0)) else (q_b1 (zX4_would s0 v1 v2) fun x7 => if x7 = 0 then (some ((-103 : Int32), s0)) else (q_b1 (zX4_eats s0 v1 v2) fun y10 => q_gd (q_ib v1 4) (some ((y10 5 v1.toNatClampNeg), y10)))))
set_option maxHeartbeats 4000000 in
set_option maxRecDepth 100000 in
theorem kX4_eat (l : Launch) (E : q_E) (h0 : Nat) (a0 : Nat → Nat) (s0 : q_S) (g0 : q_G) (v1 : Int32) (v2 : Int32) (sz : Nat) (r : Int32) (rs0 : q_S) (h : zX4_eat s0 v1 v2 = some (r, rs0)) : q_MU l E yX4_eat cX4_eat 3 (some .int) 3 [.ref h0, .int v1, .int v2] sz (q_cM E h0 a0 s0 g0) (q_cM E h0 a0 rs0 g0) (some (.int r)) := by
  refine q_MU.intro (by decide) (Nat.le_of_ble_eq_true rfl) ?_
  intro p e s m args below meth c A X hP hD hA hAl ls hl
  obtain ⟨hx, hb, hml, hr, hlk, hown, hB, hE⟩ := X
  have hown : s.vm.findClass RX4 = some m.cls := hown
  have F : q_Fx p s m c E RX4 cX4_eat 3 := ⟨hx, hb, hml, hown, hB, hE⟩
  have hS : va_S A s.heap s.heap [] := va_S.rf
  have hl : lv_has ls 3 [(0, .ref h0), (1, .int v1), (2, .int v2)] := hl
  unfold zX4_eat at h
  refine lv_aload_n hx hb dX4_eat_0 rfl (lv_at hl 0 rfl) ?_
  refine lv_iload_n hx hb dX4_eat_1 rfl (lv_at hl 1 rfl) ?_
  obtain ⟨x1, c2, h⟩ := q_o1 h
  refine q_roV F (kX4_isEater l E h0 a0 s0 g0 v1 x1 c2) q_cX4_isEater q_lX4_163 (q_EV.go F.2.2.2.2.2 hAl hS) hP ⟨by decide, by decide⟩ (q0 := 0) rfl rfl rfl rfl ⟨_, hl⟩ (rest := []) rfl (Nat.le_of_ble_eq_true rfl) dX4_eat_2 ?_
  refine lv_if_eq (tgt := 16) hx hb dX4_eat_5 (by decide) (fun c3 => ?_) (fun c3 => ?_)
  · replace h := q_i1 c3 h
    refine lv_bipush (v := (-101)) hx hb dX4_eat_16 (by decide) ?_
    cases h
    exact q_wI F hr hlk dX4_eat_18 hP hD hS
  · replace h := q_i2 c3 h
    refine lv_aload_n hx hb dX4_eat_8 rfl (lv_at hl 0 rfl) ?_
    refine lv_iload_n hx hb dX4_eat_9 rfl (lv_at hl 2 rfl) ?_
    obtain ⟨x4, c5, h⟩ := q_o1 h
    refine q_roV F (kX4_isLoaf l E h0 a0 s0 g0 v2 x4 c5) q_cX4_isLoaf q_lX4_175 (q_EV.go F.2.2.2.2.2 hAl hS) hP ⟨by decide, by decide⟩ (q0 := 0) rfl rfl rfl rfl ⟨_, hl⟩ (rest := []) rfl (Nat.le_of_ble_eq_true rfl) dX4_eat_10 ?_
    refine lv_if_ne (tgt := 19) hx hb dX4_eat_13 (by decide) (fun c6 => ?_) (fun c6 => ?_)
    · replace h := q_i2 c6 h
      refine lv_aload_n hx hb dX4_eat_19 rfl (lv_at hl 0 rfl) ?_
      refine lv_iload_n hx hb dX4_eat_20 rfl (lv_at hl 1 rfl) ?_
      refine lv_iload_n hx hb dX4_eat_21 rfl (lv_at hl 2 rfl) ?_
      obtain ⟨x7, c8, h⟩ := q_o1 h
      refine q_roV F (kX4_would l E h0 a0 s0 g0 v1 v2 x7 c8) q_cX4_would q_lX4_140 (q_EV.go F.2.2.2.2.2 hAl hS) hP ⟨by decide, by decide⟩ (q0 := 0) rfl rfl rfl rfl ⟨_, hl⟩ (rest := []) rfl (Nat.le_of_ble_eq_true rfl) dX4_eat_22 ?_
      refine lv_if_ne (tgt := 31) hx hb dX4_eat_25 (by decide) (fun c9 => ?_) (fun c9 => ?_)
      · replace h := q_i2 c9 h
        refine lv_aload_n hx hb dX4_eat_31 rfl (lv_at hl 0 rfl) ?_
        refine lv_iload_n hx hb dX4_eat_32 rfl (lv_at hl 1 rfl) ?_
        refine lv_iload_n hx hb dX4_eat_33 rfl (lv_at hl 2 rfl) ?_
        obtain ⟨y10, c11, h⟩ := q_o1 h
        refine q_muV F (kX4_eats l E h0 a0 s0 g0 v1 v2 s.heap.size y10 c11) q_cX4_eats q_lX4_143 (q_s_M_M_0w E h0 a0 s0 g0 y10 g0) hP hD hS hA hAl ⟨by decide, by decide⟩ (q0 := 0) rfl rfl rfl rfl ⟨_, hl⟩ (rest := []) rfl (Nat.le_of_ble_eq_true rfl) dX4_eat_34 (fun H locs (hP : va_P (q_D E) vwCl (q_cM E h0 a0 y10 g0) H) hD hS => ?_)
        refine lv_aload_n hx hb dX4_eat_37 rfl (lv_at hl 0 rfl) ?_
        refine q_get F q_K4 hP 0 rfl 5 (by decide) q_fX4_20 rfl dX4_eat_38 ?_
        refine lv_iload_n hx hb dX4_eat_41 rfl (lv_at hl 1 rfl) ?_
        obtain ⟨eg12, h⟩ := q_og h
        refine q_iald F hP 4 rfl eg12 dX4_eat_42 ?_
        cases h
        exact q_wI F hr hlk dX4_eat_43 hP hD hS
      · replace h := q_i1 c9 h
        refine lv_bipush (v := (-103)) hx hb dX4_eat_28 (by decide) ?_
        cases h
        exact q_wI F hr hlk dX4_eat_30 hP hD hS
    · replace h := q_i1 c6 h
      refine lv_bipush (v := (-101)) hx hb dX4_eat_16 (by decide) ?_
      cases h
      exact q_wI F hr hlk dX4_eat_18 hP hD hS
def zX4_halve (s0 : q_S) (v1 : Int32) (v2 : Int32) (v3 : Int32) : Option (Int32 × q_S) := q_b1 (zX4_isEater s0 v1) fun x1 => if x1 = 0 then (some ((-101 : Int32), s0)) else (q_b1 (zX4_isEater s0 v2) fun x4 => if x4 = 0 then (some ((-101 : Int32), s0)) else (if v1 = v2 then (some ((-101 : Int32), s0)) else (q_b1 (zX4_isLoaf s0 v3) fun x8 => if x8 = 0 then (some ((-101 : Int32), s0)) else (q_b1 (zX4_would s0 v1 v3) fun x11 => if x11 = 0 then (some ((-103 : Int32), s0)) else (q_b1 (zX4_would s0 v2 v3) fun x14 => if x14 = 0 then (some ((-103 : Int32), s0)) else (q_gd (q_ib v3 8) (q_gd (q_ib v3 8) (q_lt ((s0 8 v3.toNatClampNeg) + (s0 9 v3.toNatClampNeg)) fun x19 => q_gd (q_ib v1 4) (q_gd (q_ib v3 8) (q_gd (q_ib v1 4) (q_lt (q_u s0 6 v1.toNatClampNeg ((s0 6 v1.toNatClampNeg) + (((s0 8 v3.toNatClampNeg) + (1 : Int32)) / (2 : Int32)))) fun y23 => q_gd (q_ib v2 4) (q_gd (q_ib v3 8) (q_gd (q_ib v2 4) (q_lt (q_u y23 6 v2.toNatClampNeg ((y23 6 v2.toNatClampNeg) + ((y23 8 v3.toNatClampNeg) / (2 : Int32)))) fun y27 => q_b1 (zX4_takes y27 v1 ((x19 + (1 : Int32)) / (2 : Int32))) fun y28 => q_b1 (zX4_takes y28 v2 (x19 / (2 : Int32))) fun y30 => q_b1 (zX4_tires y30 v1 (1 : Int32)) fun y32 => q_b1 (zX4_tires y32 v2 (1 : Int32)) fun y34 => q_lt (q_u y34 10 0 ((y34 10 0) ||| ((1 : Int32) <<< (v3 &&& 31)))) fun y36 => q_gd (q_ib v1 4) (q_gd (q_ib v2 4) (some (((y36 5 v1.toNatClampNeg) + (y36 5 v2.toNatClampNeg)), y36)))))))))))))))))
set_option maxHeartbeats 4000000 in
set_option maxRecDepth 100000 in
theorem kX4_halve (l : Launch) (E : q_E) (h0 : Nat) (a0 : Nat → Nat) (s0 : q_S) (g0 : q_G) (v1 : Int32) (v2 : Int32) (v3 : Int32) (sz : Nat) (r : Int32) (rs0 : q_S) (h : zX4_halve s0 v1 v2 v3 = some (r, rs0)) : q_MU l E yX4_halve cX4_halve 5 (some .int) 3 [.ref h0, .int v1, .int v2, .int v3] sz (q_cM E h0 a0 s0 g0) (q_cM E h0 a0 rs0 g0) (some (.int r)) := by
  refine q_MU.intro (by decide) (Nat.le_of_ble_eq_true rfl) ?_
  intro p e s m args below meth c A X hP hD hA hAl ls hl
  obtain ⟨hx, hb, hml, hr, hlk, hown, hB, hE⟩ := X
  have hown : s.vm.findClass RX4 = some m.cls := hown
  have F : q_Fx p s m c E RX4 cX4_halve 5 := ⟨hx, hb, hml, hown, hB, hE⟩
  have hS : va_S A s.heap s.heap [] := va_S.rf
  have hl : lv_has ls 5 [(0, .ref h0), (1, .int v1), (2, .int v2), (3, .int v3)] := hl
  unfold zX4_halve at h
  refine lv_aload_n hx hb dX4_halve_0 rfl (lv_at hl 0 rfl) ?_
  refine lv_iload_n hx hb dX4_halve_1 rfl (lv_at hl 1 rfl) ?_
  obtain ⟨x1, c2, h⟩ := q_o1 h
  refine q_roV F (kX4_isEater l E h0 a0 s0 g0 v1 x1 c2) q_cX4_isEater q_lX4_163 (q_EV.go F.2.2.2.2.2 hAl hS) hP ⟨by decide, by decide⟩ (q0 := 0) rfl rfl rfl rfl ⟨_, hl⟩ (rest := []) rfl (Nat.le_of_ble_eq_true rfl) dX4_halve_2 ?_
  refine lv_if_eq (tgt := 29) hx hb dX4_halve_5 (by decide) (fun c3 => ?_) (fun c3 => ?_)
  · replace h := q_i1 c3 h
    refine lv_bipush (v := (-101)) hx hb dX4_halve_29 (by decide) ?_
    cases h
    exact q_wI F hr hlk dX4_halve_31 hP hD hS
  · replace h := q_i2 c3 h
    refine lv_aload_n hx hb dX4_halve_8 rfl (lv_at hl 0 rfl) ?_
    refine lv_iload_n hx hb dX4_halve_9 rfl (lv_at hl 2 rfl) ?_
    obtain ⟨x4, c5, h⟩ := q_o1 h
    refine q_roV F (kX4_isEater l E h0 a0 s0 g0 v2 x4 c5) q_cX4_isEater q_lX4_163 (q_EV.go F.2.2.2.2.2 hAl hS) hP ⟨by decide, by decide⟩ (q0 := 0) rfl rfl rfl rfl ⟨_, hl⟩ (rest := []) rfl (Nat.le_of_ble_eq_true rfl) dX4_halve_10 ?_
    refine lv_if_eq (tgt := 29) hx hb dX4_halve_13 (by decide) (fun c6 => ?_) (fun c6 => ?_)
    · replace h := q_i1 c6 h
      refine lv_bipush (v := (-101)) hx hb dX4_halve_29 (by decide) ?_
      cases h
      exact q_wI F hr hlk dX4_halve_31 hP hD hS
    · replace h := q_i2 c6 h
      refine lv_iload_n hx hb dX4_halve_16 rfl (lv_at hl 1 rfl) ?_
      refine lv_iload_n hx hb dX4_halve_17 rfl (lv_at hl 2 rfl) ?_
      refine lv_icmp_eq (tgt := 29) hx hb dX4_halve_18 (by decide) (fun c7 => ?_) (fun c7 => ?_)
      · replace h := q_i1 c7 h
        refine lv_bipush (v := (-101)) hx hb dX4_halve_29 (by decide) ?_
        cases h
        exact q_wI F hr hlk dX4_halve_31 hP hD hS
      · replace h := q_i2 c7 h
        refine lv_aload_n hx hb dX4_halve_21 rfl (lv_at hl 0 rfl) ?_
        refine lv_iload_n hx hb dX4_halve_22 rfl (lv_at hl 3 rfl) ?_
        obtain ⟨x8, c9, h⟩ := q_o1 h
        refine q_roV F (kX4_isLoaf l E h0 a0 s0 g0 v3 x8 c9) q_cX4_isLoaf q_lX4_175 (q_EV.go F.2.2.2.2.2 hAl hS) hP ⟨by decide, by decide⟩ (q0 := 0) rfl rfl rfl rfl ⟨_, hl⟩ (rest := []) rfl (Nat.le_of_ble_eq_true rfl) dX4_halve_23 ?_
        refine lv_if_ne (tgt := 32) hx hb dX4_halve_26 (by decide) (fun c10 => ?_) (fun c10 => ?_)
        · replace h := q_i2 c10 h
          refine lv_aload_n hx hb dX4_halve_32 rfl (lv_at hl 0 rfl) ?_
          refine lv_iload_n hx hb dX4_halve_33 rfl (lv_at hl 1 rfl) ?_
          refine lv_iload_n hx hb dX4_halve_34 rfl (lv_at hl 3 rfl) ?_
          obtain ⟨x11, c12, h⟩ := q_o1 h
          refine q_roV F (kX4_would l E h0 a0 s0 g0 v1 v3 x11 c12) q_cX4_would q_lX4_140 (q_EV.go F.2.2.2.2.2 hAl hS) hP ⟨by decide, by decide⟩ (q0 := 0) rfl rfl rfl rfl ⟨_, hl⟩ (rest := []) rfl (Nat.le_of_ble_eq_true rfl) dX4_halve_35 ?_
          refine lv_if_eq (tgt := 50) hx hb dX4_halve_38 (by decide) (fun c13 => ?_) (fun c13 => ?_)
          · replace h := q_i1 c13 h
            refine lv_bipush (v := (-103)) hx hb dX4_halve_50 (by decide) ?_
            cases h
            exact q_wI F hr hlk dX4_halve_52 hP hD hS
          · replace h := q_i2 c13 h
            refine lv_aload_n hx hb dX4_halve_41 rfl (lv_at hl 0 rfl) ?_
            refine lv_iload_n hx hb dX4_halve_42 rfl (lv_at hl 2 rfl) ?_
            refine lv_iload_n hx hb dX4_halve_43 rfl (lv_at hl 3 rfl) ?_
            obtain ⟨x14, c15, h⟩ := q_o1 h
            refine q_roV F (kX4_would l E h0 a0 s0 g0 v2 v3 x14 c15) q_cX4_would q_lX4_140 (q_EV.go F.2.2.2.2.2 hAl hS) hP ⟨by decide, by decide⟩ (q0 := 0) rfl rfl rfl rfl ⟨_, hl⟩ (rest := []) rfl (Nat.le_of_ble_eq_true rfl) dX4_halve_44 ?_
            refine lv_if_ne (tgt := 53) hx hb dX4_halve_47 (by decide) (fun c16 => ?_) (fun c16 => ?_)
            · replace h := q_i2 c16 h
              refine lv_aload_n hx hb dX4_halve_53 rfl (lv_at hl 0 rfl) ?_
              refine q_get F q_K4 hP 0 rfl 8 (by decide) q_fX4_26 rfl dX4_halve_54 ?_
              refine lv_iload_n hx hb dX4_halve_57 rfl (lv_at hl 3 rfl) ?_
              obtain ⟨eg17, h⟩ := q_og h
              refine q_iald F hP 6 rfl eg17 dX4_halve_58 ?_
              refine lv_aload_n hx hb dX4_halve_59 rfl (lv_at hl 0 rfl) ?_
              refine q_get F q_K4 hP 0 rfl 9 (by decide) q_fX4_29 rfl dX4_halve_60 ?_
              refine lv_iload_n hx hb dX4_halve_63 rfl (lv_at hl 3 rfl) ?_
              obtain ⟨eg18, h⟩ := q_og h
              refine q_iald F hP 7 rfl eg18 dX4_halve_64 ?_
              refine lv_iadd hx hb dX4_halve_65 ?_
              obtain ⟨x19, ex19, h⟩ := q_ol h
              refine q_top ex19 ?_
              refine lv_istore (lv' := [(4, .int x19), (0, .ref h0), (1, .int v1), (2, .int v2), (3, .int v3)]) hx hb dX4_halve_66 hl (by decide) rfl (fun ls hl => ?_)
              refine lv_aload_n hx hb dX4_halve_68 rfl (lv_at hl 1 rfl) ?_
              refine q_get F q_K4 hP 0 rfl 6 (by decide) q_fX4_23 rfl dX4_halve_69 ?_
              refine lv_iload_n hx hb dX4_halve_72 rfl (lv_at hl 2 rfl) ?_
              refine lv_dup2_11 hx hb dX4_halve_73 rfl rfl ?_
              obtain ⟨eg20, h⟩ := q_og h
              refine q_iald F hP 5 rfl eg20 dX4_halve_74 ?_
              refine lv_aload_n hx hb dX4_halve_75 rfl (lv_at hl 1 rfl) ?_
              refine q_get F q_K4 hP 0 rfl 8 (by decide) q_fX4_26 rfl dX4_halve_76 ?_
              refine lv_iload_n hx hb dX4_halve_79 rfl (lv_at hl 4 rfl) ?_
              obtain ⟨eg21, h⟩ := q_og h
              refine q_iald F hP 6 rfl eg21 dX4_halve_80 ?_
              refine lv_iconst (v := 1) hx hb dX4_halve_81 (by decide) ?_
              refine lv_iadd hx hb dX4_halve_82 ?_
              refine lv_iconst (v := 2) hx hb dX4_halve_83 (by decide) ?_
              refine lv_idiv hx hb dX4_halve_84 (by decide) ?_
              refine lv_iadd hx hb dX4_halve_85 ?_
              obtain ⟨eg22, h⟩ := q_og h
              obtain ⟨y23, ey23, h⟩ := q_ol h
              refine q_iast F hP hD hS 5 rfl eg22 (by rw [ey23]; rfl) dX4_halve_86 (fun H locs (hP : va_P (q_D E) vwCl (q_cM E h0 a0 y23 g0) H) hD hS => ?_)
              refine lv_aload_n hx hb dX4_halve_87 rfl (lv_at hl 1 rfl) ?_
              refine q_get F q_K4 hP 0 rfl 6 (by decide) q_fX4_23 rfl dX4_halve_88 ?_
              refine lv_iload_n hx hb dX4_halve_91 rfl (lv_at hl 3 rfl) ?_
              refine lv_dup2_11 hx hb dX4_halve_92 rfl rfl ?_
              obtain ⟨eg24, h⟩ := q_og h
              refine q_iald F hP 5 rfl eg24 dX4_halve_93 ?_
              refine lv_aload_n hx hb dX4_halve_94 rfl (lv_at hl 1 rfl) ?_
              refine q_get F q_K4 hP 0 rfl 8 (by decide) q_fX4_26 rfl dX4_halve_95 ?_
              refine lv_iload_n hx hb dX4_halve_98 rfl (lv_at hl 4 rfl) ?_
              obtain ⟨eg25, h⟩ := q_og h
              refine q_iald F hP 6 rfl eg25 dX4_halve_99 ?_
              refine lv_iconst (v := 2) hx hb dX4_halve_100 (by decide) ?_
              refine lv_idiv hx hb dX4_halve_101 (by decide) ?_
              refine lv_iadd hx hb dX4_halve_102 ?_
              obtain ⟨eg26, h⟩ := q_og h
              obtain ⟨y27, ey27, h⟩ := q_ol h
              refine q_iast F hP hD hS 5 rfl eg26 (by rw [ey27]; rfl) dX4_halve_103 (fun H locs (hP : va_P (q_D E) vwCl (q_cM E h0 a0 y27 g0) H) hD hS => ?_)
              refine lv_aload_n hx hb dX4_halve_104 rfl (lv_at hl 1 rfl) ?_
              refine lv_iload_n hx hb dX4_halve_105 rfl (lv_at hl 2 rfl) ?_
              refine lv_iload hx hb dX4_halve_106 (lv_at hl 0 rfl) ?_
              refine lv_iconst (v := 1) hx hb dX4_halve_108 (by decide) ?_
              refine lv_iadd hx hb dX4_halve_109 ?_
              refine lv_iconst (v := 2) hx hb dX4_halve_110 (by decide) ?_
              refine lv_idiv hx hb dX4_halve_111 (by decide) ?_
              obtain ⟨y28, c29, h⟩ := q_o1 h
              refine q_muV F (kX4_takes l E h0 a0 y27 g0 v1 ((x19 + (1 : Int32)) / (2 : Int32)) H.size y28 c29) q_cX4_takes q_lX4_130 (q_s_M_M_0w E h0 a0 y27 g0 y28 g0) hP hD hS hA hAl ⟨by decide, by decide⟩ (q0 := 0) rfl rfl rfl rfl ⟨_, hl⟩ (rest := []) rfl (Nat.le_of_ble_eq_true rfl) dX4_halve_112 (fun H locs (hP : va_P (q_D E) vwCl (q_cM E h0 a0 y28 g0) H) hD hS => ?_)
              refine lv_aload_n hx hb dX4_halve_115 rfl (lv_at hl 1 rfl) ?_
              refine lv_iload_n hx hb dX4_halve_116 rfl (lv_at hl 3 rfl) ?_
              refine lv_iload hx hb dX4_halve_117 (lv_at hl 0 rfl) ?_
              refine lv_iconst (v := 2) hx hb dX4_halve_119 (by decide) ?_
              refine lv_idiv hx hb dX4_halve_120 (by decide) ?_
              obtain ⟨y30, c31, h⟩ := q_o1 h
              refine q_muV F (kX4_takes l E h0 a0 y28 g0 v2 (x19 / (2 : Int32)) H.size y30 c31) q_cX4_takes q_lX4_130 (q_s_M_M_0w E h0 a0 y28 g0 y30 g0) hP hD hS hA hAl ⟨by decide, by decide⟩ (q0 := 0) rfl rfl rfl rfl ⟨_, hl⟩ (rest := []) rfl (Nat.le_of_ble_eq_true rfl) dX4_halve_121 (fun H locs (hP : va_P (q_D E) vwCl (q_cM E h0 a0 y30 g0) H) hD hS => ?_)
              refine lv_aload_n hx hb dX4_halve_124 rfl (lv_at hl 1 rfl) ?_
              refine lv_iload_n hx hb dX4_halve_125 rfl (lv_at hl 2 rfl) ?_
              refine lv_iconst (v := 1) hx hb dX4_halve_126 (by decide) ?_
              obtain ⟨y32, c33, h⟩ := q_o1 h
              refine q_muV F (kX4_tires l E h0 a0 y30 g0 v1 (1 : Int32) H.size y32 c33) q_cX4_tires q_lX4_134 (q_s_M_M_0w E h0 a0 y30 g0 y32 g0) hP hD hS hA hAl ⟨by decide, by decide⟩ (q0 := 0) rfl rfl rfl rfl ⟨_, hl⟩ (rest := []) rfl (Nat.le_of_ble_eq_true rfl) dX4_halve_127 (fun H locs (hP : va_P (q_D E) vwCl (q_cM E h0 a0 y32 g0) H) hD hS => ?_)
              refine lv_aload_n hx hb dX4_halve_130 rfl (lv_at hl 1 rfl) ?_
              refine lv_iload_n hx hb dX4_halve_131 rfl (lv_at hl 3 rfl) ?_
              refine lv_iconst (v := 1) hx hb dX4_halve_132 (by decide) ?_
              obtain ⟨y34, c35, h⟩ := q_o1 h
              refine q_muV F (kX4_tires l E h0 a0 y32 g0 v2 (1 : Int32) H.size y34 c35) q_cX4_tires q_lX4_134 (q_s_M_M_0w E h0 a0 y32 g0 y34 g0) hP hD hS hA hAl ⟨by decide, by decide⟩ (q0 := 0) rfl rfl rfl rfl ⟨_, hl⟩ (rest := []) rfl (Nat.le_of_ble_eq_true rfl) dX4_halve_133 (fun H locs (hP : va_P (q_D E) vwCl (q_cM E h0 a0 y34 g0) H) hD hS => ?_)
              refine lv_aload_n hx hb dX4_halve_136 rfl (lv_at hl 1 rfl) ?_
              refine lv_dup hx hb dX4_halve_137 rfl ?_
              refine q_get F q_K4 hP 0 rfl 10 (by decide) q_fX4_117 rfl dX4_halve_138 ?_
              refine lv_iconst (v := 1) hx hb dX4_halve_141 (by decide) ?_
              refine lv_iload_n hx hb dX4_halve_142 rfl (lv_at hl 4 rfl) ?_
              refine lv_ishl hx hb dX4_halve_143 ?_
              refine lv_ior hx hb dX4_halve_144 ?_
              obtain ⟨y36, ey36, h⟩ := q_ol h
              refine q_put F q_K4 hP hD hS 0 rfl 10 (by decide) q_fX4_117 rfl rfl rfl (Nat.le_of_ble_eq_true rfl) (by rw [ey36]; rfl) dX4_halve_145 (fun H locs (hP : va_P (q_D E) vwCl (q_cM E h0 a0 y36 g0) H) hD hS => ?_)
              refine lv_aload_n hx hb dX4_halve_148 rfl (lv_at hl 1 rfl) ?_
              refine q_get F q_K4 hP 0 rfl 5 (by decide) q_fX4_20 rfl dX4_halve_149 ?_
              refine lv_iload_n hx hb dX4_halve_152 rfl (lv_at hl 2 rfl) ?_
              obtain ⟨eg37, h⟩ := q_og h
              refine q_iald F hP 4 rfl eg37 dX4_halve_153 ?_
              refine lv_aload_n hx hb dX4_halve_154 rfl (lv_at hl 1 rfl) ?_
              refine q_get F q_K4 hP 0 rfl 5 (by decide) q_fX4_20 rfl dX4_halve_155 ?_
              refine lv_iload_n hx hb dX4_halve_158 rfl (lv_at hl 3 rfl) ?_
              obtain ⟨eg38, h⟩ := q_og h
              refine q_iald F hP 4 rfl eg38 dX4_halve_159 ?_
              refine lv_iadd hx hb dX4_halve_160 ?_
              cases h
              exact q_wI F hr hlk dX4_halve_161 hP hD hS
            · replace h := q_i1 c16 h
              refine lv_bipush (v := (-103)) hx hb dX4_halve_50 (by decide) ?_
              cases h
              exact q_wI F hr hlk dX4_halve_52 hP hD hS
        · replace h := q_i1 c10 h
          refine lv_bipush (v := (-101)) hx hb dX4_halve_29 (by decide) ?_
          cases h
          exact q_wI F hr hlk dX4_halve_31 hP hD hS
def zX4_winter (s0 : q_S) : Option (Int32 × q_S) := if (s0 1 0) = 0 then (some ((-103 : Int32), s0)) else (q_b1 (zX4_passWinter s0) fun y2 => q_lt (q_u y2 11 0 ((y2 11 0) + (1 : Int32))) fun y4 => q_b1 (zX4_carriesAll y4) fun x5 => some (x5, y4))
set_option maxHeartbeats 4000000 in
set_option maxRecDepth 100000 in
theorem kX4_winter (l : Launch) (E : q_E) (h0 : Nat) (a0 : Nat → Nat) (s0 : q_S) (g0 : q_G)  (sz : Nat) (r : Int32) (rs0 : q_S) (h : zX4_winter s0 = some (r, rs0)) : q_MU l E yX4_winter cX4_winter 1 (some .int) 2 [.ref h0] sz (q_cM E h0 a0 s0 g0) (q_cM E h0 a0 rs0 g0) (some (.int r)) := by
  refine q_MU.intro (by decide) (Nat.le_of_ble_eq_true rfl) ?_
  intro p e s m args below meth c A X hP hD hA hAl ls hl
  obtain ⟨hx, hb, hml, hr, hlk, hown, hB, hE⟩ := X
  have hown : s.vm.findClass RX4 = some m.cls := hown
  have F : q_Fx p s m c E RX4 cX4_winter 1 := ⟨hx, hb, hml, hown, hB, hE⟩
  have hS : va_S A s.heap s.heap [] := va_S.rf
  have hl : lv_has ls 1 [(0, .ref h0)] := hl
  unfold zX4_winter at h
  refine lv_aload_n hx hb dX4_winter_0 rfl (lv_at hl 0 rfl) ?_
  refine q_get F q_K4 hP 0 rfl 1 (by decide) q_fX4_108 rfl dX4_winter_1 ?_
  refine lv_if_ne (tgt := 10) hx hb dX4_winter_4 (by decide) (fun c1 => ?_) (fun c1 => ?_)
  · replace h := q_i2 c1 h
    refine lv_aload_n hx hb dX4_winter_10 rfl (lv_at hl 0 rfl) ?_
    obtain ⟨y2, c3, h⟩ := q_o1 h
    refine q_muV F (kX4_passWinter l E h0 a0 s0 g0 s.heap.size y2 c3) q_cX4_passWinter q_lX4_181 (q_s_M_M_0w E h0 a0 s0 g0 y2 g0) hP hD hS hA hAl ⟨by decide, by decide⟩ (q0 := 0) rfl rfl rfl rfl ⟨_, hl⟩ (rest := []) rfl (Nat.le_of_ble_eq_true rfl) dX4_winter_11 (fun H locs (hP : va_P (q_D E) vwCl (q_cM E h0 a0 y2 g0) H) hD hS => ?_)
    refine lv_aload_n hx hb dX4_winter_14 rfl (lv_at hl 0 rfl) ?_
    refine lv_dup hx hb dX4_winter_15 rfl ?_
    refine q_get F q_K4 hP 0 rfl 11 (by decide) q_fX4_120 rfl dX4_winter_16 ?_
    refine lv_iconst (v := 1) hx hb dX4_winter_19 (by decide) ?_
    refine lv_iadd hx hb dX4_winter_20 ?_
    obtain ⟨y4, ey4, h⟩ := q_ol h
    refine q_put F q_K4 hP hD hS 0 rfl 11 (by decide) q_fX4_120 rfl rfl rfl (Nat.le_of_ble_eq_true rfl) (by rw [ey4]; rfl) dX4_winter_21 (fun H locs (hP : va_P (q_D E) vwCl (q_cM E h0 a0 y4 g0) H) hD hS => ?_)
    refine lv_aload_n hx hb dX4_winter_24 rfl (lv_at hl 0 rfl) ?_
    obtain ⟨x5, c6, h⟩ := q_o1 h
    refine q_roV F (kX4_carriesAll l E h0 a0 y4 g0 x5 c6) q_cX4_carriesAll q_lX4_184 (q_EV.go F.2.2.2.2.2 hAl hS) hP ⟨by decide, by decide⟩ (q0 := 0) rfl rfl rfl rfl ⟨_, hl⟩ (rest := []) rfl (Nat.le_of_ble_eq_true rfl) dX4_winter_25 ?_
    cases h
    exact q_wI F hr hlk dX4_winter_28 hP hD hS
  · replace h := q_i1 c1 h
    refine lv_bipush (v := (-103)) hx hb dX4_winter_7 (by decide) ?_
    cases h
    exact q_wI F hr hlk dX4_winter_9 hP hD hS
def zX4_die_85 (s0 : q_S) (v1 : Int32) (t1 : Int32) (t2 : Int32) : Option (Int32 × q_S) := q_gd (q_ib t1 8) (q_lt (q_u s0 9 t1.toNatClampNeg t2) fun y2 => q_gd (q_ib v1 4) (q_lt (q_u y2 4 v1.toNatClampNeg (vp_nar .boolean (0 : Int32))) fun y4 => q_gd (q_ib v1 4) (q_lt (q_u y4 5 v1.toNatClampNeg (0 : Int32)) fun y6 => q_lt (q_u y6 7 0 ((y6 7 0) + (1 : Int32))) fun y7 => some (((y7 7 0) - (1 : Int32)), y7))))
def zX4_die_62 (s0 : q_S) (v1 : Int32) (v2 : Int32) (t1 : Int32) (t2 : Int32) : Option (Int32 × q_S) := q_gd (q_ib t1 8) (q_lt (q_u s0 8 t1.toNatClampNeg t2) fun y9 => if v2 ≤ (9 : Int32) then (zX4_die_85 y9 v1 (y9 7 0) (0 : Int32)) else (zX4_die_85 y9 v1 (y9 7 0) (v2 - (9 : Int32))))
def zX4_die (s0 : q_S) (v1 : Int32) : Option (Int32 × q_S) := q_b1 (zX4_isEater s0 v1) fun x11 => if x11 = 0 then (some ((-101 : Int32), s0)) else (q_gd (q_ib v1 4) (if (s0 4 v1.toNatClampNeg) = 0 then (some ((-103 : Int32), s0)) else (if (s0 7 0) = (8 : Int32) then (some ((-104 : Int32), s0)) else (q_gd (q_ib v1 4) (q_lt (s0 5 v1.toNatClampNeg) fun x18 => if x18 ≤ (9 : Int32) then (zX4_die_62 s0 v1 x18 (s0 7 0) x18) else (zX4_die_62 s0 v1 x18 (s0 7 0) (9 : Int32)))))))
set_option maxHeartbeats 4000000 in
set_option maxRecDepth 100000 in
theorem kX4_die (l : Launch) (E : q_E) (h0 : Nat) (a0 : Nat → Nat) (s0 : q_S) (g0 : q_G) (v1 : Int32) (sz : Nat) (r : Int32) (rs0 : q_S) (h : zX4_die s0 v1 = some (r, rs0)) : q_MU l E yX4_die cX4_die 3 (some .int) 3 [.ref h0, .int v1] sz (q_cM E h0 a0 s0 g0) (q_cM E h0 a0 rs0 g0) (some (.int r)) := by
  refine q_MU.intro (by decide) (Nat.le_of_ble_eq_true rfl) ?_
  intro p e s m args below meth c A X hP hD hA hAl ls hl
  obtain ⟨hx, hb, hml, hr, hlk, hown, hB, hE⟩ := X
  have hown : s.vm.findClass RX4 = some m.cls := hown
  have F : q_Fx p s m c E RX4 cX4_die 3 := ⟨hx, hb, hml, hown, hB, hE⟩
  have hS : va_S A s.heap s.heap [] := va_S.rf
  have hl : lv_has ls 3 [(0, .ref h0), (1, .int v1)] := hl
  have K85 : ∀ (v1 : Int32) (t1 : Int32) (t2 : Int32) (s0 : q_S), ∀ (H : Heap) (locs : List Loc), va_P (q_D E) vwCl (q_cM E h0 a0 s0 g0) H → va_D A (q_cM E h0 a0 s0 g0) → va_S A s.heap H locs → ∀ ls : Array Slot, lv_has ls 3 [(0, .ref h0), (1, .int v1)] → zX4_die_85 s0 v1 t1 t2 = some (r, rs0) → W p l e (q_rm 3) s m args below meth c H locs 0 0 (MQ below (q_muQ E A (q_cM E h0 a0 rs0 g0) (some (.int r))) args s 0 0 A) (F0 m 85 ls [.int t2, .int t1, .ref (a0 9)]) := by
    intro v1 t1 t2 s0 H locs hP hD hS ls hl h
    unfold zX4_die_85 at h
    obtain ⟨eg1, h⟩ := q_og h
    obtain ⟨y2, ey2, h⟩ := q_ol h
    refine q_iast F hP hD hS 7 rfl eg1 (by rw [ey2]; rfl) dX4_die_85 (fun H locs (hP : va_P (q_D E) vwCl (q_cM E h0 a0 y2 g0) H) hD hS => ?_)
    refine lv_aload_n hx hb dX4_die_86 rfl (lv_at hl 0 rfl) ?_
    refine q_get F q_K4 hP 0 rfl 4 (by decide) q_fX4_16 rfl dX4_die_87 ?_
    refine lv_iload_n hx hb dX4_die_90 rfl (lv_at hl 1 rfl) ?_
    refine lv_iconst (v := 0) hx hb dX4_die_91 (by decide) ?_
    obtain ⟨eg3, h⟩ := q_og h
    obtain ⟨y4, ey4, h⟩ := q_ol h
    refine q_zast F hP hD hS 3 rfl eg3 (by rw [ey4]; rfl) dX4_die_92 (fun H locs (hP : va_P (q_D E) vwCl (q_cM E h0 a0 y4 g0) H) hD hS => ?_)
    refine lv_aload_n hx hb dX4_die_93 rfl (lv_at hl 0 rfl) ?_
    refine q_get F q_K4 hP 0 rfl 5 (by decide) q_fX4_20 rfl dX4_die_94 ?_
    refine lv_iload_n hx hb dX4_die_97 rfl (lv_at hl 1 rfl) ?_
    refine lv_iconst (v := 0) hx hb dX4_die_98 (by decide) ?_
    obtain ⟨eg5, h⟩ := q_og h
    obtain ⟨y6, ey6, h⟩ := q_ol h
    refine q_iast F hP hD hS 4 rfl eg5 (by rw [ey6]; rfl) dX4_die_99 (fun H locs (hP : va_P (q_D E) vwCl (q_cM E h0 a0 y6 g0) H) hD hS => ?_)
    refine lv_aload_n hx hb dX4_die_100 rfl (lv_at hl 0 rfl) ?_
    refine lv_dup hx hb dX4_die_101 rfl ?_
    refine q_get F q_K4 hP 0 rfl 7 (by decide) q_fX4_111 rfl dX4_die_102 ?_
    refine lv_iconst (v := 1) hx hb dX4_die_105 (by decide) ?_
    refine lv_iadd hx hb dX4_die_106 ?_
    obtain ⟨y7, ey7, h⟩ := q_ol h
    refine q_put F q_K4 hP hD hS 0 rfl 7 (by decide) q_fX4_111 rfl rfl rfl (Nat.le_of_ble_eq_true rfl) (by rw [ey7]; rfl) dX4_die_107 (fun H locs (hP : va_P (q_D E) vwCl (q_cM E h0 a0 y7 g0) H) hD hS => ?_)
    refine lv_aload_n hx hb dX4_die_110 rfl (lv_at hl 0 rfl) ?_
    refine q_get F q_K4 hP 0 rfl 7 (by decide) q_fX4_111 rfl dX4_die_111 ?_
    refine lv_iconst (v := 1) hx hb dX4_die_114 (by decide) ?_
    refine lv_isub hx hb dX4_die_115 ?_
    cases h
    exact q_wI F hr hlk dX4_die_116 hP hD hS
  have K62 : ∀ (v1 : Int32) (v2 : Int32) (t1 : Int32) (t2 : Int32) (s0 : q_S), ∀ (H : Heap) (locs : List Loc), va_P (q_D E) vwCl (q_cM E h0 a0 s0 g0) H → va_D A (q_cM E h0 a0 s0 g0) → va_S A s.heap H locs → ∀ ls : Array Slot, lv_has ls 3 [(0, .ref h0), (1, .int v1), (2, .int v2)] → zX4_die_62 s0 v1 v2 t1 t2 = some (r, rs0) → W p l e (q_rm 3) s m args below meth c H locs 0 0 (MQ below (q_muQ E A (q_cM E h0 a0 rs0 g0) (some (.int r))) args s 0 0 A) (F0 m 62 ls [.int t2, .int t1, .ref (a0 8)]) := by
    intro v1 v2 t1 t2 s0 H locs hP hD hS ls hl h
    unfold zX4_die_62 at h
    obtain ⟨eg8, h⟩ := q_og h
    obtain ⟨y9, ey9, h⟩ := q_ol h
    refine q_iast F hP hD hS 6 rfl eg8 (by rw [ey9]; rfl) dX4_die_62 (fun H locs (hP : va_P (q_D E) vwCl (q_cM E h0 a0 y9 g0) H) hD hS => ?_)
    refine lv_aload_n hx hb dX4_die_63 rfl (lv_at hl 0 rfl) ?_
    refine q_get F q_K4 hP 0 rfl 9 (by decide) q_fX4_29 rfl dX4_die_64 ?_
    refine lv_aload_n hx hb dX4_die_67 rfl (lv_at hl 0 rfl) ?_
    refine q_get F q_K4 hP 0 rfl 7 (by decide) q_fX4_111 rfl dX4_die_68 ?_
    refine lv_iload_n hx hb dX4_die_71 rfl (lv_at hl 2 rfl) ?_
    refine lv_bipush (v := 9) hx hb dX4_die_72 (by decide) ?_
    refine lv_icmp_le (tgt := 84) hx hb dX4_die_74 (by decide) (fun c10 => ?_) (fun c10 => ?_)
    · replace h := q_i1 c10 h
      refine lv_iconst (v := 0) hx hb dX4_die_84 (by decide) ?_
      exact K85 v1 (y9 7 0) (0 : Int32) y9 H _ hP hD hS ls (lv_sub hl [0, 1] rfl) h
    · replace h := q_i2 c10 h
      refine lv_iload_n hx hb dX4_die_77 rfl (lv_at hl 2 rfl) ?_
      refine lv_bipush (v := 9) hx hb dX4_die_78 (by decide) ?_
      refine lv_isub hx hb dX4_die_80 ?_
      refine lv_goto (tgt := 85) hx hb dX4_die_81 (by decide) ?_
      exact K85 v1 (y9 7 0) (v2 - (9 : Int32)) y9 H _ hP hD hS ls (lv_sub hl [0, 1] rfl) h
  unfold zX4_die at h
  refine lv_aload_n hx hb dX4_die_0 rfl (lv_at hl 0 rfl) ?_
  refine lv_iload_n hx hb dX4_die_1 rfl (lv_at hl 1 rfl) ?_
  obtain ⟨x11, c12, h⟩ := q_o1 h
  refine q_roV F (kX4_isEater l E h0 a0 s0 g0 v1 x11 c12) q_cX4_isEater q_lX4_163 (q_EV.go F.2.2.2.2.2 hAl hS) hP ⟨by decide, by decide⟩ (q0 := 0) rfl rfl rfl rfl ⟨_, hl⟩ (rest := []) rfl (Nat.le_of_ble_eq_true rfl) dX4_die_2 ?_
  refine lv_if_ne (tgt := 11) hx hb dX4_die_5 (by decide) (fun c13 => ?_) (fun c13 => ?_)
  · replace h := q_i2 c13 h
    refine lv_aload_n hx hb dX4_die_11 rfl (lv_at hl 0 rfl) ?_
    refine q_get F q_K4 hP 0 rfl 4 (by decide) q_fX4_16 rfl dX4_die_12 ?_
    refine lv_iload_n hx hb dX4_die_15 rfl (lv_at hl 1 rfl) ?_
    obtain ⟨eg14, h⟩ := q_og h
    refine q_zald F hP 3 rfl eg14 dX4_die_16 ?_
    refine lv_if_ne (tgt := 23) hx hb dX4_die_17 (by decide) (fun c15 => ?_) (fun c15 => ?_)
    · replace h := q_i2 c15 h
      refine lv_aload_n hx hb dX4_die_23 rfl (lv_at hl 0 rfl) ?_
      refine q_get F q_K4 hP 0 rfl 7 (by decide) q_fX4_111 rfl dX4_die_24 ?_
      refine lv_bipush (v := 8) hx hb dX4_die_27 (by decide) ?_
      refine lv_icmp_ne (tgt := 35) hx hb dX4_die_29 (by decide) (fun c16 => ?_) (fun c16 => ?_)
      · replace h := q_i2 c16 h
        refine lv_aload_n hx hb dX4_die_35 rfl (lv_at hl 0 rfl) ?_
        refine q_get F q_K4 hP 0 rfl 5 (by decide) q_fX4_20 rfl dX4_die_36 ?_
        refine lv_iload_n hx hb dX4_die_39 rfl (lv_at hl 1 rfl) ?_
        obtain ⟨eg17, h⟩ := q_og h
        refine q_iald F hP 4 rfl eg17 dX4_die_40 ?_
        obtain ⟨x18, ex18, h⟩ := q_ol h
        refine q_top ex18 ?_
        refine lv_istore_n (lv' := [(2, .int x18), (0, .ref h0), (1, .int v1)]) hx hb dX4_die_41 rfl hl (by decide) rfl (fun ls hl => ?_)
        refine lv_aload_n hx hb dX4_die_42 rfl (lv_at hl 1 rfl) ?_
        refine q_get F q_K4 hP 0 rfl 8 (by decide) q_fX4_26 rfl dX4_die_43 ?_
        refine lv_aload_n hx hb dX4_die_46 rfl (lv_at hl 1 rfl) ?_
        refine q_get F q_K4 hP 0 rfl 7 (by decide) q_fX4_111 rfl dX4_die_47 ?_
        refine lv_iload_n hx hb dX4_die_50 rfl (lv_at hl 0 rfl) ?_
        refine lv_bipush (v := 9) hx hb dX4_die_51 (by decide) ?_
        refine lv_icmp_le (tgt := 61) hx hb dX4_die_53 (by decide) (fun c19 => ?_) (fun c19 => ?_)
        · replace h := q_i1 c19 h
          refine lv_iload_n hx hb dX4_die_61 rfl (lv_at hl 0 rfl) ?_
          exact K62 v1 x18 (s0 7 0) x18 s0 _ _ hP hD hS ls (lv_sub hl [1, 2, 0] rfl) h
        · replace h := q_i2 c19 h
          refine lv_bipush (v := 9) hx hb dX4_die_56 (by decide) ?_
          refine lv_goto (tgt := 62) hx hb dX4_die_58 (by decide) ?_
          exact K62 v1 x18 (s0 7 0) (9 : Int32) s0 _ _ hP hD hS ls (lv_sub hl [1, 2, 0] rfl) h
      · replace h := q_i1 c16 h
        refine lv_bipush (v := (-104)) hx hb dX4_die_32 (by decide) ?_
        cases h
        exact q_wI F hr hlk dX4_die_34 hP hD hS
    · replace h := q_i1 c15 h
      refine lv_bipush (v := (-103)) hx hb dX4_die_20 (by decide) ?_
      cases h
      exact q_wI F hr hlk dX4_die_22 hP hD hS
  · replace h := q_i1 c13 h
    refine lv_bipush (v := (-101)) hx hb dX4_die_8 (by decide) ?_
    cases h
    exact q_wI F hr hlk dX4_die_10 hP hD hS
def jX4_leftMany_4 (s0 : q_S) (k4 : Int32 → Int32 → Option (Int32)) (v1 : Int32) (v2 : Int32) : Option (Int32) := if (s0 7 0) ≤ v2 then (some v1) else (q_b1 (zX4_isIn (s0 10 0) v2) fun x2 => if x2 = 0 then (q_lt (v1 + (1 : Int32)) fun x5 => q_lt (v2 + 1) fun x6 => k4 x5 x6) else (q_lt (v1 + (0 : Int32)) fun x7 => q_lt (v2 + 1) fun x8 => k4 x7 x8))
def zX4_leftMany_4 (s0 : q_S) : Nat → Int32 → Int32 → Option (Int32)
  | 0, _, _ => none
  | n + 1, v1, v2 => jX4_leftMany_4 s0 (zX4_leftMany_4 s0 n) v1 v2
theorem zX4_leftMany_4_s (s0 : q_S) (n : Nat) (v1 : Int32) (v2 : Int32) : zX4_leftMany_4 s0 (n + 1) v1 v2 = jX4_leftMany_4 s0 (zX4_leftMany_4 s0 n) v1 v2 := rfl
def zX4_leftMany (s0 : q_S) : Option (Int32) := zX4_leftMany_4 s0 70000 (0 : Int32) (0 : Int32)
set_option maxHeartbeats 4000000 in
set_option maxRecDepth 100000 in
theorem kX4_leftMany (l : Launch) (E : q_E) (h0 : Nat) (a0 : Nat → Nat) (s0 : q_S) (g0 : q_G)  (r : Int32) (h : zX4_leftMany s0 = some r) : q_RO l E yX4_leftMany cX4_leftMany 3 (some .int) 2 [.ref h0] (q_cM E h0 a0 s0 g0) (.int r) := by
  refine q_RO.intro (by decide) (Nat.le_of_ble_eq_true rfl) ?_
  intro p e s m args below meth c X hP ls hl
  obtain ⟨hx, hb, hml, hr, hlk, hown, hB, hE⟩ := X
  have hown : s.vm.findClass RX4 = some m.cls := hown
  have F : q_Fx p s m c E RX4 cX4_leftMany 3 := ⟨hx, hb, hml, hown, hB, hE⟩
  have hV := q_EV.here hE
  have hl : lv_has ls 3 [(0, .ref h0)] := hl
  have K4 : ∀ (n4_ : Nat), ∀ (v1 : Int32) (v2 : Int32), ∀ ls : Array Slot, lv_has ls 3 [(0, .ref h0), (1, .int v1), (2, .int v2)] → zX4_leftMany_4 s0 n4_ v1 v2 = some r → W p l e (q_rm 2) s m args below meth c s.heap [] 0 0 (MQ below (q_roQ (.int r)) args s 0 0 q_no) (F0 m 4 ls []) := by
    intro n4_
    induction n4_ with
    | zero => intro v1 v2 ls hl h; exact q_nn h
    | succ n4_ ih4 =>
      intro v1 v2 ls hl h
      rw [zX4_leftMany_4_s] at h
      unfold jX4_leftMany_4 at h
      refine lv_iload_n hx hb dX4_leftMany_4 rfl (lv_at hl 2 rfl) ?_
      refine lv_aload_n hx hb dX4_leftMany_5 rfl (lv_at hl 0 rfl) ?_
      refine q_get F q_K4 hP 0 rfl 7 (by decide) q_fX4_111 rfl dX4_leftMany_6 ?_
      refine lv_icmp_ge (tgt := 37) hx hb dX4_leftMany_9 (by decide) (fun c1 => ?_) (fun c1 => ?_)
      · replace h := q_i1 c1 h
        refine lv_iload_n hx hb dX4_leftMany_37 rfl (lv_at hl 1 rfl) ?_
        exact q_rI F hr hlk dX4_leftMany_38 h
      · replace h := q_i2 c1 h
        refine lv_iload_n hx hb dX4_leftMany_12 rfl (lv_at hl 1 rfl) ?_
        refine lv_aload_n hx hb dX4_leftMany_13 rfl (lv_at hl 0 rfl) ?_
        refine q_get F q_K4 hP 0 rfl 10 (by decide) q_fX4_117 rfl dX4_leftMany_14 ?_
        refine lv_iload_n hx hb dX4_leftMany_17 rfl (lv_at hl 2 rfl) ?_
        obtain ⟨x2, c3, h⟩ := q_o1 h
        refine q_roS F (kX4_isIn l E  (s0 10 0) v2 x2 c3) q_cX4_isIn q_lX4_126 hV (fun k q h => by simp at h) ⟨by decide, by decide⟩ rfl ⟨_, hl⟩ (rest := [.int v1]) rfl (Nat.le_of_ble_eq_true rfl) dX4_leftMany_18 ?_
        refine lv_if_eq (tgt := 28) hx hb dX4_leftMany_21 (by decide) (fun c4 => ?_) (fun c4 => ?_)
        · replace h := q_i1 c4 h
          refine lv_iconst (v := 1) hx hb dX4_leftMany_28 (by decide) ?_
          refine lv_iadd hx hb dX4_leftMany_29 ?_
          obtain ⟨x5, ex5, h⟩ := q_ol h
          refine q_top ex5 ?_
          refine lv_istore_n (lv' := [(1, .int x5), (0, .ref h0), (2, .int v2)]) hx hb dX4_leftMany_30 rfl hl (by decide) rfl (fun ls hl => ?_)
          obtain ⟨x6, ex6, h⟩ := q_ol h
          refine lv_iinc (v := x6) (lv' := [(2, .int x6), (1, .int x5), (0, .ref h0)]) hx hb dX4_leftMany_31 hl (k := 2) rfl (by rw [ex6]; rfl) (by decide) rfl (fun ls hl => ?_)
          refine lv_goto (tgt := 4) hx hb dX4_leftMany_34 (by decide) ?_
          exact ih4 x5 x6 ls (lv_sub hl [2, 1, 0] rfl) h
        · replace h := q_i2 c4 h
          refine lv_iconst (v := 0) hx hb dX4_leftMany_24 (by decide) ?_
          refine lv_goto (tgt := 29) hx hb dX4_leftMany_25 (by decide) ?_
          refine lv_iadd hx hb dX4_leftMany_29 ?_
          obtain ⟨x7, ex7, h⟩ := q_ol h
          refine q_top ex7 ?_
          refine lv_istore_n (lv' := [(1, .int x7), (0, .ref h0), (2, .int v2)]) hx hb dX4_leftMany_30 rfl hl (by decide) rfl (fun ls hl => ?_)
          obtain ⟨x8, ex8, h⟩ := q_ol h
          refine lv_iinc (v := x8) (lv' := [(2, .int x8), (1, .int x7), (0, .ref h0)]) hx hb dX4_leftMany_31 hl (k := 2) rfl (by rw [ex8]; rfl) (by decide) rfl (fun ls hl => ?_)
          refine lv_goto (tgt := 4) hx hb dX4_leftMany_34 (by decide) ?_
          exact ih4 x7 x8 ls (lv_sub hl [2, 1, 0] rfl) h
  unfold zX4_leftMany at h
  refine lv_iconst (v := 0) hx hb dX4_leftMany_0 (by decide) ?_
  refine lv_istore_n (lv' := [(1, .int (0 : Int32)), (0, .ref h0)]) hx hb dX4_leftMany_1 rfl hl (by decide) rfl (fun ls hl => ?_)
  refine lv_iconst (v := 0) hx hb dX4_leftMany_2 (by decide) ?_
  refine lv_istore_n (lv' := [(2, .int (0 : Int32)), (1, .int (0 : Int32)), (0, .ref h0)]) hx hb dX4_leftMany_3 rfl hl (by decide) rfl (fun ls hl => ?_)
  exact K4 70000 (0 : Int32) (0 : Int32) ls (lv_sub hl [2, 1, 0] rfl) h
def jX4_most_4 (s0 : q_S) (k4 : Int32 → Int32 → Option (Int32)) (v1 : Int32) (v2 : Int32) : Option (Int32) := if (s0 1 0) ≤ v2 then (some v1) else (q_gd (q_ib v2 4) (if (s0 5 v2.toNatClampNeg) ≤ v1 then (q_lt (v2 + 1) fun x4 => k4 v1 x4) else (q_gd (q_ib v2 4) (q_lt (s0 5 v2.toNatClampNeg) fun x6 => q_lt (v2 + 1) fun x7 => k4 x6 x7))))
def zX4_most_4 (s0 : q_S) : Nat → Int32 → Int32 → Option (Int32)
  | 0, _, _ => none
  | n + 1, v1, v2 => jX4_most_4 s0 (zX4_most_4 s0 n) v1 v2
theorem zX4_most_4_s (s0 : q_S) (n : Nat) (v1 : Int32) (v2 : Int32) : zX4_most_4 s0 (n + 1) v1 v2 = jX4_most_4 s0 (zX4_most_4 s0 n) v1 v2 := rfl
def zX4_most (s0 : q_S) : Option (Int32) := zX4_most_4 s0 70000 (0 : Int32) (0 : Int32)
set_option maxHeartbeats 4000000 in
set_option maxRecDepth 100000 in
theorem kX4_most (l : Launch) (E : q_E) (h0 : Nat) (a0 : Nat → Nat) (s0 : q_S) (g0 : q_G)  (r : Int32) (h : zX4_most s0 = some r) : q_RO l E yX4_most cX4_most 3 (some .int) 1 [.ref h0] (q_cM E h0 a0 s0 g0) (.int r) := by
  refine q_RO.intro (by decide) (Nat.le_of_ble_eq_true rfl) ?_
  intro p e s m args below meth c X hP ls hl
  obtain ⟨hx, hb, hml, hr, hlk, hown, hB, hE⟩ := X
  have hown : s.vm.findClass RX4 = some m.cls := hown
  have F : q_Fx p s m c E RX4 cX4_most 3 := ⟨hx, hb, hml, hown, hB, hE⟩
  have hV := q_EV.here hE
  have hl : lv_has ls 3 [(0, .ref h0)] := hl
  have K4 : ∀ (n4_ : Nat), ∀ (v1 : Int32) (v2 : Int32), ∀ ls : Array Slot, lv_has ls 3 [(0, .ref h0), (1, .int v1), (2, .int v2)] → zX4_most_4 s0 n4_ v1 v2 = some r → W p l e (q_rm 1) s m args below meth c s.heap [] 0 0 (MQ below (q_roQ (.int r)) args s 0 0 q_no) (F0 m 4 ls []) := by
    intro n4_
    induction n4_ with
    | zero => intro v1 v2 ls hl h; exact q_nn h
    | succ n4_ ih4 =>
      intro v1 v2 ls hl h
      rw [zX4_most_4_s] at h
      unfold jX4_most_4 at h
      refine lv_iload_n hx hb dX4_most_4 rfl (lv_at hl 2 rfl) ?_
      refine lv_aload_n hx hb dX4_most_5 rfl (lv_at hl 0 rfl) ?_
      refine q_get F q_K4 hP 0 rfl 1 (by decide) q_fX4_108 rfl dX4_most_6 ?_
      refine lv_icmp_ge (tgt := 39) hx hb dX4_most_9 (by decide) (fun c1 => ?_) (fun c1 => ?_)
      · replace h := q_i1 c1 h
        refine lv_iload_n hx hb dX4_most_39 rfl (lv_at hl 1 rfl) ?_
        exact q_rI F hr hlk dX4_most_40 h
      · replace h := q_i2 c1 h
        refine lv_aload_n hx hb dX4_most_12 rfl (lv_at hl 0 rfl) ?_
        refine q_get F q_K4 hP 0 rfl 5 (by decide) q_fX4_20 rfl dX4_most_13 ?_
        refine lv_iload_n hx hb dX4_most_16 rfl (lv_at hl 2 rfl) ?_
        obtain ⟨eg2, h⟩ := q_og h
        refine q_iald F hP 4 rfl eg2 dX4_most_17 ?_
        refine lv_iload_n hx hb dX4_most_18 rfl (lv_at hl 1 rfl) ?_
        refine lv_icmp_le (tgt := 31) hx hb dX4_most_19 (by decide) (fun c3 => ?_) (fun c3 => ?_)
        · replace h := q_i1 c3 h
          refine lv_iload_n hx hb dX4_most_31 rfl (lv_at hl 1 rfl) ?_
          refine lv_istore_n (lv' := [(1, .int v1), (0, .ref h0), (2, .int v2)]) hx hb dX4_most_32 rfl hl (by decide) rfl (fun ls hl => ?_)
          obtain ⟨x4, ex4, h⟩ := q_ol h
          refine lv_iinc (v := x4) (lv' := [(2, .int x4), (1, .int v1), (0, .ref h0)]) hx hb dX4_most_33 hl (k := 2) rfl (by rw [ex4]; rfl) (by decide) rfl (fun ls hl => ?_)
          refine lv_goto (tgt := 4) hx hb dX4_most_36 (by decide) ?_
          exact ih4 v1 x4 ls (lv_sub hl [2, 1, 0] rfl) h
        · replace h := q_i2 c3 h
          refine lv_aload_n hx hb dX4_most_22 rfl (lv_at hl 0 rfl) ?_
          refine q_get F q_K4 hP 0 rfl 5 (by decide) q_fX4_20 rfl dX4_most_23 ?_
          refine lv_iload_n hx hb dX4_most_26 rfl (lv_at hl 2 rfl) ?_
          obtain ⟨eg5, h⟩ := q_og h
          refine q_iald F hP 4 rfl eg5 dX4_most_27 ?_
          refine lv_goto (tgt := 32) hx hb dX4_most_28 (by decide) ?_
          obtain ⟨x6, ex6, h⟩ := q_ol h
          refine q_top ex6 ?_
          refine lv_istore_n (lv' := [(1, .int x6), (0, .ref h0), (2, .int v2)]) hx hb dX4_most_32 rfl hl (by decide) rfl (fun ls hl => ?_)
          obtain ⟨x7, ex7, h⟩ := q_ol h
          refine lv_iinc (v := x7) (lv' := [(2, .int x7), (1, .int x6), (0, .ref h0)]) hx hb dX4_most_33 hl (k := 2) rfl (by rw [ex7]; rfl) (by decide) rfl (fun ls hl => ?_)
          refine lv_goto (tgt := 4) hx hb dX4_most_36 (by decide) ?_
          exact ih4 x6 x7 ls (lv_sub hl [2, 1, 0] rfl) h
  unfold zX4_most at h
  refine lv_iconst (v := 0) hx hb dX4_most_0 (by decide) ?_
  refine lv_istore_n (lv' := [(1, .int (0 : Int32)), (0, .ref h0)]) hx hb dX4_most_1 rfl hl (by decide) rfl (fun ls hl => ?_)
  refine lv_iconst (v := 0) hx hb dX4_most_2 (by decide) ?_
  refine lv_istore_n (lv' := [(2, .int (0 : Int32)), (1, .int (0 : Int32)), (0, .ref h0)]) hx hb dX4_most_3 rfl hl (by decide) rfl (fun ls hl => ?_)
  exact K4 70000 (0 : Int32) (0 : Int32) ls (lv_sub hl [2, 1, 0] rfl) h
def zX4_mostBy_96 (s0 : q_S) (v5 : Int32) : Option (Int32 × q_S) := q_b1 (zX4_most s0) fun x1 => q_b1 (zX4_load s0) fun y3 => if v5 = 0 then (some ((268435456 : Int32), y3)) else (some (x1, y3))
def zX4_mostBy_75 (k14 : q_S → Int32 → Int32 → Int32 → Option (Int32 × q_S)) (s0 : q_S) (v4 : Int32) (v6 : Int32) (v7 : Int32) (t0 : Int32) : Option (Int32 × q_S) := if t0 = 0 then (q_lt (v6 + 1) fun x7 => k14 s0 v4 t0 x7) else (q_b1 (zX4_eats s0 v7 v6) fun y8 => q_lt (v6 + 1) fun x10 => k14 y8 v4 t0 x10)
def zX4_mostBy_74 (k14 : q_S → Int32 → Int32 → Int32 → Option (Int32 × q_S)) (s0 : q_S) (v4 : Int32) (v6 : Int32) (v7 : Int32) : Option (Int32 × q_S) := zX4_mostBy_75 k14 s0 v4 v6 v7 (0 : Int32)
def jX4_mostBy_14 (v1 : Int32) (v3 : Int32) (k14 : q_S → Int32 → Int32 → Int32 → Option (Int32 × q_S)) (s0 : q_S) (v4 : Int32) (v5 : Int32) (v6 : Int32) : Option (Int32 × q_S) := if (s0 7 0) ≤ v6 then (zX4_mostBy_96 s0 v5) else (if v5 = 0 then (zX4_mostBy_96 s0 v5) else (q_b1 (zX4_isIn v3 v6) fun x13 => if x13 = 0 then (q_lt (v4 + (-1)) fun x17 => q_lt ((v1 >>> (((2 : Int32) * x17) &&& 31)) &&& (3 : Int32)) fun x18 => q_b1 (zX4_isEater s0 x18) fun x19 => if x19 = 0 then (zX4_mostBy_74 k14 s0 x17 v6 x18) else (q_b1 (zX4_would s0 x18 v6) fun x22 => if x22 = 0 then (zX4_mostBy_74 k14 s0 x17 v6 x18) else (zX4_mostBy_75 k14 s0 x17 v6 x18 (1 : Int32)))) else (q_lt (v6 + 1) fun x16 => k14 s0 v4 v5 x16)))
def zX4_mostBy_14 (v1 : Int32) (v3 : Int32) : Nat → q_S → Int32 → Int32 → Int32 → Option (Int32 × q_S)
  | 0, _, _, _, _ => none
  | n + 1, s0, v4, v5, v6 => jX4_mostBy_14 v1 v3 (zX4_mostBy_14 v1 v3 n) s0 v4 v5 v6
theorem zX4_mostBy_14_s (v1 : Int32) (v3 : Int32) (n : Nat) (s0 : q_S) (v4 : Int32) (v5 : Int32) (v6 : Int32) : zX4_mostBy_14 v1 v3 (n + 1) s0 v4 v5 v6 = jX4_mostBy_14 v1 v3 (zX4_mostBy_14 v1 v3 n) s0 v4 v5 v6 := rfl
def zX4_mostBy (s0 : q_S) (v1 : Int32) (v2 : Int32) : Option (Int32 × q_S) := q_lt (s0 10 0) fun x25 => zX4_mostBy_14 v1 x25 70000 s0 v2 (1 : Int32) (0 : Int32)
set_option maxHeartbeats 4000000 in
set_option maxRecDepth 100000 in
theorem kX4_mostBy (l : Launch) (E : q_E) (h0 : Nat) (a0 : Nat → Nat) (s0 : q_S) (g0 : q_G) (v1 : Int32) (v2 : Int32) (sz : Nat) (r : Int32) (rs0 : q_S) (h : zX4_mostBy s0 v1 v2 = some (r, rs0)) : q_MU l E yX4_mostBy cX4_mostBy 8 (some .int) 3 [.ref h0, .int v1, .int v2] sz (q_cM E h0 a0 s0 g0) (q_cM E h0 a0 rs0 g0) (some (.int r)) := by
  refine q_MU.intro (by decide) (Nat.le_of_ble_eq_true rfl) ?_
  intro p e s m args below meth c A X hP hD hA hAl ls hl
  obtain ⟨hx, hb, hml, hr, hlk, hown, hB, hE⟩ := X
  have hown : s.vm.findClass RX4 = some m.cls := hown
  have F : q_Fx p s m c E RX4 cX4_mostBy 8 := ⟨hx, hb, hml, hown, hB, hE⟩
  have hS : va_S A s.heap s.heap [] := va_S.rf
  have hl : lv_has ls 8 [(0, .ref h0), (1, .int v1), (2, .int v2)] := hl
  have K96 : ∀ (v5 : Int32) (s0 : q_S), ∀ (H : Heap) (locs : List Loc), va_P (q_D E) vwCl (q_cM E h0 a0 s0 g0) H → va_D A (q_cM E h0 a0 s0 g0) → va_S A s.heap H locs → ∀ ls : Array Slot, lv_has ls 8 [(0, .ref h0), (5, .int v5)] → zX4_mostBy_96 s0 v5 = some (r, rs0) → W p l e (q_rm 3) s m args below meth c H locs 0 0 (MQ below (q_muQ E A (q_cM E h0 a0 rs0 g0) (some (.int r))) args s 0 0 A) (F0 m 96 ls []) := by
    intro v5 s0 H locs hP hD hS ls hl h
    unfold zX4_mostBy_96 at h
    refine lv_aload_n hx hb dX4_mostBy_96 rfl (lv_at hl 0 rfl) ?_
    obtain ⟨x1, c2, h⟩ := q_o1 h
    refine q_roV F (kX4_most l E h0 a0 s0 g0 x1 c2) q_cX4_most q_lX4_187 (q_EV.go F.2.2.2.2.2 hAl hS) hP ⟨by decide, by decide⟩ (q0 := 0) rfl rfl rfl rfl ⟨_, hl⟩ (rest := []) rfl (Nat.le_of_ble_eq_true rfl) dX4_mostBy_97 ?_
    refine lv_istore (lv' := [(6, .int x1), (0, .ref h0), (5, .int v5)]) hx hb dX4_mostBy_100 hl (by decide) rfl (fun ls hl => ?_)
    refine lv_aload_n hx hb dX4_mostBy_102 rfl (lv_at hl 1 rfl) ?_
    obtain ⟨y3, c4, h⟩ := q_o1 h
    refine q_muV F (kX4_load l E h0 a0 s0 g0 H.size y3 c4) q_cX4_load q_lX4_146 (q_s_M_M_0w E h0 a0 s0 g0 y3 g0) hP hD hS hA hAl ⟨by decide, by decide⟩ (q0 := 0) rfl rfl rfl rfl ⟨_, hl⟩ (rest := []) rfl (Nat.le_of_ble_eq_true rfl) dX4_mostBy_103 (fun H locs (hP : va_P (q_D E) vwCl (q_cM E h0 a0 y3 g0) H) hD hS => ?_)
    refine lv_iload hx hb dX4_mostBy_106 (lv_at hl 2 rfl) ?_
    refine lv_if_eq (tgt := 116) hx hb dX4_mostBy_108 (by decide) (fun c5 => ?_) (fun c5 => ?_)
    · replace h := q_i1 c5 h
      refine lv_ldc (v := 268435456) hx hb hown (hB _ q_kX4_190 _) dX4_mostBy_116 ?_
      cases h
      exact q_wI F hr hlk dX4_mostBy_118 hP hD hS
    · replace h := q_i2 c5 h
      refine lv_iload hx hb dX4_mostBy_111 (lv_at hl 0 rfl) ?_
      refine lv_goto (tgt := 118) hx hb dX4_mostBy_113 (by decide) ?_
      cases h
      exact q_wI F hr hlk dX4_mostBy_118 hP hD hS
  have K14 : ∀ (n14_ : Nat), ∀ (v1 : Int32) (v3 : Int32) (v4 : Int32) (v5 : Int32) (v6 : Int32) (s0 : q_S), ∀ (H : Heap) (locs : List Loc), va_P (q_D E) vwCl (q_cM E h0 a0 s0 g0) H → va_D A (q_cM E h0 a0 s0 g0) → va_S A s.heap H locs → ∀ ls : Array Slot, lv_has ls 8 [(0, .ref h0), (1, .int v1), (3, .int v3), (4, .int v4), (5, .int v5), (6, .int v6)] → zX4_mostBy_14 v1 v3 n14_ s0 v4 v5 v6 = some (r, rs0) → W p l e (q_rm 3) s m args below meth c H locs 0 0 (MQ below (q_muQ E A (q_cM E h0 a0 rs0 g0) (some (.int r))) args s 0 0 A) (F0 m 14 ls []) := by
    intro n14_
    induction n14_ with
    | zero => intro v1 v3 v4 v5 v6 s0 H locs hP hD hS ls hl h; exact q_nn h
    | succ n14_ ih14 =>
      have K75 : ∀ (v1 : Int32) (v3 : Int32) (v4 : Int32) (v6 : Int32) (v7 : Int32) (t0 : Int32) (s0 : q_S), ∀ (H : Heap) (locs : List Loc), va_P (q_D E) vwCl (q_cM E h0 a0 s0 g0) H → va_D A (q_cM E h0 a0 s0 g0) → va_S A s.heap H locs → ∀ ls : Array Slot, lv_has ls 8 [(0, .ref h0), (1, .int v1), (3, .int v3), (4, .int v4), (6, .int v6), (7, .int v7)] → zX4_mostBy_75 (zX4_mostBy_14 v1 v3 n14_) s0 v4 v6 v7 t0 = some (r, rs0) → W p l e (q_rm 3) s m args below meth c H locs 0 0 (MQ below (q_muQ E A (q_cM E h0 a0 rs0 g0) (some (.int r))) args s 0 0 A) (F0 m 75 ls [.int t0]) := by
        intro v1 v3 v4 v6 v7 t0 s0 H locs hP hD hS ls hl h
        unfold zX4_mostBy_75 at h
        refine lv_istore (lv' := [(5, .int t0), (0, .ref h0), (1, .int v1), (3, .int v3), (4, .int v4), (6, .int v6), (7, .int v7)]) hx hb dX4_mostBy_75 hl (by decide) rfl (fun ls hl => ?_)
        refine lv_iload hx hb dX4_mostBy_77 (lv_at hl 0 rfl) ?_
        refine lv_if_eq (tgt := 90) hx hb dX4_mostBy_79 (by decide) (fun c6 => ?_) (fun c6 => ?_)
        · replace h := q_i1 c6 h
          obtain ⟨x7, ex7, h⟩ := q_ol h
          refine lv_iinc (v := x7) (lv' := [(6, .int x7), (5, .int t0), (0, .ref h0), (1, .int v1), (3, .int v3), (4, .int v4), (7, .int v7)]) hx hb dX4_mostBy_90 hl (k := 5) rfl (by rw [ex7]; rfl) (by decide) rfl (fun ls hl => ?_)
          refine lv_goto (tgt := 14) hx hb dX4_mostBy_93 (by decide) ?_
          exact ih14 v1 v3 v4 t0 x7 s0 H _ hP hD hS ls (lv_sub hl [2, 3, 4, 5, 1, 0] rfl) h
        · replace h := q_i2 c6 h
          refine lv_aload_n hx hb dX4_mostBy_82 rfl (lv_at hl 1 rfl) ?_
          refine lv_iload hx hb dX4_mostBy_83 (lv_at hl 6 rfl) ?_
          refine lv_iload hx hb dX4_mostBy_85 (lv_at hl 5 rfl) ?_
          obtain ⟨y8, c9, h⟩ := q_o1 h
          refine q_muV F (kX4_eats l E h0 a0 s0 g0 v7 v6 H.size y8 c9) q_cX4_eats q_lX4_143 (q_s_M_M_0w E h0 a0 s0 g0 y8 g0) hP hD hS hA hAl ⟨by decide, by decide⟩ (q0 := 0) rfl rfl rfl rfl ⟨_, hl⟩ (rest := []) rfl (Nat.le_of_ble_eq_true rfl) dX4_mostBy_87 (fun H locs (hP : va_P (q_D E) vwCl (q_cM E h0 a0 y8 g0) H) hD hS => ?_)
          obtain ⟨x10, ex10, h⟩ := q_ol h
          refine lv_iinc (v := x10) (lv' := [(6, .int x10), (5, .int t0), (0, .ref h0), (1, .int v1), (3, .int v3), (4, .int v4), (7, .int v7)]) hx hb dX4_mostBy_90 hl (k := 5) rfl (by rw [ex10]; rfl) (by decide) rfl (fun ls hl => ?_)
          refine lv_goto (tgt := 14) hx hb dX4_mostBy_93 (by decide) ?_
          exact ih14 v1 v3 v4 t0 x10 y8 H _ hP hD hS ls (lv_sub hl [2, 3, 4, 5, 1, 0] rfl) h
      have K74 : ∀ (v1 : Int32) (v3 : Int32) (v4 : Int32) (v6 : Int32) (v7 : Int32) (s0 : q_S), ∀ (H : Heap) (locs : List Loc), va_P (q_D E) vwCl (q_cM E h0 a0 s0 g0) H → va_D A (q_cM E h0 a0 s0 g0) → va_S A s.heap H locs → ∀ ls : Array Slot, lv_has ls 8 [(0, .ref h0), (1, .int v1), (3, .int v3), (4, .int v4), (6, .int v6), (7, .int v7)] → zX4_mostBy_74 (zX4_mostBy_14 v1 v3 n14_) s0 v4 v6 v7 = some (r, rs0) → W p l e (q_rm 3) s m args below meth c H locs 0 0 (MQ below (q_muQ E A (q_cM E h0 a0 rs0 g0) (some (.int r))) args s 0 0 A) (F0 m 74 ls []) := by
        intro v1 v3 v4 v6 v7 s0 H locs hP hD hS ls hl h
        unfold zX4_mostBy_74 at h
        refine lv_iconst (v := 0) hx hb dX4_mostBy_74 (by decide) ?_
        exact K75 v1 v3 v4 v6 v7 (0 : Int32) s0 H _ hP hD hS ls (lv_sub hl [0, 1, 2, 3, 4, 5] rfl) h
      intro v1 v3 v4 v5 v6 s0 H locs hP hD hS ls hl h
      rw [zX4_mostBy_14_s] at h
      unfold jX4_mostBy_14 at h
      refine lv_iload hx hb dX4_mostBy_14 (lv_at hl 5 rfl) ?_
      refine lv_aload_n hx hb dX4_mostBy_16 rfl (lv_at hl 0 rfl) ?_
      refine q_get F q_K4 hP 0 rfl 7 (by decide) q_fX4_111 rfl dX4_mostBy_17 ?_
      refine lv_icmp_ge (tgt := 96) hx hb dX4_mostBy_20 (by decide) (fun c11 => ?_) (fun c11 => ?_)
      · replace h := q_i1 c11 h
        exact K96 v5 s0 H _ hP hD hS ls (lv_sub hl [0, 4] rfl) h
      · replace h := q_i2 c11 h
        refine lv_iload hx hb dX4_mostBy_23 (lv_at hl 4 rfl) ?_
        refine lv_if_eq (tgt := 96) hx hb dX4_mostBy_25 (by decide) (fun c12 => ?_) (fun c12 => ?_)
        · replace h := q_i1 c12 h
          exact K96 v5 s0 H _ hP hD hS ls (lv_sub hl [0, 4] rfl) h
        · replace h := q_i2 c12 h
          refine lv_iload_n hx hb dX4_mostBy_28 rfl (lv_at hl 2 rfl) ?_
          refine lv_iload hx hb dX4_mostBy_29 (lv_at hl 5 rfl) ?_
          obtain ⟨x13, c14, h⟩ := q_o1 h
          refine q_roS F (kX4_isIn l E  v3 v6 x13 c14) q_cX4_isIn q_lX4_126 (q_EV.go F.2.2.2.2.2 hAl hS) (fun k q h => by simp at h) ⟨by decide, by decide⟩ rfl ⟨_, hl⟩ (rest := []) rfl (Nat.le_of_ble_eq_true rfl) dX4_mostBy_31 ?_
          refine lv_if_ne (tgt := 90) hx hb dX4_mostBy_34 (by decide) (fun c15 => ?_) (fun c15 => ?_)
          · replace h := q_i2 c15 h
            obtain ⟨x16, ex16, h⟩ := q_ol h
            refine lv_iinc (v := x16) (lv' := [(6, .int x16), (0, .ref h0), (1, .int v1), (3, .int v3), (4, .int v4), (5, .int v5)]) hx hb dX4_mostBy_90 hl (k := 5) rfl (by rw [ex16]; rfl) (by decide) rfl (fun ls hl => ?_)
            refine lv_goto (tgt := 14) hx hb dX4_mostBy_93 (by decide) ?_
            exact ih14 v1 v3 v4 v5 x16 s0 H _ hP hD hS ls (lv_sub hl [1, 2, 3, 4, 5, 0] rfl) h
          · replace h := q_i1 c15 h
            obtain ⟨x17, ex17, h⟩ := q_ol h
            refine lv_iinc (v := x17) (lv' := [(4, .int x17), (0, .ref h0), (1, .int v1), (3, .int v3), (5, .int v5), (6, .int v6)]) hx hb dX4_mostBy_37 hl (k := 3) rfl (by rw [ex17]; rfl) (by decide) rfl (fun ls hl => ?_)
            refine lv_iload_n hx hb dX4_mostBy_40 rfl (lv_at hl 2 rfl) ?_
            refine lv_iconst (v := 2) hx hb dX4_mostBy_41 (by decide) ?_
            refine lv_iload hx hb dX4_mostBy_42 (lv_at hl 0 rfl) ?_
            refine lv_imul hx hb dX4_mostBy_44 ?_
            refine lv_ishr hx hb dX4_mostBy_45 ?_
            refine lv_iconst (v := 3) hx hb dX4_mostBy_46 (by decide) ?_
            refine lv_iand hx hb dX4_mostBy_47 ?_
            obtain ⟨x18, ex18, h⟩ := q_ol h
            refine q_top ex18 ?_
            refine lv_istore (lv' := [(7, .int x18), (4, .int x17), (0, .ref h0), (1, .int v1), (3, .int v3), (5, .int v5), (6, .int v6)]) hx hb dX4_mostBy_48 hl (by decide) rfl (fun ls hl => ?_)
            refine lv_aload_n hx hb dX4_mostBy_50 rfl (lv_at hl 2 rfl) ?_
            refine lv_iload hx hb dX4_mostBy_51 (lv_at hl 0 rfl) ?_
            obtain ⟨x19, c20, h⟩ := q_o1 h
            refine q_roV F (kX4_isEater l E h0 a0 s0 g0 x18 x19 c20) q_cX4_isEater q_lX4_163 (q_EV.go F.2.2.2.2.2 hAl hS) hP ⟨by decide, by decide⟩ (q0 := 0) rfl rfl rfl rfl ⟨_, hl⟩ (rest := []) rfl (Nat.le_of_ble_eq_true rfl) dX4_mostBy_53 ?_
            refine lv_if_eq (tgt := 74) hx hb dX4_mostBy_56 (by decide) (fun c21 => ?_) (fun c21 => ?_)
            · replace h := q_i1 c21 h
              exact K74 v1 v3 x17 v6 x18 s0 H _ hP hD hS ls (lv_sub hl [2, 3, 4, 1, 6, 0] rfl) h
            · replace h := q_i2 c21 h
              refine lv_aload_n hx hb dX4_mostBy_59 rfl (lv_at hl 2 rfl) ?_
              refine lv_iload hx hb dX4_mostBy_60 (lv_at hl 0 rfl) ?_
              refine lv_iload hx hb dX4_mostBy_62 (lv_at hl 6 rfl) ?_
              obtain ⟨x22, c23, h⟩ := q_o1 h
              refine q_roV F (kX4_would l E h0 a0 s0 g0 x18 v6 x22 c23) q_cX4_would q_lX4_140 (q_EV.go F.2.2.2.2.2 hAl hS) hP ⟨by decide, by decide⟩ (q0 := 0) rfl rfl rfl rfl ⟨_, hl⟩ (rest := []) rfl (Nat.le_of_ble_eq_true rfl) dX4_mostBy_64 ?_
              refine lv_if_eq (tgt := 74) hx hb dX4_mostBy_67 (by decide) (fun c24 => ?_) (fun c24 => ?_)
              · replace h := q_i1 c24 h
                exact K74 v1 v3 x17 v6 x18 s0 H _ hP hD hS ls (lv_sub hl [2, 3, 4, 1, 6, 0] rfl) h
              · replace h := q_i2 c24 h
                refine lv_iconst (v := 1) hx hb dX4_mostBy_70 (by decide) ?_
                refine lv_goto (tgt := 75) hx hb dX4_mostBy_71 (by decide) ?_
                exact K75 v1 v3 x17 v6 x18 (1 : Int32) s0 H _ hP hD hS ls (lv_sub hl [2, 3, 4, 1, 6, 0] rfl) h
  unfold zX4_mostBy at h
  refine lv_aload_n hx hb dX4_mostBy_0 rfl (lv_at hl 0 rfl) ?_
  refine q_get F q_K4 hP 0 rfl 10 (by decide) q_fX4_117 rfl dX4_mostBy_1 ?_
  obtain ⟨x25, ex25, h⟩ := q_ol h
  refine q_top ex25 ?_
  refine lv_istore_n (lv' := [(3, .int x25), (0, .ref h0), (1, .int v1), (2, .int v2)]) hx hb dX4_mostBy_4 rfl hl (by decide) rfl (fun ls hl => ?_)
  refine lv_iload_n hx hb dX4_mostBy_5 rfl (lv_at hl 3 rfl) ?_
  refine lv_istore (lv' := [(4, .int v2), (3, .int x25), (0, .ref h0), (1, .int v1), (2, .int v2)]) hx hb dX4_mostBy_6 hl (by decide) rfl (fun ls hl => ?_)
  refine lv_iconst (v := 1) hx hb dX4_mostBy_8 (by decide) ?_
  refine lv_istore (lv' := [(5, .int (1 : Int32)), (4, .int v2), (3, .int x25), (0, .ref h0), (1, .int v1), (2, .int v2)]) hx hb dX4_mostBy_9 hl (by decide) rfl (fun ls hl => ?_)
  refine lv_iconst (v := 0) hx hb dX4_mostBy_11 (by decide) ?_
  refine lv_istore (lv' := [(6, .int (0 : Int32)), (5, .int (1 : Int32)), (4, .int v2), (3, .int x25), (0, .ref h0), (1, .int v1), (2, .int v2)]) hx hb dX4_mostBy_12 hl (by decide) rfl (fun ls hl => ?_)
  exact K14 70000 v1 x25 v2 (1 : Int32) (0 : Int32) s0 _ _ hP hD hS ls (lv_sub hl [4, 5, 3, 2, 1, 0] rfl) h
def jX4_spreadNow_132 (s0 : q_S) (v3 : Int32) (k132 : Int32 → Int32 → Option (Int32 × q_S)) (v6 : Int32) (v7 : Int32) : Option (Int32 × q_S) := if (s0 7 0) ≤ v7 then (some (((v3 >>> (((2 : Int32) * v6) &&& 31)) &&& (3 : Int32)), s0)) else (q_b1 (zX4_isIn (s0 10 0) v7) fun x2 => if x2 = 0 then (q_lt (v6 + (1 : Int32)) fun x5 => q_lt (v7 + 1) fun x6 => k132 x5 x6) else (q_lt (v6 + (0 : Int32)) fun x7 => q_lt (v7 + 1) fun x8 => k132 x7 x8))
def zX4_spreadNow_132 (s0 : q_S) (v3 : Int32) : Nat → Int32 → Int32 → Option (Int32 × q_S)
  | 0, _, _ => none
  | n + 1, v6, v7 => jX4_spreadNow_132 s0 v3 (zX4_spreadNow_132 s0 v3 n) v6 v7
theorem zX4_spreadNow_132_s (s0 : q_S) (v3 : Int32) (n : Nat) (v6 : Int32) (v7 : Int32) : zX4_spreadNow_132 s0 v3 (n + 1) v6 v7 = jX4_spreadNow_132 s0 v3 (zX4_spreadNow_132 s0 v3 n) v6 v7 := rfl
def zX4_spreadNow_82 (s0 : q_S) (v3 : Int32) (v4 : Int32) : Option (Int32 × q_S) := if v3 = (-1 : Int32) then (some ((-1 : Int32), s0)) else (some (v4, s0))
def zX4_spreadNow_50 (k18 : q_S → Int32 → Int32 → Int32 → Option (Int32 × q_S)) (s0 : q_S) (v4 : Int32) (v5 : Int32) (v6 : Int32) (t0 : Int32) : Option (Int32 × q_S) := if v4 ≤ v6 then (q_lt (v5 + 1) fun x11 => k18 s0 t0 v4 x11) else (q_lt (v5 + 1) fun x12 => k18 s0 t0 v6 x12)
def jX4_spreadNow_18 (v1 : Int32) (v2 : Int32) (k18 : q_S → Int32 → Int32 → Int32 → Option (Int32 × q_S)) (s0 : q_S) (v3 : Int32) (v4 : Int32) (v5 : Int32) : Option (Int32 × q_S) := if ((1 : Int32) <<< (((2 : Int32) * v2) &&& 31)) ≤ v5 then (if v3 = (-1 : Int32) then (zX4_spreadNow_82 s0 v3 v4) else (if v1 = 0 then (zX4_spreadNow_82 s0 v3 v4) else (q_lt (v1 - (10 : Int32)) fun x16 => if (s0 7 0) ≤ x16 then (some ((-1 : Int32), s0)) else (q_b1 (zX4_isIn (s0 10 0) x16) fun x18 => if x18 = 0 then (q_lt (x16 + (1 : Int32)) fun x21 => zX4_spreadNow_132 s0 v3 70000 (0 : Int32) x21) else (some ((-1 : Int32), s0)))))) else (q_b2 (zX4_mostBy s0 v5 v2) fun x22 y23 => if v4 ≤ x22 then (zX4_spreadNow_50 k18 y23 v4 v5 x22 v3) else (zX4_spreadNow_50 k18 y23 v4 v5 x22 v5))
def zX4_spreadNow_18 (v1 : Int32) (v2 : Int32) : Nat → q_S → Int32 → Int32 → Int32 → Option (Int32 × q_S)
  | 0, _, _, _, _ => none
  | n + 1, s0, v3, v4, v5 => jX4_spreadNow_18 v1 v2 (zX4_spreadNow_18 v1 v2 n) s0 v3 v4 v5
theorem zX4_spreadNow_18_s (v1 : Int32) (v2 : Int32) (n : Nat) (s0 : q_S) (v3 : Int32) (v4 : Int32) (v5 : Int32) : zX4_spreadNow_18 v1 v2 (n + 1) s0 v3 v4 v5 = jX4_spreadNow_18 v1 v2 (zX4_spreadNow_18 v1 v2 n) s0 v3 v4 v5 := rfl
def zX4_spreadNow (s0 : q_S) (v1 : Int32) : Option (Int32 × q_S) := q_b1 (zX4_save s0) fun y26 => q_b1 (zX4_leftMany y26) fun x28 => zX4_spreadNow_18 v1 x28 70000 y26 (-1 : Int32) (268435456 : Int32) (0 : Int32)
set_option maxHeartbeats 4000000 in
set_option maxRecDepth 100000 in
theorem kX4_spreadNow (l : Launch) (E : q_E) (h0 : Nat) (a0 : Nat → Nat) (s0 : q_S) (g0 : q_G) (v1 : Int32) (sz : Nat) (r : Int32) (rs0 : q_S) (h : zX4_spreadNow s0 v1 = some (r, rs0)) : q_MU l E yX4_spreadNow cX4_spreadNow 8 (some .int) 4 [.ref h0, .int v1] sz (q_cM E h0 a0 s0 g0) (q_cM E h0 a0 rs0 g0) (some (.int r)) := by
  refine q_MU.intro (by decide) (Nat.le_of_ble_eq_true rfl) ?_
  intro p e s m args below meth c A X hP hD hA hAl ls hl
  obtain ⟨hx, hb, hml, hr, hlk, hown, hB, hE⟩ := X
  have hown : s.vm.findClass RX4 = some m.cls := hown
  have F : q_Fx p s m c E RX4 cX4_spreadNow 8 := ⟨hx, hb, hml, hown, hB, hE⟩
  have hS : va_S A s.heap s.heap [] := va_S.rf
  have hl : lv_has ls 8 [(0, .ref h0), (1, .int v1)] := hl
  have K132 : ∀ (n132_ : Nat), ∀ (v3 : Int32) (v6 : Int32) (v7 : Int32) (s0 : q_S), ∀ (H : Heap) (locs : List Loc), va_P (q_D E) vwCl (q_cM E h0 a0 s0 g0) H → va_D A (q_cM E h0 a0 s0 g0) → va_S A s.heap H locs → ∀ ls : Array Slot, lv_has ls 8 [(0, .ref h0), (3, .int v3), (6, .int v6), (7, .int v7)] → zX4_spreadNow_132 s0 v3 n132_ v6 v7 = some (r, rs0) → W p l e (q_rm 4) s m args below meth c H locs 0 0 (MQ below (q_muQ E A (q_cM E h0 a0 rs0 g0) (some (.int r))) args s 0 0 A) (F0 m 132 ls []) := by
    intro n132_
    induction n132_ with
    | zero => intro v3 v6 v7 s0 H locs hP hD hS ls hl h; exact q_nn h
    | succ n132_ ih132 =>
      intro v3 v6 v7 s0 H locs hP hD hS ls hl h
      rw [zX4_spreadNow_132_s] at h
      unfold jX4_spreadNow_132 at h
      refine lv_iload hx hb dX4_spreadNow_132 (lv_at hl 3 rfl) ?_
      refine lv_aload_n hx hb dX4_spreadNow_134 rfl (lv_at hl 0 rfl) ?_
      refine q_get F q_K4 hP 0 rfl 7 (by decide) q_fX4_111 rfl dX4_spreadNow_135 ?_
      refine lv_icmp_ge (tgt := 169) hx hb dX4_spreadNow_138 (by decide) (fun c1 => ?_) (fun c1 => ?_)
      · replace h := q_i1 c1 h
        refine lv_iload_n hx hb dX4_spreadNow_169 rfl (lv_at hl 1 rfl) ?_
        refine lv_iconst (v := 2) hx hb dX4_spreadNow_170 (by decide) ?_
        refine lv_iload hx hb dX4_spreadNow_171 (lv_at hl 2 rfl) ?_
        refine lv_imul hx hb dX4_spreadNow_173 ?_
        refine lv_ishr hx hb dX4_spreadNow_174 ?_
        refine lv_iconst (v := 3) hx hb dX4_spreadNow_175 (by decide) ?_
        refine lv_iand hx hb dX4_spreadNow_176 ?_
        cases h
        exact q_wI F hr hlk dX4_spreadNow_177 hP hD hS
      · replace h := q_i2 c1 h
        refine lv_iload hx hb dX4_spreadNow_141 (lv_at hl 2 rfl) ?_
        refine lv_aload_n hx hb dX4_spreadNow_143 rfl (lv_at hl 0 rfl) ?_
        refine q_get F q_K4 hP 0 rfl 10 (by decide) q_fX4_117 rfl dX4_spreadNow_144 ?_
        refine lv_iload hx hb dX4_spreadNow_147 (lv_at hl 3 rfl) ?_
        obtain ⟨x2, c3, h⟩ := q_o1 h
        refine q_roS F (kX4_isIn l E  (s0 10 0) v7 x2 c3) q_cX4_isIn q_lX4_126 (q_EV.go F.2.2.2.2.2 hAl hS) (fun k q h => by simp at h) ⟨by decide, by decide⟩ rfl ⟨_, hl⟩ (rest := [.int v6]) rfl (Nat.le_of_ble_eq_true rfl) dX4_spreadNow_149 ?_
        refine lv_if_eq (tgt := 159) hx hb dX4_spreadNow_152 (by decide) (fun c4 => ?_) (fun c4 => ?_)
        · replace h := q_i1 c4 h
          refine lv_iconst (v := 1) hx hb dX4_spreadNow_159 (by decide) ?_
          refine lv_iadd hx hb dX4_spreadNow_160 ?_
          obtain ⟨x5, ex5, h⟩ := q_ol h
          refine q_top ex5 ?_
          refine lv_istore (lv' := [(6, .int x5), (0, .ref h0), (3, .int v3), (7, .int v7)]) hx hb dX4_spreadNow_161 hl (by decide) rfl (fun ls hl => ?_)
          obtain ⟨x6, ex6, h⟩ := q_ol h
          refine lv_iinc (v := x6) (lv' := [(7, .int x6), (6, .int x5), (0, .ref h0), (3, .int v3)]) hx hb dX4_spreadNow_163 hl (k := 3) rfl (by rw [ex6]; rfl) (by decide) rfl (fun ls hl => ?_)
          refine lv_goto (tgt := 132) hx hb dX4_spreadNow_166 (by decide) ?_
          exact ih132 v3 x5 x6 s0 H _ hP hD hS ls (lv_sub hl [2, 3, 1, 0] rfl) h
        · replace h := q_i2 c4 h
          refine lv_iconst (v := 0) hx hb dX4_spreadNow_155 (by decide) ?_
          refine lv_goto (tgt := 160) hx hb dX4_spreadNow_156 (by decide) ?_
          refine lv_iadd hx hb dX4_spreadNow_160 ?_
          obtain ⟨x7, ex7, h⟩ := q_ol h
          refine q_top ex7 ?_
          refine lv_istore (lv' := [(6, .int x7), (0, .ref h0), (3, .int v3), (7, .int v7)]) hx hb dX4_spreadNow_161 hl (by decide) rfl (fun ls hl => ?_)
          obtain ⟨x8, ex8, h⟩ := q_ol h
          refine lv_iinc (v := x8) (lv' := [(7, .int x8), (6, .int x7), (0, .ref h0), (3, .int v3)]) hx hb dX4_spreadNow_163 hl (k := 3) rfl (by rw [ex8]; rfl) (by decide) rfl (fun ls hl => ?_)
          refine lv_goto (tgt := 132) hx hb dX4_spreadNow_166 (by decide) ?_
          exact ih132 v3 x7 x8 s0 H _ hP hD hS ls (lv_sub hl [2, 3, 1, 0] rfl) h
  have K82 : ∀ (v3 : Int32) (v4 : Int32) (s0 : q_S), ∀ (H : Heap) (locs : List Loc), va_P (q_D E) vwCl (q_cM E h0 a0 s0 g0) H → va_D A (q_cM E h0 a0 s0 g0) → va_S A s.heap H locs → ∀ ls : Array Slot, lv_has ls 8 [(3, .int v3), (4, .int v4)] → zX4_spreadNow_82 s0 v3 v4 = some (r, rs0) → W p l e (q_rm 4) s m args below meth c H locs 0 0 (MQ below (q_muQ E A (q_cM E h0 a0 rs0 g0) (some (.int r))) args s 0 0 A) (F0 m 82 ls []) := by
    intro v3 v4 s0 H locs hP hD hS ls hl h
    unfold zX4_spreadNow_82 at h
    refine lv_iload_n hx hb dX4_spreadNow_82 rfl (lv_at hl 0 rfl) ?_
    refine lv_iconst (v := (-1)) hx hb dX4_spreadNow_83 (by decide) ?_
    refine lv_icmp_ne (tgt := 91) hx hb dX4_spreadNow_84 (by decide) (fun c9 => ?_) (fun c9 => ?_)
    · replace h := q_i2 c9 h
      refine lv_iload hx hb dX4_spreadNow_91 (lv_at hl 1 rfl) ?_
      cases h
      exact q_wI F hr hlk dX4_spreadNow_93 hP hD hS
    · replace h := q_i1 c9 h
      refine lv_iconst (v := (-1)) hx hb dX4_spreadNow_87 (by decide) ?_
      refine lv_goto (tgt := 93) hx hb dX4_spreadNow_88 (by decide) ?_
      cases h
      exact q_wI F hr hlk dX4_spreadNow_93 hP hD hS
  have K18 : ∀ (n18_ : Nat), ∀ (v1 : Int32) (v2 : Int32) (v3 : Int32) (v4 : Int32) (v5 : Int32) (s0 : q_S), ∀ (H : Heap) (locs : List Loc), va_P (q_D E) vwCl (q_cM E h0 a0 s0 g0) H → va_D A (q_cM E h0 a0 s0 g0) → va_S A s.heap H locs → ∀ ls : Array Slot, lv_has ls 8 [(0, .ref h0), (1, .int v1), (2, .int v2), (3, .int v3), (4, .int v4), (5, .int v5)] → zX4_spreadNow_18 v1 v2 n18_ s0 v3 v4 v5 = some (r, rs0) → W p l e (q_rm 4) s m args below meth c H locs 0 0 (MQ below (q_muQ E A (q_cM E h0 a0 rs0 g0) (some (.int r))) args s 0 0 A) (F0 m 18 ls []) := by
    intro n18_
    induction n18_ with
    | zero => intro v1 v2 v3 v4 v5 s0 H locs hP hD hS ls hl h; exact q_nn h
    | succ n18_ ih18 =>
      have K50 : ∀ (v1 : Int32) (v2 : Int32) (v4 : Int32) (v5 : Int32) (v6 : Int32) (t0 : Int32) (s0 : q_S), ∀ (H : Heap) (locs : List Loc), va_P (q_D E) vwCl (q_cM E h0 a0 s0 g0) H → va_D A (q_cM E h0 a0 s0 g0) → va_S A s.heap H locs → ∀ ls : Array Slot, lv_has ls 8 [(0, .ref h0), (1, .int v1), (2, .int v2), (4, .int v4), (5, .int v5), (6, .int v6)] → zX4_spreadNow_50 (zX4_spreadNow_18 v1 v2 n18_) s0 v4 v5 v6 t0 = some (r, rs0) → W p l e (q_rm 4) s m args below meth c H locs 0 0 (MQ below (q_muQ E A (q_cM E h0 a0 rs0 g0) (some (.int r))) args s 0 0 A) (F0 m 50 ls [.int t0]) := by
        intro v1 v2 v4 v5 v6 t0 s0 H locs hP hD hS ls hl h
        unfold zX4_spreadNow_50 at h
        refine lv_istore_n (lv' := [(3, .int t0), (0, .ref h0), (1, .int v1), (2, .int v2), (4, .int v4), (5, .int v5), (6, .int v6)]) hx hb dX4_spreadNow_50 rfl hl (by decide) rfl (fun ls hl => ?_)
        refine lv_iload hx hb dX4_spreadNow_51 (lv_at hl 6 rfl) ?_
        refine lv_iload hx hb dX4_spreadNow_53 (lv_at hl 4 rfl) ?_
        refine lv_icmp_ge (tgt := 63) hx hb dX4_spreadNow_55 (by decide) (fun c10 => ?_) (fun c10 => ?_)
        · replace h := q_i1 c10 h
          refine lv_iload hx hb dX4_spreadNow_63 (lv_at hl 4 rfl) ?_
          refine lv_istore (lv' := [(4, .int v4), (3, .int t0), (0, .ref h0), (1, .int v1), (2, .int v2), (5, .int v5), (6, .int v6)]) hx hb dX4_spreadNow_65 hl (by decide) rfl (fun ls hl => ?_)
          obtain ⟨x11, ex11, h⟩ := q_ol h
          refine lv_iinc (v := x11) (lv' := [(5, .int x11), (4, .int v4), (3, .int t0), (0, .ref h0), (1, .int v1), (2, .int v2), (6, .int v6)]) hx hb dX4_spreadNow_67 hl (k := 5) rfl (by rw [ex11]; rfl) (by decide) rfl (fun ls hl => ?_)
          refine lv_goto (tgt := 18) hx hb dX4_spreadNow_70 (by decide) ?_
          exact ih18 v1 v2 t0 v4 x11 s0 H _ hP hD hS ls (lv_sub hl [3, 4, 5, 2, 1, 0] rfl) h
        · replace h := q_i2 c10 h
          refine lv_iload hx hb dX4_spreadNow_58 (lv_at hl 6 rfl) ?_
          refine lv_goto (tgt := 65) hx hb dX4_spreadNow_60 (by decide) ?_
          refine lv_istore (lv' := [(4, .int v6), (3, .int t0), (0, .ref h0), (1, .int v1), (2, .int v2), (5, .int v5), (6, .int v6)]) hx hb dX4_spreadNow_65 hl (by decide) rfl (fun ls hl => ?_)
          obtain ⟨x12, ex12, h⟩ := q_ol h
          refine lv_iinc (v := x12) (lv' := [(5, .int x12), (4, .int v6), (3, .int t0), (0, .ref h0), (1, .int v1), (2, .int v2), (6, .int v6)]) hx hb dX4_spreadNow_67 hl (k := 5) rfl (by rw [ex12]; rfl) (by decide) rfl (fun ls hl => ?_)
          refine lv_goto (tgt := 18) hx hb dX4_spreadNow_70 (by decide) ?_
          exact ih18 v1 v2 t0 v6 x12 s0 H _ hP hD hS ls (lv_sub hl [3, 4, 5, 2, 1, 0] rfl) h
      intro v1 v2 v3 v4 v5 s0 H locs hP hD hS ls hl h
      rw [zX4_spreadNow_18_s] at h
      unfold jX4_spreadNow_18 at h
      refine lv_iload hx hb dX4_spreadNow_18 (lv_at hl 5 rfl) ?_
      refine lv_iconst (v := 1) hx hb dX4_spreadNow_20 (by decide) ?_
      refine lv_iconst (v := 2) hx hb dX4_spreadNow_21 (by decide) ?_
      refine lv_iload_n hx hb dX4_spreadNow_22 rfl (lv_at hl 2 rfl) ?_
      refine lv_imul hx hb dX4_spreadNow_23 ?_
      refine lv_ishl hx hb dX4_spreadNow_24 ?_
      refine lv_icmp_ge (tgt := 73) hx hb dX4_spreadNow_25 (by decide) (fun c13 => ?_) (fun c13 => ?_)
      · replace h := q_i1 c13 h
        refine lv_iload_n hx hb dX4_spreadNow_73 rfl (lv_at hl 3 rfl) ?_
        refine lv_iconst (v := (-1)) hx hb dX4_spreadNow_74 (by decide) ?_
        refine lv_icmp_eq (tgt := 82) hx hb dX4_spreadNow_75 (by decide) (fun c14 => ?_) (fun c14 => ?_)
        · replace h := q_i1 c14 h
          exact K82 v3 v4 s0 H _ hP hD hS ls (lv_sub hl [3, 4] rfl) h
        · replace h := q_i2 c14 h
          refine lv_iload_n hx hb dX4_spreadNow_78 rfl (lv_at hl 1 rfl) ?_
          refine lv_if_ne (tgt := 94) hx hb dX4_spreadNow_79 (by decide) (fun c15 => ?_) (fun c15 => ?_)
          · replace h := q_i2 c15 h
            refine lv_iload_n hx hb dX4_spreadNow_94 rfl (lv_at hl 1 rfl) ?_
            refine lv_bipush (v := 10) hx hb dX4_spreadNow_95 (by decide) ?_
            refine lv_isub hx hb dX4_spreadNow_97 ?_
            obtain ⟨x16, ex16, h⟩ := q_ol h
            refine q_top ex16 ?_
            refine lv_istore (lv' := [(5, .int x16), (0, .ref h0), (1, .int v1), (2, .int v2), (3, .int v3), (4, .int v4)]) hx hb dX4_spreadNow_98 hl (by decide) rfl (fun ls hl => ?_)
            refine lv_iload hx hb dX4_spreadNow_100 (lv_at hl 0 rfl) ?_
            refine lv_aload_n hx hb dX4_spreadNow_102 rfl (lv_at hl 1 rfl) ?_
            refine q_get F q_K4 hP 0 rfl 7 (by decide) q_fX4_111 rfl dX4_spreadNow_103 ?_
            refine lv_icmp_ge (tgt := 121) hx hb dX4_spreadNow_106 (by decide) (fun c17 => ?_) (fun c17 => ?_)
            · replace h := q_i1 c17 h
              refine lv_iconst (v := (-1)) hx hb dX4_spreadNow_121 (by decide) ?_
              cases h
              exact q_wI F hr hlk dX4_spreadNow_122 hP hD hS
            · replace h := q_i2 c17 h
              refine lv_aload_n hx hb dX4_spreadNow_109 rfl (lv_at hl 1 rfl) ?_
              refine q_get F q_K4 hP 0 rfl 10 (by decide) q_fX4_117 rfl dX4_spreadNow_110 ?_
              refine lv_iload hx hb dX4_spreadNow_113 (lv_at hl 0 rfl) ?_
              obtain ⟨x18, c19, h⟩ := q_o1 h
              refine q_roS F (kX4_isIn l E  (s0 10 0) x16 x18 c19) q_cX4_isIn q_lX4_126 (q_EV.go F.2.2.2.2.2 hAl hS) (fun k q h => by simp at h) ⟨by decide, by decide⟩ rfl ⟨_, hl⟩ (rest := []) rfl (Nat.le_of_ble_eq_true rfl) dX4_spreadNow_115 ?_
              refine lv_if_eq (tgt := 123) hx hb dX4_spreadNow_118 (by decide) (fun c20 => ?_) (fun c20 => ?_)
              · replace h := q_i1 c20 h
                refine lv_iconst (v := 0) hx hb dX4_spreadNow_123 (by decide) ?_
                refine lv_istore (lv' := [(6, .int (0 : Int32)), (5, .int x16), (0, .ref h0), (1, .int v1), (2, .int v2), (3, .int v3), (4, .int v4)]) hx hb dX4_spreadNow_124 hl (by decide) rfl (fun ls hl => ?_)
                refine lv_iload hx hb dX4_spreadNow_126 (lv_at hl 1 rfl) ?_
                refine lv_iconst (v := 1) hx hb dX4_spreadNow_128 (by decide) ?_
                refine lv_iadd hx hb dX4_spreadNow_129 ?_
                obtain ⟨x21, ex21, h⟩ := q_ol h
                refine q_top ex21 ?_
                refine lv_istore (lv' := [(7, .int x21), (6, .int (0 : Int32)), (5, .int x16), (0, .ref h0), (1, .int v1), (2, .int v2), (3, .int v3), (4, .int v4)]) hx hb dX4_spreadNow_130 hl (by decide) rfl (fun ls hl => ?_)
                exact K132 70000 v3 (0 : Int32) x21 s0 H _ hP hD hS ls (lv_sub hl [3, 6, 1, 0] rfl) h
              · replace h := q_i2 c20 h
                refine lv_iconst (v := (-1)) hx hb dX4_spreadNow_121 (by decide) ?_
                cases h
                exact q_wI F hr hlk dX4_spreadNow_122 hP hD hS
          · replace h := q_i1 c15 h
            exact K82 v3 v4 s0 H _ hP hD hS ls (lv_sub hl [3, 4] rfl) h
      · replace h := q_i2 c13 h
        refine lv_aload_n hx hb dX4_spreadNow_28 rfl (lv_at hl 0 rfl) ?_
        refine lv_iload hx hb dX4_spreadNow_29 (lv_at hl 5 rfl) ?_
        refine lv_iload_n hx hb dX4_spreadNow_31 rfl (lv_at hl 2 rfl) ?_
        obtain ⟨x22, y23, c24, h⟩ := q_o2 h
        refine q_muV F (kX4_mostBy l E h0 a0 s0 g0 v5 v2 H.size x22 y23 c24) q_cX4_mostBy q_lX4_194 (q_s_M_M_0w E h0 a0 s0 g0 y23 g0) hP hD hS hA hAl ⟨by decide, by decide⟩ (q0 := 0) rfl rfl rfl rfl ⟨_, hl⟩ (rest := []) rfl (Nat.le_of_ble_eq_true rfl) dX4_spreadNow_32 (fun H locs (hP : va_P (q_D E) vwCl (q_cM E h0 a0 y23 g0) H) hD hS => ?_)
        refine lv_istore (lv' := [(6, .int x22), (0, .ref h0), (1, .int v1), (2, .int v2), (3, .int v3), (4, .int v4), (5, .int v5)]) hx hb dX4_spreadNow_35 hl (by decide) rfl (fun ls hl => ?_)
        refine lv_iload hx hb dX4_spreadNow_37 (lv_at hl 0 rfl) ?_
        refine lv_iload hx hb dX4_spreadNow_39 (lv_at hl 5 rfl) ?_
        refine lv_icmp_ge (tgt := 49) hx hb dX4_spreadNow_41 (by decide) (fun c25 => ?_) (fun c25 => ?_)
        · replace h := q_i1 c25 h
          refine lv_iload_n hx hb dX4_spreadNow_49 rfl (lv_at hl 4 rfl) ?_
          exact K50 v1 v2 v4 v5 x22 v3 y23 H _ hP hD hS ls (lv_sub hl [1, 2, 3, 5, 6, 0] rfl) h
        · replace h := q_i2 c25 h
          refine lv_iload hx hb dX4_spreadNow_44 (lv_at hl 6 rfl) ?_
          refine lv_goto (tgt := 50) hx hb dX4_spreadNow_46 (by decide) ?_
          exact K50 v1 v2 v4 v5 x22 v5 y23 H _ hP hD hS ls (lv_sub hl [1, 2, 3, 5, 6, 0] rfl) h
  unfold zX4_spreadNow at h
  refine lv_aload_n hx hb dX4_spreadNow_0 rfl (lv_at hl 0 rfl) ?_
  obtain ⟨y26, c27, h⟩ := q_o1 h
  refine q_muV F (kX4_save l E h0 a0 s0 g0 s.heap.size y26 c27) q_cX4_save q_lX4_149 (q_s_M_M_0w E h0 a0 s0 g0 y26 g0) hP hD hS hA hAl ⟨by decide, by decide⟩ (q0 := 0) rfl rfl rfl rfl ⟨_, hl⟩ (rest := []) rfl (Nat.le_of_ble_eq_true rfl) dX4_spreadNow_1 (fun H locs (hP : va_P (q_D E) vwCl (q_cM E h0 a0 y26 g0) H) hD hS => ?_)
  refine lv_aload_n hx hb dX4_spreadNow_4 rfl (lv_at hl 0 rfl) ?_
  obtain ⟨x28, c29, h⟩ := q_o1 h
  refine q_roV F (kX4_leftMany l E h0 a0 y26 g0 x28 c29) q_cX4_leftMany q_lX4_191 (q_EV.go F.2.2.2.2.2 hAl hS) hP ⟨by decide, by decide⟩ (q0 := 0) rfl rfl rfl rfl ⟨_, hl⟩ (rest := []) rfl (Nat.le_of_ble_eq_true rfl) dX4_spreadNow_5 ?_
  refine lv_istore_n (lv' := [(2, .int x28), (0, .ref h0), (1, .int v1)]) hx hb dX4_spreadNow_8 rfl hl (by decide) rfl (fun ls hl => ?_)
  refine lv_iconst (v := (-1)) hx hb dX4_spreadNow_9 (by decide) ?_
  refine lv_istore_n (lv' := [(3, .int (-1 : Int32)), (2, .int x28), (0, .ref h0), (1, .int v1)]) hx hb dX4_spreadNow_10 rfl hl (by decide) rfl (fun ls hl => ?_)
  refine lv_ldc (v := 268435456) hx hb hown (hB _ q_kX4_190 _) dX4_spreadNow_11 ?_
  refine lv_istore (lv' := [(4, .int (268435456 : Int32)), (3, .int (-1 : Int32)), (2, .int x28), (0, .ref h0), (1, .int v1)]) hx hb dX4_spreadNow_13 hl (by decide) rfl (fun ls hl => ?_)
  refine lv_iconst (v := 0) hx hb dX4_spreadNow_15 (by decide) ?_
  refine lv_istore (lv' := [(5, .int (0 : Int32)), (4, .int (268435456 : Int32)), (3, .int (-1 : Int32)), (2, .int x28), (0, .ref h0), (1, .int v1)]) hx hb dX4_spreadNow_16 hl (by decide) rfl (fun ls hl => ?_)
  exact K18 70000 v1 x28 (-1 : Int32) (268435456 : Int32) (0 : Int32) y26 H _ hP hD hS ls (lv_sub hl [4, 5, 3, 2, 1, 0] rfl) h
def zX4_spread_18 (s0 : q_S) (v1 : Int32) : Option (Int32 × q_S) := if (s0 1 0) = 0 then (some ((-103 : Int32), s0)) else (if (s0 16 0) = (12 : Int32) then (some ((-103 : Int32), s0)) else (q_lt (q_u s0 16 0 ((s0 16 0) + (1 : Int32))) fun y3 => q_b2 (zX4_spreadNow y3 v1) fun x4 y5 => some (x4, y5)))
def zX4_spread (s0 : q_S) (v1 : Int32) : Option (Int32 × q_S) := if v1 = 0 then (zX4_spread_18 s0 v1) else (q_b1 (zX4_within v1 (10 : Int32) (17 : Int32)) fun x8 => if x8 = 0 then (some ((-102 : Int32), s0)) else (zX4_spread_18 s0 v1))
set_option maxHeartbeats 4000000 in
set_option maxRecDepth 100000 in
theorem kX4_spread (l : Launch) (E : q_E) (h0 : Nat) (a0 : Nat → Nat) (s0 : q_S) (g0 : q_G) (v1 : Int32) (sz : Nat) (r : Int32) (rs0 : q_S) (h : zX4_spread s0 v1 = some (r, rs0)) : q_MU l E yX4_spread cX4_spread 2 (some .int) 5 [.ref h0, .int v1] sz (q_cM E h0 a0 s0 g0) (q_cM E h0 a0 rs0 g0) (some (.int r)) := by
  refine q_MU.intro (by decide) (Nat.le_of_ble_eq_true rfl) ?_
  intro p e s m args below meth c A X hP hD hA hAl ls hl
  obtain ⟨hx, hb, hml, hr, hlk, hown, hB, hE⟩ := X
  have hown : s.vm.findClass RX4 = some m.cls := hown
  have F : q_Fx p s m c E RX4 cX4_spread 2 := ⟨hx, hb, hml, hown, hB, hE⟩
  have hS : va_S A s.heap s.heap [] := va_S.rf
  have hl : lv_has ls 2 [(0, .ref h0), (1, .int v1)] := hl
  have K18 : ∀ (v1 : Int32) (s0 : q_S), ∀ (H : Heap) (locs : List Loc), va_P (q_D E) vwCl (q_cM E h0 a0 s0 g0) H → va_D A (q_cM E h0 a0 s0 g0) → va_S A s.heap H locs → ∀ ls : Array Slot, lv_has ls 2 [(0, .ref h0), (1, .int v1)] → zX4_spread_18 s0 v1 = some (r, rs0) → W p l e (q_rm 5) s m args below meth c H locs 0 0 (MQ below (q_muQ E A (q_cM E h0 a0 rs0 g0) (some (.int r))) args s 0 0 A) (F0 m 18 ls []) := by
    intro v1 s0 H locs hP hD hS ls hl h
    unfold zX4_spread_18 at h
    refine lv_aload_n hx hb dX4_spread_18 rfl (lv_at hl 0 rfl) ?_
    refine q_get F q_K4 hP 0 rfl 1 (by decide) q_fX4_108 rfl dX4_spread_19 ?_
    refine lv_if_eq (tgt := 34) hx hb dX4_spread_22 (by decide) (fun c1 => ?_) (fun c1 => ?_)
    · replace h := q_i1 c1 h
      refine lv_bipush (v := (-103)) hx hb dX4_spread_34 (by decide) ?_
      cases h
      exact q_wI F hr hlk dX4_spread_36 hP hD hS
    · replace h := q_i2 c1 h
      refine lv_aload_n hx hb dX4_spread_25 rfl (lv_at hl 0 rfl) ?_
      refine q_get F q_K4 hP 0 rfl 16 (by decide) q_fX4_197 rfl dX4_spread_26 ?_
      refine lv_bipush (v := 12) hx hb dX4_spread_29 (by decide) ?_
      refine lv_icmp_ne (tgt := 37) hx hb dX4_spread_31 (by decide) (fun c2 => ?_) (fun c2 => ?_)
      · replace h := q_i2 c2 h
        refine lv_aload_n hx hb dX4_spread_37 rfl (lv_at hl 0 rfl) ?_
        refine lv_dup hx hb dX4_spread_38 rfl ?_
        refine q_get F q_K4 hP 0 rfl 16 (by decide) q_fX4_197 rfl dX4_spread_39 ?_
        refine lv_iconst (v := 1) hx hb dX4_spread_42 (by decide) ?_
        refine lv_iadd hx hb dX4_spread_43 ?_
        obtain ⟨y3, ey3, h⟩ := q_ol h
        refine q_put F q_K4 hP hD hS 0 rfl 16 (by decide) q_fX4_197 rfl rfl rfl (Nat.le_of_ble_eq_true rfl) (by rw [ey3]; rfl) dX4_spread_44 (fun H locs (hP : va_P (q_D E) vwCl (q_cM E h0 a0 y3 g0) H) hD hS => ?_)
        refine lv_aload_n hx hb dX4_spread_47 rfl (lv_at hl 0 rfl) ?_
        refine lv_iload_n hx hb dX4_spread_48 rfl (lv_at hl 1 rfl) ?_
        obtain ⟨x4, y5, c6, h⟩ := q_o2 h
        refine q_muV F (kX4_spreadNow l E h0 a0 y3 g0 v1 H.size x4 y5 c6) q_cX4_spreadNow q_lX4_200 (q_s_M_M_0w E h0 a0 y3 g0 y5 g0) hP hD hS hA hAl ⟨by decide, by decide⟩ (q0 := 0) rfl rfl rfl rfl ⟨_, hl⟩ (rest := []) rfl (Nat.le_of_ble_eq_true rfl) dX4_spread_49 (fun H locs (hP : va_P (q_D E) vwCl (q_cM E h0 a0 y5 g0) H) hD hS => ?_)
        cases h
        exact q_wI F hr hlk dX4_spread_52 hP hD hS
      · replace h := q_i1 c2 h
        refine lv_bipush (v := (-103)) hx hb dX4_spread_34 (by decide) ?_
        cases h
        exact q_wI F hr hlk dX4_spread_36 hP hD hS
  unfold zX4_spread at h
  refine lv_iload_n hx hb dX4_spread_0 rfl (lv_at hl 1 rfl) ?_
  refine lv_if_eq (tgt := 18) hx hb dX4_spread_1 (by decide) (fun c7 => ?_) (fun c7 => ?_)
  · replace h := q_i1 c7 h
    exact K18 v1 s0 _ _ hP hD hS ls (lv_sub hl [0, 1] rfl) h
  · replace h := q_i2 c7 h
    refine lv_iload_n hx hb dX4_spread_4 rfl (lv_at hl 1 rfl) ?_
    refine lv_bipush (v := 10) hx hb dX4_spread_5 (by decide) ?_
    refine lv_bipush (v := 17) hx hb dX4_spread_7 (by decide) ?_
    obtain ⟨x8, c9, h⟩ := q_o1 h
    refine q_roS F (kX4_within l E  v1 (10 : Int32) (17 : Int32) x8 c9) q_cX4_within q_lX4_75 (q_EV.go F.2.2.2.2.2 hAl hS) (fun k q h => by simp at h) ⟨by decide, by decide⟩ rfl ⟨_, hl⟩ (rest := []) rfl (Nat.le_of_ble_eq_true rfl) dX4_spread_9 ?_
    refine lv_if_ne (tgt := 18) hx hb dX4_spread_12 (by decide) (fun c10 => ?_) (fun c10 => ?_)
    · replace h := q_i2 c10 h
      exact K18 v1 s0 _ _ hP hD hS ls (lv_sub hl [0, 1] rfl) h
    · replace h := q_i1 c10 h
      refine lv_bipush (v := (-102)) hx hb dX4_spread_15 (by decide) ?_
      cases h
      exact q_wI F hr hlk dX4_spread_17 hP hD hS
def zX4_say_103 (s0 : q_S) (t1 : Int32) (t2 : Int32) : Option (Int32 × q_S) := q_gd (q_ib t1 6) (q_lt (q_u s0 15 t1.toNatClampNeg t2) fun y2 => q_lt (q_u y2 12 0 ((y2 12 0) + (1 : Int32))) fun y3 => some ((y3 12 0), y3))
def zX4_say_19 (s0 : q_S) (v1 : Int32) (v2 : Int32) (v3 : Int32) (t0 : Int32) : Option (Int32 × q_S) := q_b1 (zX4_within v1 (0 : Int32) t0) fun x4 => if x4 = 0 then (some ((-102 : Int32), s0)) else (q_b1 (zX4_within v2 (0 : Int32) (99 : Int32)) fun x7 => if x7 = 0 then (some ((-102 : Int32), s0)) else (if (s0 1 0) = 0 then (some ((-103 : Int32), s0)) else (if (s0 12 0) = (6 : Int32) then (some ((-104 : Int32), s0)) else (q_gd (q_ib (s0 12 0) 6) (q_lt (q_u s0 13 (s0 12 0).toNatClampNeg v1) fun y13 => q_gd (q_ib (y13 12 0) 6) (q_lt (q_u y13 14 (y13 12 0).toNatClampNeg v2) fun y15 => if v3 = 0 then (zX4_say_103 y15 (y15 12 0) (0 : Int32)) else (zX4_say_103 y15 (y15 12 0) (1 : Int32))))))))
def zX4_say (s0 : q_S) (v1 : Int32) (v2 : Int32) (v3 : Int32) : Option (Int32 × q_S) := if (s0 1 0) = 0 then (zX4_say_19 s0 v1 v2 v3 (0 : Int32)) else (zX4_say_19 s0 v1 v2 v3 (((1 : Int32) <<< ((s0 7 0) &&& 31)) - (1 : Int32)))
set_option maxHeartbeats 4000000 in
set_option maxRecDepth 100000 in
theorem kX4_say (l : Launch) (E : q_E) (h0 : Nat) (a0 : Nat → Nat) (s0 : q_S) (g0 : q_G) (v1 : Int32) (v2 : Int32) (v3 : Int32) (sz : Nat) (r : Int32) (rs0 : q_S) (h : zX4_say s0 v1 v2 v3 = some (r, rs0)) : q_MU l E yX4_say cX4_say 5 (some .int) 2 [.ref h0, .int v1, .int v2, .int v3] sz (q_cM E h0 a0 s0 g0) (q_cM E h0 a0 rs0 g0) (some (.int r)) := by
  refine q_MU.intro (by decide) (Nat.le_of_ble_eq_true rfl) ?_
  intro p e s m args below meth c A X hP hD hA hAl ls hl
  obtain ⟨hx, hb, hml, hr, hlk, hown, hB, hE⟩ := X
  have hown : s.vm.findClass RX4 = some m.cls := hown
  have F : q_Fx p s m c E RX4 cX4_say 5 := ⟨hx, hb, hml, hown, hB, hE⟩
  have hS : va_S A s.heap s.heap [] := va_S.rf
  have hl : lv_has ls 5 [(0, .ref h0), (1, .int v1), (2, .int v2), (3, .int v3)] := hl
  have K103 : ∀ (t1 : Int32) (t2 : Int32) (s0 : q_S), ∀ (H : Heap) (locs : List Loc), va_P (q_D E) vwCl (q_cM E h0 a0 s0 g0) H → va_D A (q_cM E h0 a0 s0 g0) → va_S A s.heap H locs → ∀ ls : Array Slot, lv_has ls 5 [(0, .ref h0)] → zX4_say_103 s0 t1 t2 = some (r, rs0) → W p l e (q_rm 2) s m args below meth c H locs 0 0 (MQ below (q_muQ E A (q_cM E h0 a0 rs0 g0) (some (.int r))) args s 0 0 A) (F0 m 103 ls [.int t2, .int t1, .ref (a0 15)]) := by
    intro t1 t2 s0 H locs hP hD hS ls hl h
    unfold zX4_say_103 at h
    obtain ⟨eg1, h⟩ := q_og h
    obtain ⟨y2, ey2, h⟩ := q_ol h
    refine q_iast F hP hD hS 10 rfl eg1 (by rw [ey2]; rfl) dX4_say_103 (fun H locs (hP : va_P (q_D E) vwCl (q_cM E h0 a0 y2 g0) H) hD hS => ?_)
    refine lv_aload_n hx hb dX4_say_104 rfl (lv_at hl 0 rfl) ?_
    refine lv_dup hx hb dX4_say_105 rfl ?_
    refine q_get F q_K4 hP 0 rfl 12 (by decide) q_fX4_123 rfl dX4_say_106 ?_
    refine lv_iconst (v := 1) hx hb dX4_say_109 (by decide) ?_
    refine lv_iadd hx hb dX4_say_110 ?_
    obtain ⟨y3, ey3, h⟩ := q_ol h
    refine q_put F q_K4 hP hD hS 0 rfl 12 (by decide) q_fX4_123 rfl rfl rfl (Nat.le_of_ble_eq_true rfl) (by rw [ey3]; rfl) dX4_say_111 (fun H locs (hP : va_P (q_D E) vwCl (q_cM E h0 a0 y3 g0) H) hD hS => ?_)
    refine lv_aload_n hx hb dX4_say_114 rfl (lv_at hl 0 rfl) ?_
    refine q_get F q_K4 hP 0 rfl 12 (by decide) q_fX4_123 rfl dX4_say_115 ?_
    cases h
    exact q_wI F hr hlk dX4_say_118 hP hD hS
  have K19 : ∀ (v1 : Int32) (v2 : Int32) (v3 : Int32) (t0 : Int32) (s0 : q_S), ∀ (H : Heap) (locs : List Loc), va_P (q_D E) vwCl (q_cM E h0 a0 s0 g0) H → va_D A (q_cM E h0 a0 s0 g0) → va_S A s.heap H locs → ∀ ls : Array Slot, lv_has ls 5 [(0, .ref h0), (1, .int v1), (2, .int v2), (3, .int v3)] → zX4_say_19 s0 v1 v2 v3 t0 = some (r, rs0) → W p l e (q_rm 2) s m args below meth c H locs 0 0 (MQ below (q_muQ E A (q_cM E h0 a0 rs0 g0) (some (.int r))) args s 0 0 A) (F0 m 19 ls [.int t0]) := by
    intro v1 v2 v3 t0 s0 H locs hP hD hS ls hl h
    unfold zX4_say_19 at h
    refine lv_istore (lv' := [(4, .int t0), (0, .ref h0), (1, .int v1), (2, .int v2), (3, .int v3)]) hx hb dX4_say_19 hl (by decide) rfl (fun ls hl => ?_)
    refine lv_iload_n hx hb dX4_say_21 rfl (lv_at hl 2 rfl) ?_
    refine lv_iconst (v := 0) hx hb dX4_say_22 (by decide) ?_
    refine lv_iload hx hb dX4_say_23 (lv_at hl 0 rfl) ?_
    obtain ⟨x4, c5, h⟩ := q_o1 h
    refine q_roS F (kX4_within l E  v1 (0 : Int32) t0 x4 c5) q_cX4_within q_lX4_75 (q_EV.go F.2.2.2.2.2 hAl hS) (fun k q h => by simp at h) ⟨by decide, by decide⟩ rfl ⟨_, hl⟩ (rest := []) rfl (Nat.le_of_ble_eq_true rfl) dX4_say_25 ?_
    refine lv_if_eq (tgt := 41) hx hb dX4_say_28 (by decide) (fun c6 => ?_) (fun c6 => ?_)
    · replace h := q_i1 c6 h
      refine lv_bipush (v := (-102)) hx hb dX4_say_41 (by decide) ?_
      cases h
      exact q_wI F hr hlk dX4_say_43 hP hD hS
    · replace h := q_i2 c6 h
      refine lv_iload_n hx hb dX4_say_31 rfl (lv_at hl 3 rfl) ?_
      refine lv_iconst (v := 0) hx hb dX4_say_32 (by decide) ?_
      refine lv_bipush (v := 99) hx hb dX4_say_33 (by decide) ?_
      obtain ⟨x7, c8, h⟩ := q_o1 h
      refine q_roS F (kX4_within l E  v2 (0 : Int32) (99 : Int32) x7 c8) q_cX4_within q_lX4_75 (q_EV.go F.2.2.2.2.2 hAl hS) (fun k q h => by simp at h) ⟨by decide, by decide⟩ rfl ⟨_, hl⟩ (rest := []) rfl (Nat.le_of_ble_eq_true rfl) dX4_say_35 ?_
      refine lv_if_ne (tgt := 44) hx hb dX4_say_38 (by decide) (fun c9 => ?_) (fun c9 => ?_)
      · replace h := q_i2 c9 h
        refine lv_aload_n hx hb dX4_say_44 rfl (lv_at hl 1 rfl) ?_
        refine q_get F q_K4 hP 0 rfl 1 (by decide) q_fX4_108 rfl dX4_say_45 ?_
        refine lv_if_ne (tgt := 54) hx hb dX4_say_48 (by decide) (fun c10 => ?_) (fun c10 => ?_)
        · replace h := q_i2 c10 h
          refine lv_aload_n hx hb dX4_say_54 rfl (lv_at hl 1 rfl) ?_
          refine q_get F q_K4 hP 0 rfl 12 (by decide) q_fX4_123 rfl dX4_say_55 ?_
          refine lv_bipush (v := 6) hx hb dX4_say_58 (by decide) ?_
          refine lv_icmp_ne (tgt := 66) hx hb dX4_say_60 (by decide) (fun c11 => ?_) (fun c11 => ?_)
          · replace h := q_i2 c11 h
            refine lv_aload_n hx hb dX4_say_66 rfl (lv_at hl 1 rfl) ?_
            refine q_get F q_K4 hP 0 rfl 13 (by decide) q_fX4_32 rfl dX4_say_67 ?_
            refine lv_aload_n hx hb dX4_say_70 rfl (lv_at hl 1 rfl) ?_
            refine q_get F q_K4 hP 0 rfl 12 (by decide) q_fX4_123 rfl dX4_say_71 ?_
            refine lv_iload_n hx hb dX4_say_74 rfl (lv_at hl 2 rfl) ?_
            obtain ⟨eg12, h⟩ := q_og h
            obtain ⟨y13, ey13, h⟩ := q_ol h
            refine q_iast F hP hD hS 8 rfl eg12 (by rw [ey13]; rfl) dX4_say_75 (fun H locs (hP : va_P (q_D E) vwCl (q_cM E h0 a0 y13 g0) H) hD hS => ?_)
            refine lv_aload_n hx hb dX4_say_76 rfl (lv_at hl 1 rfl) ?_
            refine q_get F q_K4 hP 0 rfl 14 (by decide) q_fX4_35 rfl dX4_say_77 ?_
            refine lv_aload_n hx hb dX4_say_80 rfl (lv_at hl 1 rfl) ?_
            refine q_get F q_K4 hP 0 rfl 12 (by decide) q_fX4_123 rfl dX4_say_81 ?_
            refine lv_iload_n hx hb dX4_say_84 rfl (lv_at hl 3 rfl) ?_
            obtain ⟨eg14, h⟩ := q_og h
            obtain ⟨y15, ey15, h⟩ := q_ol h
            refine q_iast F hP hD hS 9 rfl eg14 (by rw [ey15]; rfl) dX4_say_85 (fun H locs (hP : va_P (q_D E) vwCl (q_cM E h0 a0 y15 g0) H) hD hS => ?_)
            refine lv_aload_n hx hb dX4_say_86 rfl (lv_at hl 1 rfl) ?_
            refine q_get F q_K4 hP 0 rfl 15 (by decide) q_fX4_38 rfl dX4_say_87 ?_
            refine lv_aload_n hx hb dX4_say_90 rfl (lv_at hl 1 rfl) ?_
            refine q_get F q_K4 hP 0 rfl 12 (by decide) q_fX4_123 rfl dX4_say_91 ?_
            refine lv_iload_n hx hb dX4_say_94 rfl (lv_at hl 4 rfl) ?_
            refine lv_if_eq (tgt := 102) hx hb dX4_say_95 (by decide) (fun c16 => ?_) (fun c16 => ?_)
            · replace h := q_i1 c16 h
              refine lv_iconst (v := 0) hx hb dX4_say_102 (by decide) ?_
              exact K103 (y15 12 0) (0 : Int32) y15 H _ hP hD hS ls (lv_sub hl [1] rfl) h
            · replace h := q_i2 c16 h
              refine lv_iconst (v := 1) hx hb dX4_say_98 (by decide) ?_
              refine lv_goto (tgt := 103) hx hb dX4_say_99 (by decide) ?_
              exact K103 (y15 12 0) (1 : Int32) y15 H _ hP hD hS ls (lv_sub hl [1] rfl) h
          · replace h := q_i1 c11 h
            refine lv_bipush (v := (-104)) hx hb dX4_say_63 (by decide) ?_
            cases h
            exact q_wI F hr hlk dX4_say_65 hP hD hS
        · replace h := q_i1 c10 h
          refine lv_bipush (v := (-103)) hx hb dX4_say_51 (by decide) ?_
          cases h
          exact q_wI F hr hlk dX4_say_53 hP hD hS
      · replace h := q_i1 c9 h
        refine lv_bipush (v := (-102)) hx hb dX4_say_41 (by decide) ?_
        cases h
        exact q_wI F hr hlk dX4_say_43 hP hD hS
  unfold zX4_say at h
  refine lv_aload_n hx hb dX4_say_0 rfl (lv_at hl 0 rfl) ?_
  refine q_get F q_K4 hP 0 rfl 1 (by decide) q_fX4_108 rfl dX4_say_1 ?_
  refine lv_if_ne (tgt := 11) hx hb dX4_say_4 (by decide) (fun c17 => ?_) (fun c17 => ?_)
  · replace h := q_i2 c17 h
    refine lv_iconst (v := 1) hx hb dX4_say_11 (by decide) ?_
    refine lv_aload_n hx hb dX4_say_12 rfl (lv_at hl 0 rfl) ?_
    refine q_get F q_K4 hP 0 rfl 7 (by decide) q_fX4_111 rfl dX4_say_13 ?_
    refine lv_ishl hx hb dX4_say_16 ?_
    refine lv_iconst (v := 1) hx hb dX4_say_17 (by decide) ?_
    refine lv_isub hx hb dX4_say_18 ?_
    exact K19 v1 v2 v3 (((1 : Int32) <<< ((s0 7 0) &&& 31)) - (1 : Int32)) s0 _ _ hP hD hS ls (lv_sub hl [0, 1, 2, 3] rfl) h
  · replace h := q_i1 c17 h
    refine lv_iconst (v := 0) hx hb dX4_say_7 (by decide) ?_
    refine lv_goto (tgt := 19) hx hb dX4_say_8 (by decide) ?_
    exact K19 v1 v2 v3 (0 : Int32) s0 _ _ hP hD hS ls (lv_sub hl [0, 1, 2, 3] rfl) h
def zX4_forget (s0 : q_S) : Option (Int32 × q_S) := q_lt (s0 12 0) fun x1 => q_lt (q_u s0 12 0 (0 : Int32)) fun y2 => some (x1, y2)
set_option maxHeartbeats 4000000 in
set_option maxRecDepth 100000 in
theorem kX4_forget (l : Launch) (E : q_E) (h0 : Nat) (a0 : Nat → Nat) (s0 : q_S) (g0 : q_G)  (sz : Nat) (r : Int32) (rs0 : q_S) (h : zX4_forget s0 = some (r, rs0)) : q_MU l E yX4_forget cX4_forget 2 (some .int) 1 [.ref h0] sz (q_cM E h0 a0 s0 g0) (q_cM E h0 a0 rs0 g0) (some (.int r)) := by
  refine q_MU.intro (by decide) (Nat.le_of_ble_eq_true rfl) ?_
  intro p e s m args below meth c A X hP hD hA hAl ls hl
  obtain ⟨hx, hb, hml, hr, hlk, hown, hB, hE⟩ := X
  have hown : s.vm.findClass RX4 = some m.cls := hown
  have F : q_Fx p s m c E RX4 cX4_forget 2 := ⟨hx, hb, hml, hown, hB, hE⟩
  have hS : va_S A s.heap s.heap [] := va_S.rf
  have hl : lv_has ls 2 [(0, .ref h0)] := hl
  unfold zX4_forget at h
  refine lv_aload_n hx hb dX4_forget_0 rfl (lv_at hl 0 rfl) ?_
  refine q_get F q_K4 hP 0 rfl 12 (by decide) q_fX4_123 rfl dX4_forget_1 ?_
  obtain ⟨x1, ex1, h⟩ := q_ol h
  refine q_top ex1 ?_
  refine lv_istore_n (lv' := [(1, .int x1), (0, .ref h0)]) hx hb dX4_forget_4 rfl hl (by decide) rfl (fun ls hl => ?_)
  refine lv_aload_n hx hb dX4_forget_5 rfl (lv_at hl 1 rfl) ?_
  refine lv_iconst (v := 0) hx hb dX4_forget_6 (by decide) ?_
  obtain ⟨y2, ey2, h⟩ := q_ol h
  refine q_put F q_K4 hP hD hS 0 rfl 12 (by decide) q_fX4_123 rfl rfl rfl (Nat.le_of_ble_eq_true rfl) (by rw [ey2]; rfl) dX4_forget_7 (fun H locs (hP : va_P (q_D E) vwCl (q_cM E h0 a0 y2 g0) H) hD hS => ?_)
  refine lv_iload_n hx hb dX4_forget_10 rfl (lv_at hl 0 rfl) ?_
  cases h
  exact q_wI F hr hlk dX4_forget_11 hP hD hS
def zX4_draw (g0 : q_G) (v1 : Int32) : Option (Int32 × q_G) := q_lt (q_ul g0 26 ((((1103515245 : Int64) * (g0 26)) + (12345 : Int64)) &&& (2147483647 : Int64))) fun y1 => q_gd (q_nzl v1.toInt64) (some ((((y1 26) / (65536 : Int64)) - ((y1 26) / (65536 : Int64)) / v1.toInt64 * v1.toInt64).toInt32, y1))
set_option maxHeartbeats 4000000 in
set_option maxRecDepth 100000 in
theorem kX4_draw (l : Launch) (E : q_E) (h0 : Nat) (a0 : Nat → Nat) (s0 : q_S) (g0 : q_G) (v1 : Int32) (sz : Nat) (r : Int32) (rg0 : q_G) (h : zX4_draw g0 v1 = some (r, rg0)) : q_MU l E yX4_draw cX4_draw 2 (some .int) 1 [.ref h0, .int v1] sz (q_cM E h0 a0 s0 g0) (q_cM E h0 a0 s0 rg0) (some (.int r)) := by
  refine q_MU.intro (by decide) (Nat.le_of_ble_eq_true rfl) ?_
  intro p e s m args below meth c A X hP hD hA hAl ls hl
  obtain ⟨hx, hb, hml, hr, hlk, hown, hB, hE⟩ := X
  have hown : s.vm.findClass RX4 = some m.cls := hown
  have F : q_Fx p s m c E RX4 cX4_draw 2 := ⟨hx, hb, hml, hown, hB, hE⟩
  have hS : va_S A s.heap s.heap [] := va_S.rf
  have hl : lv_has ls 2 [(0, .ref h0), (1, .int v1)] := hl
  unfold zX4_draw at h
  refine lv_aload_n hx hb dX4_draw_0 rfl (lv_at hl 0 rfl) ?_
  refine lv_ldc2 (v := 1103515245) hx hb hown (hB _ q_kX4_210 _) dX4_draw_1 ?_
  refine lv_aload_n hx hb dX4_draw_4 rfl (lv_at hl 0 rfl) ?_
  refine q_get F q_K4 hP 0 rfl 26 (by decide) q_fX4_212 rfl dX4_draw_5 ?_
  refine lv_lmul hx hb dX4_draw_8 ?_
  refine lv_ldc2 (v := 12345) hx hb hown (hB _ q_kX4_216 _) dX4_draw_9 ?_
  refine lv_ladd hx hb dX4_draw_12 ?_
  refine lv_ldc2 (v := 2147483647) hx hb hown (hB _ q_kX4_218 _) dX4_draw_13 ?_
  refine lv_land hx hb dX4_draw_16 ?_
  obtain ⟨y1, ey1, h⟩ := q_ol h
  refine q_put F q_K4 hP hD hS 0 rfl 26 (by decide) q_fX4_212 rfl rfl rfl (Nat.le_of_ble_eq_true rfl) (by rw [ey1]; rfl) dX4_draw_17 (fun H locs (hP : va_P (q_D E) vwCl (q_cM E h0 a0 s0 y1) H) hD hS => ?_)
  refine lv_aload_n hx hb dX4_draw_20 rfl (lv_at hl 0 rfl) ?_
  refine q_get F q_K4 hP 0 rfl 26 (by decide) q_fX4_212 rfl dX4_draw_21 ?_
  refine lv_ldc2 (v := 65536) hx hb hown (hB _ q_kX4_220 _) dX4_draw_24 ?_
  refine lv_ldiv hx hb dX4_draw_27 (by decide) ?_
  refine lv_iload_n hx hb dX4_draw_28 rfl (lv_at hl 1 rfl) ?_
  refine lv_i2l hx hb dX4_draw_29 rfl ?_
  obtain ⟨eg2, h⟩ := q_og h
  refine lv_lrem hx hb dX4_draw_30 (q_nzl_in eg2) ?_
  refine lv_l2i hx hb dX4_draw_31 rfl ?_
  cases h
  exact q_wI F hr hlk dX4_draw_32 hP hD hS
def zX4_wintersNow_58 (k13 : q_S → q_G → Int32 → Option (Int32 × q_G × q_S)) (s0 : q_S) (g0 : q_G) (v4 : Int32) : Option (Int32 × q_G × q_S) := if (v4 - v4 / (3 : Int32) * (3 : Int32)) = 0 then (q_b1 (zX4_passWinter s0) fun y3 => q_lt (v4 + 1) fun x5 => k13 y3 g0 x5) else (q_lt (v4 + 1) fun x2 => k13 s0 g0 x2)
def jX4_wintersNow_13 (v1 : Int32) (v3 : Int32) (k13 : q_S → q_G → Int32 → Option (Int32 × q_G × q_S)) (s0 : q_S) (g0 : q_G) (v4 : Int32) : Option (Int32 × q_G × q_S) := if v1 < v4 then (q_b1 (zX4_leftMany s0) fun x7 => q_lt ((s0 7 0) - x7) fun x9 => q_b1 (zX4_carriesAll s0) fun x10 => q_b1 (zX4_load s0) fun y12 => if v3 = 0 then (some (x9, g0, y12)) else (if v3 = (1 : Int32) then (some (x10, g0, y12)) else (some ((g0 26).toInt32, g0, y12)))) else (q_b2 (zX4_draw g0 (s0 1 0)) fun x16 y17 => q_b2 (zX4_draw y17 (s0 7 0)) fun x19 y20 => q_b1 (zX4_would s0 x16 x19) fun x22 => if x22 = 0 then (zX4_wintersNow_58 k13 s0 y20 v4) else (q_b1 (zX4_eats s0 x16 x19) fun y25 => zX4_wintersNow_58 k13 y25 y20 v4))
def zX4_wintersNow_13 (v1 : Int32) (v3 : Int32) : Nat → q_S → q_G → Int32 → Option (Int32 × q_G × q_S)
  | 0, _, _, _ => none
  | n + 1, s0, g0, v4 => jX4_wintersNow_13 v1 v3 (zX4_wintersNow_13 v1 v3 n) s0 g0 v4
theorem zX4_wintersNow_13_s (v1 : Int32) (v3 : Int32) (n : Nat) (s0 : q_S) (g0 : q_G) (v4 : Int32) : zX4_wintersNow_13 v1 v3 (n + 1) s0 g0 v4 = jX4_wintersNow_13 v1 v3 (zX4_wintersNow_13 v1 v3 n) s0 g0 v4 := rfl
def zX4_wintersNow (s0 : q_S) (g0 : q_G) (v1 : Int32) (v2 : Int32) (v3 : Int32) : Option (Int32 × q_G × q_S) := q_b1 (zX4_save s0) fun y27 => q_lt (q_ul g0 26 v2.toInt64) fun y29 => zX4_wintersNow_13 v1 v3 70000 y27 y29 (1 : Int32)
set_option maxHeartbeats 4000000 in
set_option maxRecDepth 100000 in
theorem kX4_wintersNow (l : Launch) (E : q_E) (h0 : Nat) (a0 : Nat → Nat) (s0 : q_S) (g0 : q_G) (v1 : Int32) (v2 : Int32) (v3 : Int32) (sz : Nat) (r : Int32) (rg0 : q_G) (rs0 : q_S) (h : zX4_wintersNow s0 g0 v1 v2 v3 = some (r, rg0, rs0)) : q_MU l E yX4_wintersNow cX4_wintersNow 7 (some .int) 3 [.ref h0, .int v1, .int v2, .int v3] sz (q_cM E h0 a0 s0 g0) (q_cM E h0 a0 rs0 rg0) (some (.int r)) := by
  refine q_MU.intro (by decide) (Nat.le_of_ble_eq_true rfl) ?_
  intro p e s m args below meth c A X hP hD hA hAl ls hl
  obtain ⟨hx, hb, hml, hr, hlk, hown, hB, hE⟩ := X
  have hown : s.vm.findClass RX4 = some m.cls := hown
  have F : q_Fx p s m c E RX4 cX4_wintersNow 7 := ⟨hx, hb, hml, hown, hB, hE⟩
  have hS : va_S A s.heap s.heap [] := va_S.rf
  have hl : lv_has ls 7 [(0, .ref h0), (1, .int v1), (2, .int v2), (3, .int v3)] := hl
  have K13 : ∀ (n13_ : Nat), ∀ (v1 : Int32) (v3 : Int32) (v4 : Int32) (g0 : q_G) (s0 : q_S), ∀ (H : Heap) (locs : List Loc), va_P (q_D E) vwCl (q_cM E h0 a0 s0 g0) H → va_D A (q_cM E h0 a0 s0 g0) → va_S A s.heap H locs → ∀ ls : Array Slot, lv_has ls 7 [(0, .ref h0), (1, .int v1), (3, .int v3), (4, .int v4)] → zX4_wintersNow_13 v1 v3 n13_ s0 g0 v4 = some (r, rg0, rs0) → W p l e (q_rm 3) s m args below meth c H locs 0 0 (MQ below (q_muQ E A (q_cM E h0 a0 rs0 rg0) (some (.int r))) args s 0 0 A) (F0 m 13 ls []) := by
    intro n13_
    induction n13_ with
    | zero => intro v1 v3 v4 g0 s0 H locs hP hD hS ls hl h; exact q_nn h
    | succ n13_ ih13 =>
      have K58 : ∀ (v1 : Int32) (v3 : Int32) (v4 : Int32) (g0 : q_G) (s0 : q_S), ∀ (H : Heap) (locs : List Loc), va_P (q_D E) vwCl (q_cM E h0 a0 s0 g0) H → va_D A (q_cM E h0 a0 s0 g0) → va_S A s.heap H locs → ∀ ls : Array Slot, lv_has ls 7 [(0, .ref h0), (1, .int v1), (3, .int v3), (4, .int v4)] → zX4_wintersNow_58 (zX4_wintersNow_13 v1 v3 n13_) s0 g0 v4 = some (r, rg0, rs0) → W p l e (q_rm 3) s m args below meth c H locs 0 0 (MQ below (q_muQ E A (q_cM E h0 a0 rs0 rg0) (some (.int r))) args s 0 0 A) (F0 m 58 ls []) := by
        intro v1 v3 v4 g0 s0 H locs hP hD hS ls hl h
        unfold zX4_wintersNow_58 at h
        refine lv_iload hx hb dX4_wintersNow_58 (lv_at hl 3 rfl) ?_
        refine lv_iconst (v := 3) hx hb dX4_wintersNow_60 (by decide) ?_
        refine lv_irem hx hb dX4_wintersNow_61 (by decide) ?_
        refine lv_if_ne (tgt := 69) hx hb dX4_wintersNow_62 (by decide) (fun c1 => ?_) (fun c1 => ?_)
        · replace h := q_i2 c1 h
          obtain ⟨x2, ex2, h⟩ := q_ol h
          refine lv_iinc (v := x2) (lv' := [(4, .int x2), (0, .ref h0), (1, .int v1), (3, .int v3)]) hx hb dX4_wintersNow_69 hl (k := 3) rfl (by rw [ex2]; rfl) (by decide) rfl (fun ls hl => ?_)
          refine lv_goto (tgt := 13) hx hb dX4_wintersNow_72 (by decide) ?_
          exact ih13 v1 v3 x2 g0 s0 H _ hP hD hS ls (lv_sub hl [1, 2, 3, 0] rfl) h
        · replace h := q_i1 c1 h
          refine lv_aload_n hx hb dX4_wintersNow_65 rfl (lv_at hl 0 rfl) ?_
          obtain ⟨y3, c4, h⟩ := q_o1 h
          refine q_muV F (kX4_passWinter l E h0 a0 s0 g0 H.size y3 c4) q_cX4_passWinter q_lX4_181 (q_s_M_M_0w E h0 a0 s0 g0 y3 g0) hP hD hS hA hAl ⟨by decide, by decide⟩ (q0 := 0) rfl rfl rfl rfl ⟨_, hl⟩ (rest := []) rfl (Nat.le_of_ble_eq_true rfl) dX4_wintersNow_66 (fun H locs (hP : va_P (q_D E) vwCl (q_cM E h0 a0 y3 g0) H) hD hS => ?_)
          obtain ⟨x5, ex5, h⟩ := q_ol h
          refine lv_iinc (v := x5) (lv' := [(4, .int x5), (0, .ref h0), (1, .int v1), (3, .int v3)]) hx hb dX4_wintersNow_69 hl (k := 3) rfl (by rw [ex5]; rfl) (by decide) rfl (fun ls hl => ?_)
          refine lv_goto (tgt := 13) hx hb dX4_wintersNow_72 (by decide) ?_
          exact ih13 v1 v3 x5 g0 y3 H _ hP hD hS ls (lv_sub hl [1, 2, 3, 0] rfl) h
      intro v1 v3 v4 g0 s0 H locs hP hD hS ls hl h
      rw [zX4_wintersNow_13_s] at h
      unfold jX4_wintersNow_13 at h
      refine lv_iload hx hb dX4_wintersNow_13 (lv_at hl 3 rfl) ?_
      refine lv_iload_n hx hb dX4_wintersNow_15 rfl (lv_at hl 1 rfl) ?_
      refine lv_icmp_gt (tgt := 75) hx hb dX4_wintersNow_16 (by decide) (fun c6 => ?_) (fun c6 => ?_)
      · replace h := q_i1 c6 h
        refine lv_aload_n hx hb dX4_wintersNow_75 rfl (lv_at hl 0 rfl) ?_
        refine q_get F q_K4 hP 0 rfl 7 (by decide) q_fX4_111 rfl dX4_wintersNow_76 ?_
        refine lv_aload_n hx hb dX4_wintersNow_79 rfl (lv_at hl 0 rfl) ?_
        obtain ⟨x7, c8, h⟩ := q_o1 h
        refine q_roV F (kX4_leftMany l E h0 a0 s0 g0 x7 c8) q_cX4_leftMany q_lX4_191 (q_EV.go F.2.2.2.2.2 hAl hS) hP ⟨by decide, by decide⟩ (q0 := 0) rfl rfl rfl rfl ⟨_, hl⟩ (rest := [.int (s0 7 0)]) rfl (Nat.le_of_ble_eq_true rfl) dX4_wintersNow_80 ?_
        refine lv_isub hx hb dX4_wintersNow_83 ?_
        obtain ⟨x9, ex9, h⟩ := q_ol h
        refine q_top ex9 ?_
        refine lv_istore (lv' := [(4, .int x9), (0, .ref h0), (1, .int v1), (3, .int v3)]) hx hb dX4_wintersNow_84 hl (by decide) rfl (fun ls hl => ?_)
        refine lv_aload_n hx hb dX4_wintersNow_86 rfl (lv_at hl 1 rfl) ?_
        obtain ⟨x10, c11, h⟩ := q_o1 h
        refine q_roV F (kX4_carriesAll l E h0 a0 s0 g0 x10 c11) q_cX4_carriesAll q_lX4_184 (q_EV.go F.2.2.2.2.2 hAl hS) hP ⟨by decide, by decide⟩ (q0 := 0) rfl rfl rfl rfl ⟨_, hl⟩ (rest := []) rfl (Nat.le_of_ble_eq_true rfl) dX4_wintersNow_87 ?_
        refine lv_istore (lv' := [(5, .int x10), (4, .int x9), (0, .ref h0), (1, .int v1), (3, .int v3)]) hx hb dX4_wintersNow_90 hl (by decide) rfl (fun ls hl => ?_)
        refine lv_aload_n hx hb dX4_wintersNow_92 rfl (lv_at hl 2 rfl) ?_
        obtain ⟨y12, c13, h⟩ := q_o1 h
        refine q_muV F (kX4_load l E h0 a0 s0 g0 H.size y12 c13) q_cX4_load q_lX4_146 (q_s_M_M_0w E h0 a0 s0 g0 y12 g0) hP hD hS hA hAl ⟨by decide, by decide⟩ (q0 := 0) rfl rfl rfl rfl ⟨_, hl⟩ (rest := []) rfl (Nat.le_of_ble_eq_true rfl) dX4_wintersNow_93 (fun H locs (hP : va_P (q_D E) vwCl (q_cM E h0 a0 y12 g0) H) hD hS => ?_)
        refine lv_iload_n hx hb dX4_wintersNow_96 rfl (lv_at hl 4 rfl) ?_
        refine lv_if_ne (tgt := 105) hx hb dX4_wintersNow_97 (by decide) (fun c14 => ?_) (fun c14 => ?_)
        · replace h := q_i2 c14 h
          refine lv_iload_n hx hb dX4_wintersNow_105 rfl (lv_at hl 4 rfl) ?_
          refine lv_iconst (v := 1) hx hb dX4_wintersNow_106 (by decide) ?_
          refine lv_icmp_ne (tgt := 115) hx hb dX4_wintersNow_107 (by decide) (fun c15 => ?_) (fun c15 => ?_)
          · replace h := q_i2 c15 h
            refine lv_aload_n hx hb dX4_wintersNow_115 rfl (lv_at hl 2 rfl) ?_
            refine q_get F q_K4 hP 0 rfl 26 (by decide) q_fX4_212 rfl dX4_wintersNow_116 ?_
            refine lv_l2i hx hb dX4_wintersNow_119 rfl ?_
            cases h
            exact q_wI F hr hlk dX4_wintersNow_120 hP hD hS
          · replace h := q_i1 c15 h
            refine lv_iload hx hb dX4_wintersNow_110 (lv_at hl 0 rfl) ?_
            refine lv_goto (tgt := 120) hx hb dX4_wintersNow_112 (by decide) ?_
            cases h
            exact q_wI F hr hlk dX4_wintersNow_120 hP hD hS
        · replace h := q_i1 c14 h
          refine lv_iload hx hb dX4_wintersNow_100 (lv_at hl 1 rfl) ?_
          refine lv_goto (tgt := 120) hx hb dX4_wintersNow_102 (by decide) ?_
          cases h
          exact q_wI F hr hlk dX4_wintersNow_120 hP hD hS
      · replace h := q_i2 c6 h
        refine lv_aload_n hx hb dX4_wintersNow_19 rfl (lv_at hl 0 rfl) ?_
        refine lv_aload_n hx hb dX4_wintersNow_20 rfl (lv_at hl 0 rfl) ?_
        refine q_get F q_K4 hP 0 rfl 1 (by decide) q_fX4_108 rfl dX4_wintersNow_21 ?_
        obtain ⟨x16, y17, c18, h⟩ := q_o2 h
        refine q_muV F (kX4_draw l E h0 a0 s0 g0 (s0 1 0) H.size x16 y17 c18) q_cX4_draw q_lX4_222 (q_s_M_M_0w E h0 a0 s0 g0 s0 y17) hP hD hS hA hAl ⟨by decide, by decide⟩ (q0 := 0) rfl rfl rfl rfl ⟨_, hl⟩ (rest := []) rfl (Nat.le_of_ble_eq_true rfl) dX4_wintersNow_24 (fun H locs (hP : va_P (q_D E) vwCl (q_cM E h0 a0 s0 y17) H) hD hS => ?_)
        refine lv_istore (lv' := [(5, .int x16), (0, .ref h0), (1, .int v1), (3, .int v3), (4, .int v4)]) hx hb dX4_wintersNow_27 hl (by decide) rfl (fun ls hl => ?_)
        refine lv_aload_n hx hb dX4_wintersNow_29 rfl (lv_at hl 1 rfl) ?_
        refine lv_aload_n hx hb dX4_wintersNow_30 rfl (lv_at hl 1 rfl) ?_
        refine q_get F q_K4 hP 0 rfl 7 (by decide) q_fX4_111 rfl dX4_wintersNow_31 ?_
        obtain ⟨x19, y20, c21, h⟩ := q_o2 h
        refine q_muV F (kX4_draw l E h0 a0 s0 y17 (s0 7 0) H.size x19 y20 c21) q_cX4_draw q_lX4_222 (q_s_M_M_0w E h0 a0 s0 y17 s0 y20) hP hD hS hA hAl ⟨by decide, by decide⟩ (q0 := 0) rfl rfl rfl rfl ⟨_, hl⟩ (rest := []) rfl (Nat.le_of_ble_eq_true rfl) dX4_wintersNow_34 (fun H locs (hP : va_P (q_D E) vwCl (q_cM E h0 a0 s0 y20) H) hD hS => ?_)
        refine lv_istore (lv' := [(6, .int x19), (5, .int x16), (0, .ref h0), (1, .int v1), (3, .int v3), (4, .int v4)]) hx hb dX4_wintersNow_37 hl (by decide) rfl (fun ls hl => ?_)
        refine lv_aload_n hx hb dX4_wintersNow_39 rfl (lv_at hl 2 rfl) ?_
        refine lv_iload hx hb dX4_wintersNow_40 (lv_at hl 1 rfl) ?_
        refine lv_iload hx hb dX4_wintersNow_42 (lv_at hl 0 rfl) ?_
        obtain ⟨x22, c23, h⟩ := q_o1 h
        refine q_roV F (kX4_would l E h0 a0 s0 y20 x16 x19 x22 c23) q_cX4_would q_lX4_140 (q_EV.go F.2.2.2.2.2 hAl hS) hP ⟨by decide, by decide⟩ (q0 := 0) rfl rfl rfl rfl ⟨_, hl⟩ (rest := []) rfl (Nat.le_of_ble_eq_true rfl) dX4_wintersNow_44 ?_
        refine lv_if_eq (tgt := 58) hx hb dX4_wintersNow_47 (by decide) (fun c24 => ?_) (fun c24 => ?_)
        · replace h := q_i1 c24 h
          exact K58 v1 v3 v4 y20 s0 H _ hP hD hS ls (lv_sub hl [2, 3, 4, 5] rfl) h
        · replace h := q_i2 c24 h
          refine lv_aload_n hx hb dX4_wintersNow_50 rfl (lv_at hl 2 rfl) ?_
          refine lv_iload hx hb dX4_wintersNow_51 (lv_at hl 1 rfl) ?_
          refine lv_iload hx hb dX4_wintersNow_53 (lv_at hl 0 rfl) ?_
          obtain ⟨y25, c26, h⟩ := q_o1 h
          refine q_muV F (kX4_eats l E h0 a0 s0 y20 x16 x19 H.size y25 c26) q_cX4_eats q_lX4_143 (q_s_M_M_0w E h0 a0 s0 y20 y25 y20) hP hD hS hA hAl ⟨by decide, by decide⟩ (q0 := 0) rfl rfl rfl rfl ⟨_, hl⟩ (rest := []) rfl (Nat.le_of_ble_eq_true rfl) dX4_wintersNow_55 (fun H locs (hP : va_P (q_D E) vwCl (q_cM E h0 a0 y25 y20) H) hD hS => ?_)
          exact K58 v1 v3 v4 y20 y25 H _ hP hD hS ls (lv_sub hl [2, 3, 4, 5] rfl) h
  unfold zX4_wintersNow at h
  refine lv_aload_n hx hb dX4_wintersNow_0 rfl (lv_at hl 0 rfl) ?_
  obtain ⟨y27, c28, h⟩ := q_o1 h
  refine q_muV F (kX4_save l E h0 a0 s0 g0 s.heap.size y27 c28) q_cX4_save q_lX4_149 (q_s_M_M_0w E h0 a0 s0 g0 y27 g0) hP hD hS hA hAl ⟨by decide, by decide⟩ (q0 := 0) rfl rfl rfl rfl ⟨_, hl⟩ (rest := []) rfl (Nat.le_of_ble_eq_true rfl) dX4_wintersNow_1 (fun H locs (hP : va_P (q_D E) vwCl (q_cM E h0 a0 y27 g0) H) hD hS => ?_)
  refine lv_aload_n hx hb dX4_wintersNow_4 rfl (lv_at hl 0 rfl) ?_
  refine lv_iload_n hx hb dX4_wintersNow_5 rfl (lv_at hl 2 rfl) ?_
  refine lv_i2l hx hb dX4_wintersNow_6 rfl ?_
  obtain ⟨y29, ey29, h⟩ := q_ol h
  refine q_put F q_K4 hP hD hS 0 rfl 26 (by decide) q_fX4_212 rfl rfl rfl (Nat.le_of_ble_eq_true rfl) (by rw [ey29]; rfl) dX4_wintersNow_7 (fun H locs (hP : va_P (q_D E) vwCl (q_cM E h0 a0 y27 y29) H) hD hS => ?_)
  refine lv_iconst (v := 1) hx hb dX4_wintersNow_10 (by decide) ?_
  refine lv_istore (lv' := [(4, .int (1 : Int32)), (0, .ref h0), (1, .int v1), (2, .int v2), (3, .int v3)]) hx hb dX4_wintersNow_11 hl (by decide) rfl (fun ls hl => ?_)
  exact K13 70000 v1 v3 (1 : Int32) y29 y27 H _ hP hD hS ls (lv_sub hl [1, 2, 4, 0] rfl) h
def zX4_winters (s0 : q_S) (g0 : q_G) (v1 : Int32) (v2 : Int32) (v3 : Int32) : Option (Int32 × q_G × q_S) := q_b1 (zX4_within v1 (1 : Int32) (60 : Int32)) fun x1 => if x1 = 0 then (some ((-102 : Int32), g0, s0)) else (if v2 < 0 then (some ((-102 : Int32), g0, s0)) else (q_b1 (zX4_within v3 (0 : Int32) (2 : Int32)) fun x5 => if x5 = 0 then (some ((-102 : Int32), g0, s0)) else (if (s0 1 0) = 0 then (some ((-103 : Int32), g0, s0)) else (q_b3 (zX4_wintersNow s0 g0 v1 v2 v3) fun x9 y10 y11 => some (x9, y10, y11)))))
set_option maxHeartbeats 4000000 in
set_option maxRecDepth 100000 in
theorem kX4_winters (l : Launch) (E : q_E) (h0 : Nat) (a0 : Nat → Nat) (s0 : q_S) (g0 : q_G) (v1 : Int32) (v2 : Int32) (v3 : Int32) (sz : Nat) (r : Int32) (rg0 : q_G) (rs0 : q_S) (h : zX4_winters s0 g0 v1 v2 v3 = some (r, rg0, rs0)) : q_MU l E yX4_winters cX4_winters 4 (some .int) 4 [.ref h0, .int v1, .int v2, .int v3] sz (q_cM E h0 a0 s0 g0) (q_cM E h0 a0 rs0 rg0) (some (.int r)) := by
  refine q_MU.intro (by decide) (Nat.le_of_ble_eq_true rfl) ?_
  intro p e s m args below meth c A X hP hD hA hAl ls hl
  obtain ⟨hx, hb, hml, hr, hlk, hown, hB, hE⟩ := X
  have hown : s.vm.findClass RX4 = some m.cls := hown
  have F : q_Fx p s m c E RX4 cX4_winters 4 := ⟨hx, hb, hml, hown, hB, hE⟩
  have hS : va_S A s.heap s.heap [] := va_S.rf
  have hl : lv_has ls 4 [(0, .ref h0), (1, .int v1), (2, .int v2), (3, .int v3)] := hl
  unfold zX4_winters at h
  refine lv_iload_n hx hb dX4_winters_0 rfl (lv_at hl 1 rfl) ?_
  refine lv_iconst (v := 1) hx hb dX4_winters_1 (by decide) ?_
  refine lv_bipush (v := 60) hx hb dX4_winters_2 (by decide) ?_
  obtain ⟨x1, c2, h⟩ := q_o1 h
  refine q_roS F (kX4_within l E  v1 (1 : Int32) (60 : Int32) x1 c2) q_cX4_within q_lX4_75 (q_EV.go F.2.2.2.2.2 hAl hS) (fun k q h => by simp at h) ⟨by decide, by decide⟩ rfl ⟨_, hl⟩ (rest := []) rfl (Nat.le_of_ble_eq_true rfl) dX4_winters_4 ?_
  refine lv_if_eq (tgt := 23) hx hb dX4_winters_7 (by decide) (fun c3 => ?_) (fun c3 => ?_)
  · replace h := q_i1 c3 h
    refine lv_bipush (v := (-102)) hx hb dX4_winters_23 (by decide) ?_
    cases h
    exact q_wI F hr hlk dX4_winters_25 hP hD hS
  · replace h := q_i2 c3 h
    refine lv_iload_n hx hb dX4_winters_10 rfl (lv_at hl 2 rfl) ?_
    refine lv_if_lt (tgt := 23) hx hb dX4_winters_11 (by decide) (fun c4 => ?_) (fun c4 => ?_)
    · replace h := q_i1 c4 h
      refine lv_bipush (v := (-102)) hx hb dX4_winters_23 (by decide) ?_
      cases h
      exact q_wI F hr hlk dX4_winters_25 hP hD hS
    · replace h := q_i2 c4 h
      refine lv_iload_n hx hb dX4_winters_14 rfl (lv_at hl 3 rfl) ?_
      refine lv_iconst (v := 0) hx hb dX4_winters_15 (by decide) ?_
      refine lv_iconst (v := 2) hx hb dX4_winters_16 (by decide) ?_
      obtain ⟨x5, c6, h⟩ := q_o1 h
      refine q_roS F (kX4_within l E  v3 (0 : Int32) (2 : Int32) x5 c6) q_cX4_within q_lX4_75 (q_EV.go F.2.2.2.2.2 hAl hS) (fun k q h => by simp at h) ⟨by decide, by decide⟩ rfl ⟨_, hl⟩ (rest := []) rfl (Nat.le_of_ble_eq_true rfl) dX4_winters_17 ?_
      refine lv_if_ne (tgt := 26) hx hb dX4_winters_20 (by decide) (fun c7 => ?_) (fun c7 => ?_)
      · replace h := q_i2 c7 h
        refine lv_aload_n hx hb dX4_winters_26 rfl (lv_at hl 0 rfl) ?_
        refine q_get F q_K4 hP 0 rfl 1 (by decide) q_fX4_108 rfl dX4_winters_27 ?_
        refine lv_if_ne (tgt := 38) hx hb dX4_winters_30 (by decide) (fun c8 => ?_) (fun c8 => ?_)
        · replace h := q_i2 c8 h
          refine lv_aload_n hx hb dX4_winters_38 rfl (lv_at hl 0 rfl) ?_
          refine lv_iload_n hx hb dX4_winters_39 rfl (lv_at hl 1 rfl) ?_
          refine lv_iload_n hx hb dX4_winters_40 rfl (lv_at hl 2 rfl) ?_
          refine lv_iload_n hx hb dX4_winters_41 rfl (lv_at hl 3 rfl) ?_
          obtain ⟨x9, y10, y11, c12, h⟩ := q_o3 h
          refine q_muV F (kX4_wintersNow l E h0 a0 s0 g0 v1 v2 v3 s.heap.size x9 y10 y11 c12) q_cX4_wintersNow q_lX4_225 (q_s_M_M_0w E h0 a0 s0 g0 y11 y10) hP hD hS hA hAl ⟨by decide, by decide⟩ (q0 := 0) rfl rfl rfl rfl ⟨_, hl⟩ (rest := []) rfl (Nat.le_of_ble_eq_true rfl) dX4_winters_42 (fun H locs (hP : va_P (q_D E) vwCl (q_cM E h0 a0 y11 y10) H) hD hS => ?_)
          cases h
          exact q_wI F hr hlk dX4_winters_45 hP hD hS
        · replace h := q_i1 c8 h
          refine lv_bipush (v := (-103)) hx hb dX4_winters_33 (by decide) ?_
          refine lv_goto (tgt := 45) hx hb dX4_winters_35 (by decide) ?_
          cases h
          exact q_wI F hr hlk dX4_winters_45 hP hD hS
      · replace h := q_i1 c7 h
        refine lv_bipush (v := (-102)) hx hb dX4_winters_23 (by decide) ?_
        cases h
        exact q_wI F hr hlk dX4_winters_25 hP hD hS
def jX4_image_118 (k118 : q_S → Int32 → Option (Int32 × q_S)) (s0 : q_S) (v1 : Int32) : Option (Int32 × q_S) := if (6 : Int32) ≤ v1 then (q_b1 (zX4_leftMany s0) fun x2 => some (((s0 7 0) - x2), s0)) else (q_gd (q_ib v1 6) (q_gd (q_ib v1 6) (q_lt (q_u s0 37 v1.toNatClampNeg (s0 13 v1.toNatClampNeg)) fun y6 => q_gd (q_ib v1 6) (q_gd (q_ib v1 6) (q_lt (q_u y6 38 v1.toNatClampNeg (y6 14 v1.toNatClampNeg)) fun y9 => q_gd (q_ib v1 6) (q_gd (q_ib v1 6) (q_lt (q_u y9 39 v1.toNatClampNeg (y9 15 v1.toNatClampNeg)) fun y12 => q_lt (v1 + 1) fun x13 => k118 y12 x13)))))))
def zX4_image_118  : Nat → q_S → Int32 → Option (Int32 × q_S)
  | 0, _, _ => none
  | n + 1, s0, v1 => jX4_image_118  (zX4_image_118  n) s0 v1
theorem zX4_image_118_s  (n : Nat) (s0 : q_S) (v1 : Int32) : zX4_image_118  (n + 1) s0 v1 = jX4_image_118  (zX4_image_118  n) s0 v1 := rfl
def jX4_image_57 (k57 : q_S → Int32 → Option (Int32 × q_S)) (s0 : q_S) (v1 : Int32) : Option (Int32 × q_S) := if (4 : Int32) ≤ v1 then (zX4_image_118  70000 s0 (0 : Int32)) else (q_gd (q_ib v1 4) (q_gd (q_ib v1 4) (q_lt (q_u s0 33 v1.toNatClampNeg (s0 3 v1.toNatClampNeg)) fun y17 => q_gd (q_ib v1 4) (q_gd (q_ib v1 4) (q_lt (q_u y17 34 v1.toNatClampNeg (vp_nar .boolean (y17 4 v1.toNatClampNeg))) fun y20 => q_gd (q_ib v1 4) (q_gd (q_ib v1 4) (q_lt (q_u y20 35 v1.toNatClampNeg (y20 5 v1.toNatClampNeg)) fun y23 => q_gd (q_ib v1 4) (q_gd (q_ib v1 4) (q_lt (q_u y23 36 v1.toNatClampNeg (y23 6 v1.toNatClampNeg)) fun y26 => q_lt (v1 + 1) fun x27 => k57 y26 x27)))))))))
def zX4_image_57  : Nat → q_S → Int32 → Option (Int32 × q_S)
  | 0, _, _ => none
  | n + 1, s0, v1 => jX4_image_57  (zX4_image_57  n) s0 v1
theorem zX4_image_57_s  (n : Nat) (s0 : q_S) (v1 : Int32) : zX4_image_57  (n + 1) s0 v1 = jX4_image_57  (zX4_image_57  n) s0 v1 := rfl
def zX4_image (s0 : q_S) : Option (Int32 × q_S) := if (s0 1 0) = 0 then (some ((-103 : Int32), s0)) else (q_lt (q_u s0 27 0 (1 : Int32)) fun y29 => q_lt (q_u y29 28 0 (y29 0 0)) fun y30 => q_lt (q_u y30 29 0 (y30 7 0)) fun y31 => q_lt (q_u y31 30 0 (y31 10 0)) fun y32 => q_lt (q_u y32 31 0 (y32 11 0)) fun y33 => q_lt (q_u y33 32 0 (y33 12 0)) fun y34 => zX4_image_57  70000 y34 (0 : Int32))
set_option maxHeartbeats 4000000 in
set_option maxRecDepth 100000 in
theorem kX4_image (l : Launch) (E : q_E) (h0 : Nat) (a0 : Nat → Nat) (s0 : q_S) (g0 : q_G)  (sz : Nat) (r : Int32) (rs0 : q_S) (h : zX4_image s0 = some (r, rs0)) : q_MU l E yX4_image cX4_image 2 (some .int) 3 [.ref h0] sz (q_cM E h0 a0 s0 g0) (q_cM E h0 a0 rs0 g0) (some (.int r)) := by
  refine q_MU.intro (by decide) (Nat.le_of_ble_eq_true rfl) ?_
  intro p e s m args below meth c A X hP hD hA hAl ls hl
  obtain ⟨hx, hb, hml, hr, hlk, hown, hB, hE⟩ := X
  have hown : s.vm.findClass RX4 = some m.cls := hown
  have F : q_Fx p s m c E RX4 cX4_image 2 := ⟨hx, hb, hml, hown, hB, hE⟩
  have hS : va_S A s.heap s.heap [] := va_S.rf
  have hl : lv_has ls 2 [(0, .ref h0)] := hl
  have K118 : ∀ (n118_ : Nat), ∀ (v1 : Int32) (s0 : q_S), ∀ (H : Heap) (locs : List Loc), va_P (q_D E) vwCl (q_cM E h0 a0 s0 g0) H → va_D A (q_cM E h0 a0 s0 g0) → va_S A s.heap H locs → ∀ ls : Array Slot, lv_has ls 2 [(0, .ref h0), (1, .int v1)] → zX4_image_118  n118_ s0 v1 = some (r, rs0) → W p l e (q_rm 3) s m args below meth c H locs 0 0 (MQ below (q_muQ E A (q_cM E h0 a0 rs0 g0) (some (.int r))) args s 0 0 A) (F0 m 118 ls []) := by
    intro n118_
    induction n118_ with
    | zero => intro v1 s0 H locs hP hD hS ls hl h; exact q_nn h
    | succ n118_ ih118 =>
      intro v1 s0 H locs hP hD hS ls hl h
      rw [zX4_image_118_s] at h
      unfold jX4_image_118 at h
      refine lv_iload_n hx hb dX4_image_118 rfl (lv_at hl 1 rfl) ?_
      refine lv_bipush (v := 6) hx hb dX4_image_119 (by decide) ?_
      refine lv_icmp_ge (tgt := 166) hx hb dX4_image_121 (by decide) (fun c1 => ?_) (fun c1 => ?_)
      · replace h := q_i1 c1 h
        refine lv_aload_n hx hb dX4_image_166 rfl (lv_at hl 0 rfl) ?_
        refine q_get F q_K4 hP 0 rfl 7 (by decide) q_fX4_111 rfl dX4_image_167 ?_
        refine lv_aload_n hx hb dX4_image_170 rfl (lv_at hl 0 rfl) ?_
        obtain ⟨x2, c3, h⟩ := q_o1 h
        refine q_roV F (kX4_leftMany l E h0 a0 s0 g0 x2 c3) q_cX4_leftMany q_lX4_191 (q_EV.go F.2.2.2.2.2 hAl hS) hP ⟨by decide, by decide⟩ (q0 := 0) rfl rfl rfl rfl ⟨_, hl⟩ (rest := [.int (s0 7 0)]) rfl (Nat.le_of_ble_eq_true rfl) dX4_image_171 ?_
        refine lv_isub hx hb dX4_image_174 ?_
        cases h
        exact q_wI F hr hlk dX4_image_175 hP hD hS
      · replace h := q_i2 c1 h
        refine lv_aload_n hx hb dX4_image_124 rfl (lv_at hl 0 rfl) ?_
        refine q_get F q_K4 hP 0 rfl 37 (by decide) q_fX4_66 rfl dX4_image_125 ?_
        refine lv_iload_n hx hb dX4_image_128 rfl (lv_at hl 1 rfl) ?_
        refine lv_aload_n hx hb dX4_image_129 rfl (lv_at hl 0 rfl) ?_
        refine q_get F q_K4 hP 0 rfl 13 (by decide) q_fX4_32 rfl dX4_image_130 ?_
        refine lv_iload_n hx hb dX4_image_133 rfl (lv_at hl 1 rfl) ?_
        obtain ⟨eg4, h⟩ := q_og h
        refine q_iald F hP 8 rfl eg4 dX4_image_134 ?_
        obtain ⟨eg5, h⟩ := q_og h
        obtain ⟨y6, ey6, h⟩ := q_ol h
        refine q_iast F hP hD hS 19 rfl eg5 (by rw [ey6]; rfl) dX4_image_135 (fun H locs (hP : va_P (q_D E) vwCl (q_cM E h0 a0 y6 g0) H) hD hS => ?_)
        refine lv_aload_n hx hb dX4_image_136 rfl (lv_at hl 0 rfl) ?_
        refine q_get F q_K4 hP 0 rfl 38 (by decide) q_fX4_69 rfl dX4_image_137 ?_
        refine lv_iload_n hx hb dX4_image_140 rfl (lv_at hl 1 rfl) ?_
        refine lv_aload_n hx hb dX4_image_141 rfl (lv_at hl 0 rfl) ?_
        refine q_get F q_K4 hP 0 rfl 14 (by decide) q_fX4_35 rfl dX4_image_142 ?_
        refine lv_iload_n hx hb dX4_image_145 rfl (lv_at hl 1 rfl) ?_
        obtain ⟨eg7, h⟩ := q_og h
        refine q_iald F hP 9 rfl eg7 dX4_image_146 ?_
        obtain ⟨eg8, h⟩ := q_og h
        obtain ⟨y9, ey9, h⟩ := q_ol h
        refine q_iast F hP hD hS 20 rfl eg8 (by rw [ey9]; rfl) dX4_image_147 (fun H locs (hP : va_P (q_D E) vwCl (q_cM E h0 a0 y9 g0) H) hD hS => ?_)
        refine lv_aload_n hx hb dX4_image_148 rfl (lv_at hl 0 rfl) ?_
        refine q_get F q_K4 hP 0 rfl 39 (by decide) q_fX4_72 rfl dX4_image_149 ?_
        refine lv_iload_n hx hb dX4_image_152 rfl (lv_at hl 1 rfl) ?_
        refine lv_aload_n hx hb dX4_image_153 rfl (lv_at hl 0 rfl) ?_
        refine q_get F q_K4 hP 0 rfl 15 (by decide) q_fX4_38 rfl dX4_image_154 ?_
        refine lv_iload_n hx hb dX4_image_157 rfl (lv_at hl 1 rfl) ?_
        obtain ⟨eg10, h⟩ := q_og h
        refine q_iald F hP 10 rfl eg10 dX4_image_158 ?_
        obtain ⟨eg11, h⟩ := q_og h
        obtain ⟨y12, ey12, h⟩ := q_ol h
        refine q_iast F hP hD hS 21 rfl eg11 (by rw [ey12]; rfl) dX4_image_159 (fun H locs (hP : va_P (q_D E) vwCl (q_cM E h0 a0 y12 g0) H) hD hS => ?_)
        obtain ⟨x13, ex13, h⟩ := q_ol h
        refine lv_iinc (v := x13) (lv' := [(1, .int x13), (0, .ref h0)]) hx hb dX4_image_160 hl (k := 1) rfl (by rw [ex13]; rfl) (by decide) rfl (fun ls hl => ?_)
        refine lv_goto (tgt := 118) hx hb dX4_image_163 (by decide) ?_
        exact ih118 x13 y12 H _ hP hD hS ls (lv_sub hl [1, 0] rfl) h
  have K57 : ∀ (n57_ : Nat), ∀ (v1 : Int32) (s0 : q_S), ∀ (H : Heap) (locs : List Loc), va_P (q_D E) vwCl (q_cM E h0 a0 s0 g0) H → va_D A (q_cM E h0 a0 s0 g0) → va_S A s.heap H locs → ∀ ls : Array Slot, lv_has ls 2 [(0, .ref h0), (1, .int v1)] → zX4_image_57  n57_ s0 v1 = some (r, rs0) → W p l e (q_rm 3) s m args below meth c H locs 0 0 (MQ below (q_muQ E A (q_cM E h0 a0 rs0 g0) (some (.int r))) args s 0 0 A) (F0 m 57 ls []) := by
    intro n57_
    induction n57_ with
    | zero => intro v1 s0 H locs hP hD hS ls hl h; exact q_nn h
    | succ n57_ ih57 =>
      intro v1 s0 H locs hP hD hS ls hl h
      rw [zX4_image_57_s] at h
      unfold jX4_image_57 at h
      refine lv_iload_n hx hb dX4_image_57 rfl (lv_at hl 1 rfl) ?_
      refine lv_iconst (v := 4) hx hb dX4_image_58 (by decide) ?_
      refine lv_icmp_ge (tgt := 116) hx hb dX4_image_59 (by decide) (fun c14 => ?_) (fun c14 => ?_)
      · replace h := q_i1 c14 h
        refine lv_iconst (v := 0) hx hb dX4_image_116 (by decide) ?_
        refine lv_istore_n (lv' := [(1, .int (0 : Int32)), (0, .ref h0)]) hx hb dX4_image_117 rfl hl (by decide) rfl (fun ls hl => ?_)
        exact K118 70000 (0 : Int32) s0 H _ hP hD hS ls (lv_sub hl [1, 0] rfl) h
      · replace h := q_i2 c14 h
        refine lv_aload_n hx hb dX4_image_62 rfl (lv_at hl 0 rfl) ?_
        refine q_get F q_K4 hP 0 rfl 33 (by decide) q_fX4_54 rfl dX4_image_63 ?_
        refine lv_iload_n hx hb dX4_image_66 rfl (lv_at hl 1 rfl) ?_
        refine lv_aload_n hx hb dX4_image_67 rfl (lv_at hl 0 rfl) ?_
        refine q_get F q_K4 hP 0 rfl 3 (by decide) q_fX4_13 rfl dX4_image_68 ?_
        refine lv_iload_n hx hb dX4_image_71 rfl (lv_at hl 1 rfl) ?_
        obtain ⟨eg15, h⟩ := q_og h
        refine q_iald F hP 2 rfl eg15 dX4_image_72 ?_
        obtain ⟨eg16, h⟩ := q_og h
        obtain ⟨y17, ey17, h⟩ := q_ol h
        refine q_iast F hP hD hS 15 rfl eg16 (by rw [ey17]; rfl) dX4_image_73 (fun H locs (hP : va_P (q_D E) vwCl (q_cM E h0 a0 y17 g0) H) hD hS => ?_)
        refine lv_aload_n hx hb dX4_image_74 rfl (lv_at hl 0 rfl) ?_
        refine q_get F q_K4 hP 0 rfl 34 (by decide) q_fX4_57 rfl dX4_image_75 ?_
        refine lv_iload_n hx hb dX4_image_78 rfl (lv_at hl 1 rfl) ?_
        refine lv_aload_n hx hb dX4_image_79 rfl (lv_at hl 0 rfl) ?_
        refine q_get F q_K4 hP 0 rfl 4 (by decide) q_fX4_16 rfl dX4_image_80 ?_
        refine lv_iload_n hx hb dX4_image_83 rfl (lv_at hl 1 rfl) ?_
        obtain ⟨eg18, h⟩ := q_og h
        refine q_zald F hP 3 rfl eg18 dX4_image_84 ?_
        obtain ⟨eg19, h⟩ := q_og h
        obtain ⟨y20, ey20, h⟩ := q_ol h
        refine q_zast F hP hD hS 16 rfl eg19 (by rw [ey20]; rfl) dX4_image_85 (fun H locs (hP : va_P (q_D E) vwCl (q_cM E h0 a0 y20 g0) H) hD hS => ?_)
        refine lv_aload_n hx hb dX4_image_86 rfl (lv_at hl 0 rfl) ?_
        refine q_get F q_K4 hP 0 rfl 35 (by decide) q_fX4_60 rfl dX4_image_87 ?_
        refine lv_iload_n hx hb dX4_image_90 rfl (lv_at hl 1 rfl) ?_
        refine lv_aload_n hx hb dX4_image_91 rfl (lv_at hl 0 rfl) ?_
        refine q_get F q_K4 hP 0 rfl 5 (by decide) q_fX4_20 rfl dX4_image_92 ?_
        refine lv_iload_n hx hb dX4_image_95 rfl (lv_at hl 1 rfl) ?_
        obtain ⟨eg21, h⟩ := q_og h
        refine q_iald F hP 4 rfl eg21 dX4_image_96 ?_
        obtain ⟨eg22, h⟩ := q_og h
        obtain ⟨y23, ey23, h⟩ := q_ol h
        refine q_iast F hP hD hS 17 rfl eg22 (by rw [ey23]; rfl) dX4_image_97 (fun H locs (hP : va_P (q_D E) vwCl (q_cM E h0 a0 y23 g0) H) hD hS => ?_)
        refine lv_aload_n hx hb dX4_image_98 rfl (lv_at hl 0 rfl) ?_
        refine q_get F q_K4 hP 0 rfl 36 (by decide) q_fX4_63 rfl dX4_image_99 ?_
        refine lv_iload_n hx hb dX4_image_102 rfl (lv_at hl 1 rfl) ?_
        refine lv_aload_n hx hb dX4_image_103 rfl (lv_at hl 0 rfl) ?_
        refine q_get F q_K4 hP 0 rfl 6 (by decide) q_fX4_23 rfl dX4_image_104 ?_
        refine lv_iload_n hx hb dX4_image_107 rfl (lv_at hl 1 rfl) ?_
        obtain ⟨eg24, h⟩ := q_og h
        refine q_iald F hP 5 rfl eg24 dX4_image_108 ?_
        obtain ⟨eg25, h⟩ := q_og h
        obtain ⟨y26, ey26, h⟩ := q_ol h
        refine q_iast F hP hD hS 18 rfl eg25 (by rw [ey26]; rfl) dX4_image_109 (fun H locs (hP : va_P (q_D E) vwCl (q_cM E h0 a0 y26 g0) H) hD hS => ?_)
        obtain ⟨x27, ex27, h⟩ := q_ol h
        refine lv_iinc (v := x27) (lv' := [(1, .int x27), (0, .ref h0)]) hx hb dX4_image_110 hl (k := 1) rfl (by rw [ex27]; rfl) (by decide) rfl (fun ls hl => ?_)
        refine lv_goto (tgt := 57) hx hb dX4_image_113 (by decide) ?_
        exact ih57 x27 y26 H _ hP hD hS ls (lv_sub hl [1, 0] rfl) h
  unfold zX4_image at h
  refine lv_aload_n hx hb dX4_image_0 rfl (lv_at hl 0 rfl) ?_
  refine q_get F q_K4 hP 0 rfl 1 (by decide) q_fX4_108 rfl dX4_image_1 ?_
  refine lv_if_ne (tgt := 10) hx hb dX4_image_4 (by decide) (fun c28 => ?_) (fun c28 => ?_)
  · replace h := q_i2 c28 h
    refine lv_aload_n hx hb dX4_image_10 rfl (lv_at hl 0 rfl) ?_
    refine lv_iconst (v := 1) hx hb dX4_image_11 (by decide) ?_
    obtain ⟨y29, ey29, h⟩ := q_ol h
    refine q_put F q_K4 hP hD hS 0 rfl 27 (by decide) q_fX4_229 rfl rfl rfl (Nat.le_of_ble_eq_true rfl) (by rw [ey29]; rfl) dX4_image_12 (fun H locs (hP : va_P (q_D E) vwCl (q_cM E h0 a0 y29 g0) H) hD hS => ?_)
    refine lv_aload_n hx hb dX4_image_15 rfl (lv_at hl 0 rfl) ?_
    refine lv_aload_n hx hb dX4_image_16 rfl (lv_at hl 0 rfl) ?_
    refine q_get F q_K4 hP 0 rfl 0 (by decide) q_fX4_114 rfl dX4_image_17 ?_
    obtain ⟨y30, ey30, h⟩ := q_ol h
    refine q_put F q_K4 hP hD hS 0 rfl 28 (by decide) q_fX4_232 rfl rfl rfl (Nat.le_of_ble_eq_true rfl) (by rw [ey30]; rfl) dX4_image_20 (fun H locs (hP : va_P (q_D E) vwCl (q_cM E h0 a0 y30 g0) H) hD hS => ?_)
    refine lv_aload_n hx hb dX4_image_23 rfl (lv_at hl 0 rfl) ?_
    refine lv_aload_n hx hb dX4_image_24 rfl (lv_at hl 0 rfl) ?_
    refine q_get F q_K4 hP 0 rfl 7 (by decide) q_fX4_111 rfl dX4_image_25 ?_
    obtain ⟨y31, ey31, h⟩ := q_ol h
    refine q_put F q_K4 hP hD hS 0 rfl 29 (by decide) q_fX4_235 rfl rfl rfl (Nat.le_of_ble_eq_true rfl) (by rw [ey31]; rfl) dX4_image_28 (fun H locs (hP : va_P (q_D E) vwCl (q_cM E h0 a0 y31 g0) H) hD hS => ?_)
    refine lv_aload_n hx hb dX4_image_31 rfl (lv_at hl 0 rfl) ?_
    refine lv_aload_n hx hb dX4_image_32 rfl (lv_at hl 0 rfl) ?_
    refine q_get F q_K4 hP 0 rfl 10 (by decide) q_fX4_117 rfl dX4_image_33 ?_
    obtain ⟨y32, ey32, h⟩ := q_ol h
    refine q_put F q_K4 hP hD hS 0 rfl 30 (by decide) q_fX4_238 rfl rfl rfl (Nat.le_of_ble_eq_true rfl) (by rw [ey32]; rfl) dX4_image_36 (fun H locs (hP : va_P (q_D E) vwCl (q_cM E h0 a0 y32 g0) H) hD hS => ?_)
    refine lv_aload_n hx hb dX4_image_39 rfl (lv_at hl 0 rfl) ?_
    refine lv_aload_n hx hb dX4_image_40 rfl (lv_at hl 0 rfl) ?_
    refine q_get F q_K4 hP 0 rfl 11 (by decide) q_fX4_120 rfl dX4_image_41 ?_
    obtain ⟨y33, ey33, h⟩ := q_ol h
    refine q_put F q_K4 hP hD hS 0 rfl 31 (by decide) q_fX4_241 rfl rfl rfl (Nat.le_of_ble_eq_true rfl) (by rw [ey33]; rfl) dX4_image_44 (fun H locs (hP : va_P (q_D E) vwCl (q_cM E h0 a0 y33 g0) H) hD hS => ?_)
    refine lv_aload_n hx hb dX4_image_47 rfl (lv_at hl 0 rfl) ?_
    refine lv_aload_n hx hb dX4_image_48 rfl (lv_at hl 0 rfl) ?_
    refine q_get F q_K4 hP 0 rfl 12 (by decide) q_fX4_123 rfl dX4_image_49 ?_
    obtain ⟨y34, ey34, h⟩ := q_ol h
    refine q_put F q_K4 hP hD hS 0 rfl 32 (by decide) q_fX4_244 rfl rfl rfl (Nat.le_of_ble_eq_true rfl) (by rw [ey34]; rfl) dX4_image_52 (fun H locs (hP : va_P (q_D E) vwCl (q_cM E h0 a0 y34 g0) H) hD hS => ?_)
    refine lv_iconst (v := 0) hx hb dX4_image_55 (by decide) ?_
    refine lv_istore_n (lv' := [(1, .int (0 : Int32)), (0, .ref h0)]) hx hb dX4_image_56 rfl hl (by decide) rfl (fun ls hl => ?_)
    exact K57 70000 (0 : Int32) y34 H _ hP hD hS ls (lv_sub hl [1, 0] rfl) h
  · replace h := q_i1 c28 h
    refine lv_bipush (v := (-103)) hx hb dX4_image_7 (by decide) ?_
    cases h
    exact q_wI F hr hlk dX4_image_9 hP hD hS
def jX4_restore_116 (k116 : q_S → Int32 → Option (Int32 × q_S)) (s0 : q_S) (v1 : Int32) : Option (Int32 × q_S) := if (6 : Int32) ≤ v1 then (q_b1 (zX4_leftMany s0) fun x2 => some (((s0 7 0) - x2), s0)) else (q_gd (q_ib v1 6) (q_gd (q_ib v1 6) (q_lt (q_u s0 13 v1.toNatClampNeg (s0 37 v1.toNatClampNeg)) fun y6 => q_gd (q_ib v1 6) (q_gd (q_ib v1 6) (q_lt (q_u y6 14 v1.toNatClampNeg (y6 38 v1.toNatClampNeg)) fun y9 => q_gd (q_ib v1 6) (q_gd (q_ib v1 6) (q_lt (q_u y9 15 v1.toNatClampNeg (y9 39 v1.toNatClampNeg)) fun y12 => q_lt (v1 + 1) fun x13 => k116 y12 x13)))))))
def zX4_restore_116  : Nat → q_S → Int32 → Option (Int32 × q_S)
  | 0, _, _ => none
  | n + 1, s0, v1 => jX4_restore_116  (zX4_restore_116  n) s0 v1
theorem zX4_restore_116_s  (n : Nat) (s0 : q_S) (v1 : Int32) : zX4_restore_116  (n + 1) s0 v1 = jX4_restore_116  (zX4_restore_116  n) s0 v1 := rfl
def jX4_restore_55 (k55 : q_S → Int32 → Option (Int32 × q_S)) (s0 : q_S) (v1 : Int32) : Option (Int32 × q_S) := if (4 : Int32) ≤ v1 then (zX4_restore_116  70000 s0 (0 : Int32)) else (q_gd (q_ib v1 4) (q_gd (q_ib v1 4) (q_lt (q_u s0 3 v1.toNatClampNeg (s0 33 v1.toNatClampNeg)) fun y17 => q_gd (q_ib v1 4) (q_gd (q_ib v1 4) (q_lt (q_u y17 4 v1.toNatClampNeg (vp_nar .boolean (y17 34 v1.toNatClampNeg))) fun y20 => q_gd (q_ib v1 4) (q_gd (q_ib v1 4) (q_lt (q_u y20 5 v1.toNatClampNeg (y20 35 v1.toNatClampNeg)) fun y23 => q_gd (q_ib v1 4) (q_gd (q_ib v1 4) (q_lt (q_u y23 6 v1.toNatClampNeg (y23 36 v1.toNatClampNeg)) fun y26 => q_lt (v1 + 1) fun x27 => k55 y26 x27)))))))))
def zX4_restore_55  : Nat → q_S → Int32 → Option (Int32 × q_S)
  | 0, _, _ => none
  | n + 1, s0, v1 => jX4_restore_55  (zX4_restore_55  n) s0 v1
theorem zX4_restore_55_s  (n : Nat) (s0 : q_S) (v1 : Int32) : zX4_restore_55  (n + 1) s0 v1 = jX4_restore_55  (zX4_restore_55  n) s0 v1 := rfl
def zX4_restore (s0 : q_S) : Option (Int32 × q_S) := if (s0 27 0) = 0 then (some ((-103 : Int32), s0)) else (if (s0 28 0) = (s0 0 0) then (q_lt (q_u s0 7 0 (s0 29 0)) fun y30 => q_lt (q_u y30 10 0 (y30 30 0)) fun y31 => q_lt (q_u y31 11 0 (y31 31 0)) fun y32 => q_lt (q_u y32 12 0 (y32 32 0)) fun y33 => zX4_restore_55  70000 y33 (0 : Int32)) else (some ((-103 : Int32), s0)))
set_option maxHeartbeats 4000000 in
set_option maxRecDepth 100000 in
theorem kX4_restore (l : Launch) (E : q_E) (h0 : Nat) (a0 : Nat → Nat) (s0 : q_S) (g0 : q_G)  (sz : Nat) (r : Int32) (rs0 : q_S) (h : zX4_restore s0 = some (r, rs0)) : q_MU l E yX4_restore cX4_restore 2 (some .int) 3 [.ref h0] sz (q_cM E h0 a0 s0 g0) (q_cM E h0 a0 rs0 g0) (some (.int r)) := by
  refine q_MU.intro (by decide) (Nat.le_of_ble_eq_true rfl) ?_
  intro p e s m args below meth c A X hP hD hA hAl ls hl
  obtain ⟨hx, hb, hml, hr, hlk, hown, hB, hE⟩ := X
  have hown : s.vm.findClass RX4 = some m.cls := hown
  have F : q_Fx p s m c E RX4 cX4_restore 2 := ⟨hx, hb, hml, hown, hB, hE⟩
  have hS : va_S A s.heap s.heap [] := va_S.rf
  have hl : lv_has ls 2 [(0, .ref h0)] := hl
  have K116 : ∀ (n116_ : Nat), ∀ (v1 : Int32) (s0 : q_S), ∀ (H : Heap) (locs : List Loc), va_P (q_D E) vwCl (q_cM E h0 a0 s0 g0) H → va_D A (q_cM E h0 a0 s0 g0) → va_S A s.heap H locs → ∀ ls : Array Slot, lv_has ls 2 [(0, .ref h0), (1, .int v1)] → zX4_restore_116  n116_ s0 v1 = some (r, rs0) → W p l e (q_rm 3) s m args below meth c H locs 0 0 (MQ below (q_muQ E A (q_cM E h0 a0 rs0 g0) (some (.int r))) args s 0 0 A) (F0 m 116 ls []) := by
    intro n116_
    induction n116_ with
    | zero => intro v1 s0 H locs hP hD hS ls hl h; exact q_nn h
    | succ n116_ ih116 =>
      intro v1 s0 H locs hP hD hS ls hl h
      rw [zX4_restore_116_s] at h
      unfold jX4_restore_116 at h
      refine lv_iload_n hx hb dX4_restore_116 rfl (lv_at hl 1 rfl) ?_
      refine lv_bipush (v := 6) hx hb dX4_restore_117 (by decide) ?_
      refine lv_icmp_ge (tgt := 164) hx hb dX4_restore_119 (by decide) (fun c1 => ?_) (fun c1 => ?_)
      · replace h := q_i1 c1 h
        refine lv_aload_n hx hb dX4_restore_164 rfl (lv_at hl 0 rfl) ?_
        refine q_get F q_K4 hP 0 rfl 7 (by decide) q_fX4_111 rfl dX4_restore_165 ?_
        refine lv_aload_n hx hb dX4_restore_168 rfl (lv_at hl 0 rfl) ?_
        obtain ⟨x2, c3, h⟩ := q_o1 h
        refine q_roV F (kX4_leftMany l E h0 a0 s0 g0 x2 c3) q_cX4_leftMany q_lX4_191 (q_EV.go F.2.2.2.2.2 hAl hS) hP ⟨by decide, by decide⟩ (q0 := 0) rfl rfl rfl rfl ⟨_, hl⟩ (rest := [.int (s0 7 0)]) rfl (Nat.le_of_ble_eq_true rfl) dX4_restore_169 ?_
        refine lv_isub hx hb dX4_restore_172 ?_
        cases h
        exact q_wI F hr hlk dX4_restore_173 hP hD hS
      · replace h := q_i2 c1 h
        refine lv_aload_n hx hb dX4_restore_122 rfl (lv_at hl 0 rfl) ?_
        refine q_get F q_K4 hP 0 rfl 13 (by decide) q_fX4_32 rfl dX4_restore_123 ?_
        refine lv_iload_n hx hb dX4_restore_126 rfl (lv_at hl 1 rfl) ?_
        refine lv_aload_n hx hb dX4_restore_127 rfl (lv_at hl 0 rfl) ?_
        refine q_get F q_K4 hP 0 rfl 37 (by decide) q_fX4_66 rfl dX4_restore_128 ?_
        refine lv_iload_n hx hb dX4_restore_131 rfl (lv_at hl 1 rfl) ?_
        obtain ⟨eg4, h⟩ := q_og h
        refine q_iald F hP 19 rfl eg4 dX4_restore_132 ?_
        obtain ⟨eg5, h⟩ := q_og h
        obtain ⟨y6, ey6, h⟩ := q_ol h
        refine q_iast F hP hD hS 8 rfl eg5 (by rw [ey6]; rfl) dX4_restore_133 (fun H locs (hP : va_P (q_D E) vwCl (q_cM E h0 a0 y6 g0) H) hD hS => ?_)
        refine lv_aload_n hx hb dX4_restore_134 rfl (lv_at hl 0 rfl) ?_
        refine q_get F q_K4 hP 0 rfl 14 (by decide) q_fX4_35 rfl dX4_restore_135 ?_
        refine lv_iload_n hx hb dX4_restore_138 rfl (lv_at hl 1 rfl) ?_
        refine lv_aload_n hx hb dX4_restore_139 rfl (lv_at hl 0 rfl) ?_
        refine q_get F q_K4 hP 0 rfl 38 (by decide) q_fX4_69 rfl dX4_restore_140 ?_
        refine lv_iload_n hx hb dX4_restore_143 rfl (lv_at hl 1 rfl) ?_
        obtain ⟨eg7, h⟩ := q_og h
        refine q_iald F hP 20 rfl eg7 dX4_restore_144 ?_
        obtain ⟨eg8, h⟩ := q_og h
        obtain ⟨y9, ey9, h⟩ := q_ol h
        refine q_iast F hP hD hS 9 rfl eg8 (by rw [ey9]; rfl) dX4_restore_145 (fun H locs (hP : va_P (q_D E) vwCl (q_cM E h0 a0 y9 g0) H) hD hS => ?_)
        refine lv_aload_n hx hb dX4_restore_146 rfl (lv_at hl 0 rfl) ?_
        refine q_get F q_K4 hP 0 rfl 15 (by decide) q_fX4_38 rfl dX4_restore_147 ?_
        refine lv_iload_n hx hb dX4_restore_150 rfl (lv_at hl 1 rfl) ?_
        refine lv_aload_n hx hb dX4_restore_151 rfl (lv_at hl 0 rfl) ?_
        refine q_get F q_K4 hP 0 rfl 39 (by decide) q_fX4_72 rfl dX4_restore_152 ?_
        refine lv_iload_n hx hb dX4_restore_155 rfl (lv_at hl 1 rfl) ?_
        obtain ⟨eg10, h⟩ := q_og h
        refine q_iald F hP 21 rfl eg10 dX4_restore_156 ?_
        obtain ⟨eg11, h⟩ := q_og h
        obtain ⟨y12, ey12, h⟩ := q_ol h
        refine q_iast F hP hD hS 10 rfl eg11 (by rw [ey12]; rfl) dX4_restore_157 (fun H locs (hP : va_P (q_D E) vwCl (q_cM E h0 a0 y12 g0) H) hD hS => ?_)
        obtain ⟨x13, ex13, h⟩ := q_ol h
        refine lv_iinc (v := x13) (lv' := [(1, .int x13), (0, .ref h0)]) hx hb dX4_restore_158 hl (k := 1) rfl (by rw [ex13]; rfl) (by decide) rfl (fun ls hl => ?_)
        refine lv_goto (tgt := 116) hx hb dX4_restore_161 (by decide) ?_
        exact ih116 x13 y12 H _ hP hD hS ls (lv_sub hl [1, 0] rfl) h
  have K55 : ∀ (n55_ : Nat), ∀ (v1 : Int32) (s0 : q_S), ∀ (H : Heap) (locs : List Loc), va_P (q_D E) vwCl (q_cM E h0 a0 s0 g0) H → va_D A (q_cM E h0 a0 s0 g0) → va_S A s.heap H locs → ∀ ls : Array Slot, lv_has ls 2 [(0, .ref h0), (1, .int v1)] → zX4_restore_55  n55_ s0 v1 = some (r, rs0) → W p l e (q_rm 3) s m args below meth c H locs 0 0 (MQ below (q_muQ E A (q_cM E h0 a0 rs0 g0) (some (.int r))) args s 0 0 A) (F0 m 55 ls []) := by
    intro n55_
    induction n55_ with
    | zero => intro v1 s0 H locs hP hD hS ls hl h; exact q_nn h
    | succ n55_ ih55 =>
      intro v1 s0 H locs hP hD hS ls hl h
      rw [zX4_restore_55_s] at h
      unfold jX4_restore_55 at h
      refine lv_iload_n hx hb dX4_restore_55 rfl (lv_at hl 1 rfl) ?_
      refine lv_iconst (v := 4) hx hb dX4_restore_56 (by decide) ?_
      refine lv_icmp_ge (tgt := 114) hx hb dX4_restore_57 (by decide) (fun c14 => ?_) (fun c14 => ?_)
      · replace h := q_i1 c14 h
        refine lv_iconst (v := 0) hx hb dX4_restore_114 (by decide) ?_
        refine lv_istore_n (lv' := [(1, .int (0 : Int32)), (0, .ref h0)]) hx hb dX4_restore_115 rfl hl (by decide) rfl (fun ls hl => ?_)
        exact K116 70000 (0 : Int32) s0 H _ hP hD hS ls (lv_sub hl [1, 0] rfl) h
      · replace h := q_i2 c14 h
        refine lv_aload_n hx hb dX4_restore_60 rfl (lv_at hl 0 rfl) ?_
        refine q_get F q_K4 hP 0 rfl 3 (by decide) q_fX4_13 rfl dX4_restore_61 ?_
        refine lv_iload_n hx hb dX4_restore_64 rfl (lv_at hl 1 rfl) ?_
        refine lv_aload_n hx hb dX4_restore_65 rfl (lv_at hl 0 rfl) ?_
        refine q_get F q_K4 hP 0 rfl 33 (by decide) q_fX4_54 rfl dX4_restore_66 ?_
        refine lv_iload_n hx hb dX4_restore_69 rfl (lv_at hl 1 rfl) ?_
        obtain ⟨eg15, h⟩ := q_og h
        refine q_iald F hP 15 rfl eg15 dX4_restore_70 ?_
        obtain ⟨eg16, h⟩ := q_og h
        obtain ⟨y17, ey17, h⟩ := q_ol h
        refine q_iast F hP hD hS 2 rfl eg16 (by rw [ey17]; rfl) dX4_restore_71 (fun H locs (hP : va_P (q_D E) vwCl (q_cM E h0 a0 y17 g0) H) hD hS => ?_)
        refine lv_aload_n hx hb dX4_restore_72 rfl (lv_at hl 0 rfl) ?_
        refine q_get F q_K4 hP 0 rfl 4 (by decide) q_fX4_16 rfl dX4_restore_73 ?_
        refine lv_iload_n hx hb dX4_restore_76 rfl (lv_at hl 1 rfl) ?_
        refine lv_aload_n hx hb dX4_restore_77 rfl (lv_at hl 0 rfl) ?_
        refine q_get F q_K4 hP 0 rfl 34 (by decide) q_fX4_57 rfl dX4_restore_78 ?_
        refine lv_iload_n hx hb dX4_restore_81 rfl (lv_at hl 1 rfl) ?_
        obtain ⟨eg18, h⟩ := q_og h
        refine q_zald F hP 16 rfl eg18 dX4_restore_82 ?_
        obtain ⟨eg19, h⟩ := q_og h
        obtain ⟨y20, ey20, h⟩ := q_ol h
        refine q_zast F hP hD hS 3 rfl eg19 (by rw [ey20]; rfl) dX4_restore_83 (fun H locs (hP : va_P (q_D E) vwCl (q_cM E h0 a0 y20 g0) H) hD hS => ?_)
        refine lv_aload_n hx hb dX4_restore_84 rfl (lv_at hl 0 rfl) ?_
        refine q_get F q_K4 hP 0 rfl 5 (by decide) q_fX4_20 rfl dX4_restore_85 ?_
        refine lv_iload_n hx hb dX4_restore_88 rfl (lv_at hl 1 rfl) ?_
        refine lv_aload_n hx hb dX4_restore_89 rfl (lv_at hl 0 rfl) ?_
        refine q_get F q_K4 hP 0 rfl 35 (by decide) q_fX4_60 rfl dX4_restore_90 ?_
        refine lv_iload_n hx hb dX4_restore_93 rfl (lv_at hl 1 rfl) ?_
        obtain ⟨eg21, h⟩ := q_og h
        refine q_iald F hP 17 rfl eg21 dX4_restore_94 ?_
        obtain ⟨eg22, h⟩ := q_og h
        obtain ⟨y23, ey23, h⟩ := q_ol h
        refine q_iast F hP hD hS 4 rfl eg22 (by rw [ey23]; rfl) dX4_restore_95 (fun H locs (hP : va_P (q_D E) vwCl (q_cM E h0 a0 y23 g0) H) hD hS => ?_)
        refine lv_aload_n hx hb dX4_restore_96 rfl (lv_at hl 0 rfl) ?_
        refine q_get F q_K4 hP 0 rfl 6 (by decide) q_fX4_23 rfl dX4_restore_97 ?_
        refine lv_iload_n hx hb dX4_restore_100 rfl (lv_at hl 1 rfl) ?_
        refine lv_aload_n hx hb dX4_restore_101 rfl (lv_at hl 0 rfl) ?_
        refine q_get F q_K4 hP 0 rfl 36 (by decide) q_fX4_63 rfl dX4_restore_102 ?_
        refine lv_iload_n hx hb dX4_restore_105 rfl (lv_at hl 1 rfl) ?_
        obtain ⟨eg24, h⟩ := q_og h
        refine q_iald F hP 18 rfl eg24 dX4_restore_106 ?_
        obtain ⟨eg25, h⟩ := q_og h
        obtain ⟨y26, ey26, h⟩ := q_ol h
        refine q_iast F hP hD hS 5 rfl eg25 (by rw [ey26]; rfl) dX4_restore_107 (fun H locs (hP : va_P (q_D E) vwCl (q_cM E h0 a0 y26 g0) H) hD hS => ?_)
        obtain ⟨x27, ex27, h⟩ := q_ol h
        refine lv_iinc (v := x27) (lv' := [(1, .int x27), (0, .ref h0)]) hx hb dX4_restore_108 hl (k := 1) rfl (by rw [ex27]; rfl) (by decide) rfl (fun ls hl => ?_)
        refine lv_goto (tgt := 55) hx hb dX4_restore_111 (by decide) ?_
        exact ih55 x27 y26 H _ hP hD hS ls (lv_sub hl [1, 0] rfl) h
  unfold zX4_restore at h
  refine lv_aload_n hx hb dX4_restore_0 rfl (lv_at hl 0 rfl) ?_
  refine q_get F q_K4 hP 0 rfl 27 (by decide) q_fX4_229 rfl dX4_restore_1 ?_
  refine lv_if_eq (tgt := 18) hx hb dX4_restore_4 (by decide) (fun c28 => ?_) (fun c28 => ?_)
  · replace h := q_i1 c28 h
    refine lv_bipush (v := (-103)) hx hb dX4_restore_18 (by decide) ?_
    cases h
    exact q_wI F hr hlk dX4_restore_20 hP hD hS
  · replace h := q_i2 c28 h
    refine lv_aload_n hx hb dX4_restore_7 rfl (lv_at hl 0 rfl) ?_
    refine q_get F q_K4 hP 0 rfl 28 (by decide) q_fX4_232 rfl dX4_restore_8 ?_
    refine lv_aload_n hx hb dX4_restore_11 rfl (lv_at hl 0 rfl) ?_
    refine q_get F q_K4 hP 0 rfl 0 (by decide) q_fX4_114 rfl dX4_restore_12 ?_
    refine lv_icmp_eq (tgt := 21) hx hb dX4_restore_15 (by decide) (fun c29 => ?_) (fun c29 => ?_)
    · replace h := q_i1 c29 h
      refine lv_aload_n hx hb dX4_restore_21 rfl (lv_at hl 0 rfl) ?_
      refine lv_aload_n hx hb dX4_restore_22 rfl (lv_at hl 0 rfl) ?_
      refine q_get F q_K4 hP 0 rfl 29 (by decide) q_fX4_235 rfl dX4_restore_23 ?_
      obtain ⟨y30, ey30, h⟩ := q_ol h
      refine q_put F q_K4 hP hD hS 0 rfl 7 (by decide) q_fX4_111 rfl rfl rfl (Nat.le_of_ble_eq_true rfl) (by rw [ey30]; rfl) dX4_restore_26 (fun H locs (hP : va_P (q_D E) vwCl (q_cM E h0 a0 y30 g0) H) hD hS => ?_)
      refine lv_aload_n hx hb dX4_restore_29 rfl (lv_at hl 0 rfl) ?_
      refine lv_aload_n hx hb dX4_restore_30 rfl (lv_at hl 0 rfl) ?_
      refine q_get F q_K4 hP 0 rfl 30 (by decide) q_fX4_238 rfl dX4_restore_31 ?_
      obtain ⟨y31, ey31, h⟩ := q_ol h
      refine q_put F q_K4 hP hD hS 0 rfl 10 (by decide) q_fX4_117 rfl rfl rfl (Nat.le_of_ble_eq_true rfl) (by rw [ey31]; rfl) dX4_restore_34 (fun H locs (hP : va_P (q_D E) vwCl (q_cM E h0 a0 y31 g0) H) hD hS => ?_)
      refine lv_aload_n hx hb dX4_restore_37 rfl (lv_at hl 0 rfl) ?_
      refine lv_aload_n hx hb dX4_restore_38 rfl (lv_at hl 0 rfl) ?_
      refine q_get F q_K4 hP 0 rfl 31 (by decide) q_fX4_241 rfl dX4_restore_39 ?_
      obtain ⟨y32, ey32, h⟩ := q_ol h
      refine q_put F q_K4 hP hD hS 0 rfl 11 (by decide) q_fX4_120 rfl rfl rfl (Nat.le_of_ble_eq_true rfl) (by rw [ey32]; rfl) dX4_restore_42 (fun H locs (hP : va_P (q_D E) vwCl (q_cM E h0 a0 y32 g0) H) hD hS => ?_)
      refine lv_aload_n hx hb dX4_restore_45 rfl (lv_at hl 0 rfl) ?_
      refine lv_aload_n hx hb dX4_restore_46 rfl (lv_at hl 0 rfl) ?_
      refine q_get F q_K4 hP 0 rfl 32 (by decide) q_fX4_244 rfl dX4_restore_47 ?_
      obtain ⟨y33, ey33, h⟩ := q_ol h
      refine q_put F q_K4 hP hD hS 0 rfl 12 (by decide) q_fX4_123 rfl rfl rfl (Nat.le_of_ble_eq_true rfl) (by rw [ey33]; rfl) dX4_restore_50 (fun H locs (hP : va_P (q_D E) vwCl (q_cM E h0 a0 y33 g0) H) hD hS => ?_)
      refine lv_iconst (v := 0) hx hb dX4_restore_53 (by decide) ?_
      refine lv_istore_n (lv' := [(1, .int (0 : Int32)), (0, .ref h0)]) hx hb dX4_restore_54 rfl hl (by decide) rfl (fun ls hl => ?_)
      exact K55 70000 (0 : Int32) y33 H _ hP hD hS ls (lv_sub hl [1, 0] rfl) h
    · replace h := q_i2 c29 h
      refine lv_bipush (v := (-103)) hx hb dX4_restore_18 (by decide) ?_
      cases h
      exact q_wI F hr hlk dX4_restore_20 hP hD hS
def jX4_living_4 (s0 : q_S) (k4 : Int32 → Int32 → Option (Int32)) (v1 : Int32) (v2 : Int32) : Option (Int32) := if (s0 1 0) ≤ v2 then (some v1) else (q_gd (q_ib v2 4) (if (s0 4 v2.toNatClampNeg) = 0 then (q_lt (v1 + (0 : Int32)) fun x4 => q_lt (v2 + 1) fun x5 => k4 x4 x5) else (q_lt (v1 + (1 : Int32)) fun x6 => q_lt (v2 + 1) fun x7 => k4 x6 x7)))
def zX4_living_4 (s0 : q_S) : Nat → Int32 → Int32 → Option (Int32)
  | 0, _, _ => none
  | n + 1, v1, v2 => jX4_living_4 s0 (zX4_living_4 s0 n) v1 v2
theorem zX4_living_4_s (s0 : q_S) (n : Nat) (v1 : Int32) (v2 : Int32) : zX4_living_4 s0 (n + 1) v1 v2 = jX4_living_4 s0 (zX4_living_4 s0 n) v1 v2 := rfl
def zX4_living (s0 : q_S) : Option (Int32) := zX4_living_4 s0 70000 (0 : Int32) (0 : Int32)
set_option maxHeartbeats 4000000 in
set_option maxRecDepth 100000 in
theorem kX4_living (l : Launch) (E : q_E) (h0 : Nat) (a0 : Nat → Nat) (s0 : q_S) (g0 : q_G)  (r : Int32) (h : zX4_living s0 = some r) : q_RO l E yX4_living cX4_living 3 (some .int) 1 [.ref h0] (q_cM E h0 a0 s0 g0) (.int r) := by
  refine q_RO.intro (by decide) (Nat.le_of_ble_eq_true rfl) ?_
  intro p e s m args below meth c X hP ls hl
  obtain ⟨hx, hb, hml, hr, hlk, hown, hB, hE⟩ := X
  have hown : s.vm.findClass RX4 = some m.cls := hown
  have F : q_Fx p s m c E RX4 cX4_living 3 := ⟨hx, hb, hml, hown, hB, hE⟩
  have hV := q_EV.here hE
  have hl : lv_has ls 3 [(0, .ref h0)] := hl
  have K4 : ∀ (n4_ : Nat), ∀ (v1 : Int32) (v2 : Int32), ∀ ls : Array Slot, lv_has ls 3 [(0, .ref h0), (1, .int v1), (2, .int v2)] → zX4_living_4 s0 n4_ v1 v2 = some r → W p l e (q_rm 1) s m args below meth c s.heap [] 0 0 (MQ below (q_roQ (.int r)) args s 0 0 q_no) (F0 m 4 ls []) := by
    intro n4_
    induction n4_ with
    | zero => intro v1 v2 ls hl h; exact q_nn h
    | succ n4_ ih4 =>
      intro v1 v2 ls hl h
      rw [zX4_living_4_s] at h
      unfold jX4_living_4 at h
      refine lv_iload_n hx hb dX4_living_4 rfl (lv_at hl 2 rfl) ?_
      refine lv_aload_n hx hb dX4_living_5 rfl (lv_at hl 0 rfl) ?_
      refine q_get F q_K4 hP 0 rfl 1 (by decide) q_fX4_108 rfl dX4_living_6 ?_
      refine lv_icmp_ge (tgt := 35) hx hb dX4_living_9 (by decide) (fun c1 => ?_) (fun c1 => ?_)
      · replace h := q_i1 c1 h
        refine lv_iload_n hx hb dX4_living_35 rfl (lv_at hl 1 rfl) ?_
        exact q_rI F hr hlk dX4_living_36 h
      · replace h := q_i2 c1 h
        refine lv_iload_n hx hb dX4_living_12 rfl (lv_at hl 1 rfl) ?_
        refine lv_aload_n hx hb dX4_living_13 rfl (lv_at hl 0 rfl) ?_
        refine q_get F q_K4 hP 0 rfl 4 (by decide) q_fX4_16 rfl dX4_living_14 ?_
        refine lv_iload_n hx hb dX4_living_17 rfl (lv_at hl 2 rfl) ?_
        obtain ⟨eg2, h⟩ := q_og h
        refine q_zald F hP 3 rfl eg2 dX4_living_18 ?_
        refine lv_if_eq (tgt := 26) hx hb dX4_living_19 (by decide) (fun c3 => ?_) (fun c3 => ?_)
        · replace h := q_i1 c3 h
          refine lv_iconst (v := 0) hx hb dX4_living_26 (by decide) ?_
          refine lv_iadd hx hb dX4_living_27 ?_
          obtain ⟨x4, ex4, h⟩ := q_ol h
          refine q_top ex4 ?_
          refine lv_istore_n (lv' := [(1, .int x4), (0, .ref h0), (2, .int v2)]) hx hb dX4_living_28 rfl hl (by decide) rfl (fun ls hl => ?_)
          obtain ⟨x5, ex5, h⟩ := q_ol h
          refine lv_iinc (v := x5) (lv' := [(2, .int x5), (1, .int x4), (0, .ref h0)]) hx hb dX4_living_29 hl (k := 2) rfl (by rw [ex5]; rfl) (by decide) rfl (fun ls hl => ?_)
          refine lv_goto (tgt := 4) hx hb dX4_living_32 (by decide) ?_
          exact ih4 x4 x5 ls (lv_sub hl [2, 1, 0] rfl) h
        · replace h := q_i2 c3 h
          refine lv_iconst (v := 1) hx hb dX4_living_22 (by decide) ?_
          refine lv_goto (tgt := 27) hx hb dX4_living_23 (by decide) ?_
          refine lv_iadd hx hb dX4_living_27 ?_
          obtain ⟨x6, ex6, h⟩ := q_ol h
          refine q_top ex6 ?_
          refine lv_istore_n (lv' := [(1, .int x6), (0, .ref h0), (2, .int v2)]) hx hb dX4_living_28 rfl hl (by decide) rfl (fun ls hl => ?_)
          obtain ⟨x7, ex7, h⟩ := q_ol h
          refine lv_iinc (v := x7) (lv' := [(2, .int x7), (1, .int x6), (0, .ref h0)]) hx hb dX4_living_29 hl (k := 2) rfl (by rw [ex7]; rfl) (by decide) rfl (fun ls hl => ?_)
          refine lv_goto (tgt := 4) hx hb dX4_living_32 (by decide) ?_
          exact ih4 x6 x7 ls (lv_sub hl [2, 1, 0] rfl) h
  unfold zX4_living at h
  refine lv_iconst (v := 0) hx hb dX4_living_0 (by decide) ?_
  refine lv_istore_n (lv' := [(1, .int (0 : Int32)), (0, .ref h0)]) hx hb dX4_living_1 rfl hl (by decide) rfl (fun ls hl => ?_)
  refine lv_iconst (v := 0) hx hb dX4_living_2 (by decide) ?_
  refine lv_istore_n (lv' := [(2, .int (0 : Int32)), (1, .int (0 : Int32)), (0, .ref h0)]) hx hb dX4_living_3 rfl hl (by decide) rfl (fun ls hl => ?_)
  exact K4 70000 (0 : Int32) (0 : Int32) ls (lv_sub hl [2, 1, 0] rfl) h
def jX4_paidAll_4 (s0 : q_S) (k4 : Int32 → Int32 → Option (Int32)) (v1 : Int32) (v2 : Int32) : Option (Int32) := if (s0 1 0) ≤ v2 then (some v1) else (q_gd (q_ib v2 4) (q_lt (v1 + (s0 6 v2.toNatClampNeg)) fun x3 => q_lt (v2 + 1) fun x4 => k4 x3 x4))
def zX4_paidAll_4 (s0 : q_S) : Nat → Int32 → Int32 → Option (Int32)
  | 0, _, _ => none
  | n + 1, v1, v2 => jX4_paidAll_4 s0 (zX4_paidAll_4 s0 n) v1 v2
theorem zX4_paidAll_4_s (s0 : q_S) (n : Nat) (v1 : Int32) (v2 : Int32) : zX4_paidAll_4 s0 (n + 1) v1 v2 = jX4_paidAll_4 s0 (zX4_paidAll_4 s0 n) v1 v2 := rfl
def zX4_paidAll (s0 : q_S) : Option (Int32) := zX4_paidAll_4 s0 70000 (0 : Int32) (0 : Int32)
set_option maxHeartbeats 4000000 in
set_option maxRecDepth 100000 in
theorem kX4_paidAll (l : Launch) (E : q_E) (h0 : Nat) (a0 : Nat → Nat) (s0 : q_S) (g0 : q_G)  (r : Int32) (h : zX4_paidAll s0 = some r) : q_RO l E yX4_paidAll cX4_paidAll 3 (some .int) 1 [.ref h0] (q_cM E h0 a0 s0 g0) (.int r) := by
  refine q_RO.intro (by decide) (Nat.le_of_ble_eq_true rfl) ?_
  intro p e s m args below meth c X hP ls hl
  obtain ⟨hx, hb, hml, hr, hlk, hown, hB, hE⟩ := X
  have hown : s.vm.findClass RX4 = some m.cls := hown
  have F : q_Fx p s m c E RX4 cX4_paidAll 3 := ⟨hx, hb, hml, hown, hB, hE⟩
  have hV := q_EV.here hE
  have hl : lv_has ls 3 [(0, .ref h0)] := hl
  have K4 : ∀ (n4_ : Nat), ∀ (v1 : Int32) (v2 : Int32), ∀ ls : Array Slot, lv_has ls 3 [(0, .ref h0), (1, .int v1), (2, .int v2)] → zX4_paidAll_4 s0 n4_ v1 v2 = some r → W p l e (q_rm 1) s m args below meth c s.heap [] 0 0 (MQ below (q_roQ (.int r)) args s 0 0 q_no) (F0 m 4 ls []) := by
    intro n4_
    induction n4_ with
    | zero => intro v1 v2 ls hl h; exact q_nn h
    | succ n4_ ih4 =>
      intro v1 v2 ls hl h
      rw [zX4_paidAll_4_s] at h
      unfold jX4_paidAll_4 at h
      refine lv_iload_n hx hb dX4_paidAll_4 rfl (lv_at hl 2 rfl) ?_
      refine lv_aload_n hx hb dX4_paidAll_5 rfl (lv_at hl 0 rfl) ?_
      refine q_get F q_K4 hP 0 rfl 1 (by decide) q_fX4_108 rfl dX4_paidAll_6 ?_
      refine lv_icmp_ge (tgt := 27) hx hb dX4_paidAll_9 (by decide) (fun c1 => ?_) (fun c1 => ?_)
      · replace h := q_i1 c1 h
        refine lv_iload_n hx hb dX4_paidAll_27 rfl (lv_at hl 1 rfl) ?_
        exact q_rI F hr hlk dX4_paidAll_28 h
      · replace h := q_i2 c1 h
        refine lv_iload_n hx hb dX4_paidAll_12 rfl (lv_at hl 1 rfl) ?_
        refine lv_aload_n hx hb dX4_paidAll_13 rfl (lv_at hl 0 rfl) ?_
        refine q_get F q_K4 hP 0 rfl 6 (by decide) q_fX4_23 rfl dX4_paidAll_14 ?_
        refine lv_iload_n hx hb dX4_paidAll_17 rfl (lv_at hl 2 rfl) ?_
        obtain ⟨eg2, h⟩ := q_og h
        refine q_iald F hP 5 rfl eg2 dX4_paidAll_18 ?_
        refine lv_iadd hx hb dX4_paidAll_19 ?_
        obtain ⟨x3, ex3, h⟩ := q_ol h
        refine q_top ex3 ?_
        refine lv_istore_n (lv' := [(1, .int x3), (0, .ref h0), (2, .int v2)]) hx hb dX4_paidAll_20 rfl hl (by decide) rfl (fun ls hl => ?_)
        obtain ⟨x4, ex4, h⟩ := q_ol h
        refine lv_iinc (v := x4) (lv' := [(2, .int x4), (1, .int x3), (0, .ref h0)]) hx hb dX4_paidAll_21 hl (k := 2) rfl (by rw [ex4]; rfl) (by decide) rfl (fun ls hl => ?_)
        refine lv_goto (tgt := 4) hx hb dX4_paidAll_24 (by decide) ?_
        exact ih4 x3 x4 ls (lv_sub hl [2, 1, 0] rfl) h
  unfold zX4_paidAll at h
  refine lv_iconst (v := 0) hx hb dX4_paidAll_0 (by decide) ?_
  refine lv_istore_n (lv' := [(1, .int (0 : Int32)), (0, .ref h0)]) hx hb dX4_paidAll_1 rfl hl (by decide) rfl (fun ls hl => ?_)
  refine lv_iconst (v := 0) hx hb dX4_paidAll_2 (by decide) ?_
  refine lv_istore_n (lv' := [(2, .int (0 : Int32)), (1, .int (0 : Int32)), (0, .ref h0)]) hx hb dX4_paidAll_3 rfl hl (by decide) rfl (fun ls hl => ?_)
  exact K4 70000 (0 : Int32) (0 : Int32) ls (lv_sub hl [2, 1, 0] rfl) h
def zX4_howMany (s0 : q_S) (v1 : Int32) : Option (Int32) := if v1 = 0 then (some (s0 1 0)) else (if v1 = 1 then (q_b1 (zX4_living s0) fun x3 => some x3) else (if v1 = 2 then (some (s0 7 0)) else (if v1 = 3 then (q_b1 (zX4_leftMany s0) fun x7 => some ((s0 7 0) - x7)) else (if v1 = 4 then (q_b1 (zX4_carriesAll s0) fun x10 => some x10) else (if v1 = 5 then (q_b1 (zX4_paidAll s0) fun x13 => some x13) else (if v1 = 6 then (some (s0 11 0)) else (if v1 = 7 then (some (s0 12 0)) else (if v1 = 8 then (some (s0 17 0)) else (if v1 = 9 then (some (s0 0 0)) else (if v1 = 10 then (some (s0 16 0)) else (some (-102 : Int32))))))))))))
set_option maxHeartbeats 4000000 in
set_option maxRecDepth 100000 in
theorem kX4_howMany (l : Launch) (E : q_E) (h0 : Nat) (a0 : Nat → Nat) (s0 : q_S) (g0 : q_G) (v1 : Int32) (r : Int32) (h : zX4_howMany s0 v1 = some r) : q_RO l E yX4_howMany cX4_howMany 2 (some .int) 3 [.ref h0, .int v1] (q_cM E h0 a0 s0 g0) (.int r) := by
  refine q_RO.intro (by decide) (Nat.le_of_ble_eq_true rfl) ?_
  intro p e s m args below meth c X hP ls hl
  obtain ⟨hx, hb, hml, hr, hlk, hown, hB, hE⟩ := X
  have hown : s.vm.findClass RX4 = some m.cls := hown
  have F : q_Fx p s m c E RX4 cX4_howMany 2 := ⟨hx, hb, hml, hown, hB, hE⟩
  have hV := q_EV.here hE
  have hl : lv_has ls 2 [(0, .ref h0), (1, .int v1)] := hl
  unfold zX4_howMany at h
  refine lv_iload_n hx hb dX4_howMany_0 rfl (lv_at hl 1 rfl) ?_
  by_cases c1 : v1 = 0
  · replace h := q_i1 c1 h
    refine lv_tableIn (off := 59) (tgt := 60) hx hb dX4_howMany_1 (by rw [c1]; decide) (by rw [c1]; decide) (by rw [c1]; rfl) (by decide) ?_
    refine lv_aload_n hx hb dX4_howMany_60 rfl (lv_at hl 0 rfl) ?_
    refine q_get F q_K4 hP 0 rfl 1 (by decide) q_fX4_108 rfl dX4_howMany_61 ?_
    exact q_rI F hr hlk dX4_howMany_64 h
  · replace h := q_i2 c1 h
    by_cases c2 : v1 = 1
    · replace h := q_i1 c2 h
      refine lv_tableIn (off := 64) (tgt := 65) hx hb dX4_howMany_1 (by rw [c2]; decide) (by rw [c2]; decide) (by rw [c2]; rfl) (by decide) ?_
      refine lv_aload_n hx hb dX4_howMany_65 rfl (lv_at hl 0 rfl) ?_
      obtain ⟨x3, c4, h⟩ := q_o1 h
      refine q_roV F (kX4_living l E h0 a0 s0 g0 x3 c4) q_cX4_living q_lX4_247 hV hP ⟨by decide, by decide⟩ (q0 := 0) rfl rfl rfl rfl ⟨_, hl⟩ (rest := []) rfl (Nat.le_of_ble_eq_true rfl) dX4_howMany_66 ?_
      exact q_rI F hr hlk dX4_howMany_69 h
    · replace h := q_i2 c2 h
      by_cases c5 : v1 = 2
      · replace h := q_i1 c5 h
        refine lv_tableIn (off := 69) (tgt := 70) hx hb dX4_howMany_1 (by rw [c5]; decide) (by rw [c5]; decide) (by rw [c5]; rfl) (by decide) ?_
        refine lv_aload_n hx hb dX4_howMany_70 rfl (lv_at hl 0 rfl) ?_
        refine q_get F q_K4 hP 0 rfl 7 (by decide) q_fX4_111 rfl dX4_howMany_71 ?_
        exact q_rI F hr hlk dX4_howMany_74 h
      · replace h := q_i2 c5 h
        by_cases c6 : v1 = 3
        · replace h := q_i1 c6 h
          refine lv_tableIn (off := 74) (tgt := 75) hx hb dX4_howMany_1 (by rw [c6]; decide) (by rw [c6]; decide) (by rw [c6]; rfl) (by decide) ?_
          refine lv_aload_n hx hb dX4_howMany_75 rfl (lv_at hl 0 rfl) ?_
          refine q_get F q_K4 hP 0 rfl 7 (by decide) q_fX4_111 rfl dX4_howMany_76 ?_
          refine lv_aload_n hx hb dX4_howMany_79 rfl (lv_at hl 0 rfl) ?_
          obtain ⟨x7, c8, h⟩ := q_o1 h
          refine q_roV F (kX4_leftMany l E h0 a0 s0 g0 x7 c8) q_cX4_leftMany q_lX4_191 hV hP ⟨by decide, by decide⟩ (q0 := 0) rfl rfl rfl rfl ⟨_, hl⟩ (rest := [.int (s0 7 0)]) rfl (Nat.le_of_ble_eq_true rfl) dX4_howMany_80 ?_
          refine lv_isub hx hb dX4_howMany_83 ?_
          exact q_rI F hr hlk dX4_howMany_84 h
        · replace h := q_i2 c6 h
          by_cases c9 : v1 = 4
          · replace h := q_i1 c9 h
            refine lv_tableIn (off := 84) (tgt := 85) hx hb dX4_howMany_1 (by rw [c9]; decide) (by rw [c9]; decide) (by rw [c9]; rfl) (by decide) ?_
            refine lv_aload_n hx hb dX4_howMany_85 rfl (lv_at hl 0 rfl) ?_
            obtain ⟨x10, c11, h⟩ := q_o1 h
            refine q_roV F (kX4_carriesAll l E h0 a0 s0 g0 x10 c11) q_cX4_carriesAll q_lX4_184 hV hP ⟨by decide, by decide⟩ (q0 := 0) rfl rfl rfl rfl ⟨_, hl⟩ (rest := []) rfl (Nat.le_of_ble_eq_true rfl) dX4_howMany_86 ?_
            exact q_rI F hr hlk dX4_howMany_89 h
          · replace h := q_i2 c9 h
            by_cases c12 : v1 = 5
            · replace h := q_i1 c12 h
              refine lv_tableIn (off := 89) (tgt := 90) hx hb dX4_howMany_1 (by rw [c12]; decide) (by rw [c12]; decide) (by rw [c12]; rfl) (by decide) ?_
              refine lv_aload_n hx hb dX4_howMany_90 rfl (lv_at hl 0 rfl) ?_
              obtain ⟨x13, c14, h⟩ := q_o1 h
              refine q_roV F (kX4_paidAll l E h0 a0 s0 g0 x13 c14) q_cX4_paidAll q_lX4_250 hV hP ⟨by decide, by decide⟩ (q0 := 0) rfl rfl rfl rfl ⟨_, hl⟩ (rest := []) rfl (Nat.le_of_ble_eq_true rfl) dX4_howMany_91 ?_
              exact q_rI F hr hlk dX4_howMany_94 h
            · replace h := q_i2 c12 h
              by_cases c15 : v1 = 6
              · replace h := q_i1 c15 h
                refine lv_tableIn (off := 94) (tgt := 95) hx hb dX4_howMany_1 (by rw [c15]; decide) (by rw [c15]; decide) (by rw [c15]; rfl) (by decide) ?_
                refine lv_aload_n hx hb dX4_howMany_95 rfl (lv_at hl 0 rfl) ?_
                refine q_get F q_K4 hP 0 rfl 11 (by decide) q_fX4_120 rfl dX4_howMany_96 ?_
                exact q_rI F hr hlk dX4_howMany_99 h
              · replace h := q_i2 c15 h
                by_cases c16 : v1 = 7
                · replace h := q_i1 c16 h
                  refine lv_tableIn (off := 99) (tgt := 100) hx hb dX4_howMany_1 (by rw [c16]; decide) (by rw [c16]; decide) (by rw [c16]; rfl) (by decide) ?_
                  refine lv_aload_n hx hb dX4_howMany_100 rfl (lv_at hl 0 rfl) ?_
                  refine q_get F q_K4 hP 0 rfl 12 (by decide) q_fX4_123 rfl dX4_howMany_101 ?_
                  exact q_rI F hr hlk dX4_howMany_104 h
                · replace h := q_i2 c16 h
                  by_cases c17 : v1 = 8
                  · replace h := q_i1 c17 h
                    refine lv_tableIn (off := 104) (tgt := 105) hx hb dX4_howMany_1 (by rw [c17]; decide) (by rw [c17]; decide) (by rw [c17]; rfl) (by decide) ?_
                    refine lv_aload_n hx hb dX4_howMany_105 rfl (lv_at hl 0 rfl) ?_
                    refine q_get F q_K4 hP 0 rfl 17 (by decide) q_fX4_79 rfl dX4_howMany_106 ?_
                    exact q_rI F hr hlk dX4_howMany_109 h
                  · replace h := q_i2 c17 h
                    by_cases c18 : v1 = 9
                    · replace h := q_i1 c18 h
                      refine lv_tableIn (off := 109) (tgt := 110) hx hb dX4_howMany_1 (by rw [c18]; decide) (by rw [c18]; decide) (by rw [c18]; rfl) (by decide) ?_
                      refine lv_aload_n hx hb dX4_howMany_110 rfl (lv_at hl 0 rfl) ?_
                      refine q_get F q_K4 hP 0 rfl 0 (by decide) q_fX4_114 rfl dX4_howMany_111 ?_
                      exact q_rI F hr hlk dX4_howMany_114 h
                    · replace h := q_i2 c18 h
                      by_cases c19 : v1 = 10
                      · replace h := q_i1 c19 h
                        refine lv_tableIn (off := 114) (tgt := 115) hx hb dX4_howMany_1 (by rw [c19]; decide) (by rw [c19]; decide) (by rw [c19]; rfl) (by decide) ?_
                        refine lv_aload_n hx hb dX4_howMany_115 rfl (lv_at hl 0 rfl) ?_
                        refine q_get F q_K4 hP 0 rfl 16 (by decide) q_fX4_197 rfl dX4_howMany_116 ?_
                        exact q_rI F hr hlk dX4_howMany_119 h
                      · replace h := q_i2 c19 h
                        refine lv_tableOut (tgt := 120) hx hb dX4_howMany_1 (by have zc1 := lv_neT c1 (a := 0) (by decide); have zc2 := lv_neT c2 (a := 1) (by decide); have zc5 := lv_neT c5 (a := 2) (by decide); have zc6 := lv_neT c6 (a := 3) (by decide); have zc9 := lv_neT c9 (a := 4) (by decide); have zc12 := lv_neT c12 (a := 5) (by decide); have zc15 := lv_neT c15 (a := 6) (by decide); have zc16 := lv_neT c16 (a := 7) (by decide); have zc17 := lv_neT c17 (a := 8) (by decide); have zc18 := lv_neT c18 (a := 9) (by decide); have zc19 := lv_neT c19 (a := 10) (by decide); omega) (by decide) ?_
                        refine lv_bipush (v := (-102)) hx hb dX4_howMany_120 (by decide) ?_
                        exact q_rI F hr hlk dX4_howMany_122 h
def zX4_count (s0 : q_S) (v1 : Int32) : Option (Int32) := q_b1 (zX4_howMany s0 v1) fun x1 => some x1
set_option maxHeartbeats 4000000 in
set_option maxRecDepth 100000 in
theorem kX4_count (l : Launch) (E : q_E) (h0 : Nat) (a0 : Nat → Nat) (s0 : q_S) (g0 : q_G) (v1 : Int32) (r : Int32) (h : zX4_count s0 v1 = some r) : q_RO l E yX4_count cX4_count 2 (some .int) 4 [.ref h0, .int v1] (q_cM E h0 a0 s0 g0) (.int r) := by
  refine q_RO.intro (by decide) (Nat.le_of_ble_eq_true rfl) ?_
  intro p e s m args below meth c X hP ls hl
  obtain ⟨hx, hb, hml, hr, hlk, hown, hB, hE⟩ := X
  have hown : s.vm.findClass RX4 = some m.cls := hown
  have F : q_Fx p s m c E RX4 cX4_count 2 := ⟨hx, hb, hml, hown, hB, hE⟩
  have hV := q_EV.here hE
  have hl : lv_has ls 2 [(0, .ref h0), (1, .int v1)] := hl
  unfold zX4_count at h
  refine lv_aload_n hx hb dX4_count_0 rfl (lv_at hl 0 rfl) ?_
  refine lv_iload_n hx hb dX4_count_1 rfl (lv_at hl 1 rfl) ?_
  obtain ⟨x1, c2, h⟩ := q_o1 h
  refine q_roV F (kX4_howMany l E h0 a0 s0 g0 v1 x1 c2) q_cX4_howMany q_lX4_253 hV hP ⟨by decide, by decide⟩ (q0 := 0) rfl rfl rfl rfl ⟨_, hl⟩ (rest := []) rfl (Nat.le_of_ble_eq_true rfl) dX4_count_2 ?_
  exact q_rI F hr hlk dX4_count_5 h
def zX4_mix (g0 : q_G) (v1 : Int64) : Option (q_G) := q_lt (q_ul g0 40 (((31 : Int64) * (g0 40)) + v1)) fun y1 => some y1
set_option maxHeartbeats 4000000 in
set_option maxRecDepth 100000 in
theorem kX4_mix (l : Launch) (E : q_E) (h0 : Nat) (a0 : Nat → Nat) (s0 : q_S) (g0 : q_G) (v1 : Int64) (sz : Nat) (rg0 : q_G) (h : zX4_mix g0 v1 = some rg0) : q_MU l E yX4_mix cX4_mix 3 none 1 [.ref h0, .long v1] sz (q_cM E h0 a0 s0 g0) (q_cM E h0 a0 s0 rg0) none := by
  refine q_MU.intro (by decide) (Nat.le_of_ble_eq_true rfl) ?_
  intro p e s m args below meth c A X hP hD hA hAl ls hl
  obtain ⟨hx, hb, hml, hr, hlk, hown, hB, hE⟩ := X
  have hown : s.vm.findClass RX4 = some m.cls := hown
  have F : q_Fx p s m c E RX4 cX4_mix 3 := ⟨hx, hb, hml, hown, hB, hE⟩
  have hS : va_S A s.heap s.heap [] := va_S.rf
  have hl : lv_has ls 3 [(0, .ref h0), (1, .long v1)] := hl
  unfold zX4_mix at h
  refine lv_aload_n hx hb dX4_mix_0 rfl (lv_at hl 0 rfl) ?_
  refine lv_ldc2 (v := 31) hx hb hown (hB _ q_kX4_256 _) dX4_mix_1 ?_
  refine lv_aload_n hx hb dX4_mix_4 rfl (lv_at hl 0 rfl) ?_
  refine q_get F q_K4 hP 0 rfl 40 (by decide) q_fX4_258 rfl dX4_mix_5 ?_
  refine lv_lmul hx hb dX4_mix_8 ?_
  refine lv_lload_n hx hb dX4_mix_9 rfl (lv_at hl 1 rfl) ?_
  refine lv_ladd hx hb dX4_mix_10 ?_
  obtain ⟨y1, ey1, h⟩ := q_ol h
  refine q_put F q_K4 hP hD hS 0 rfl 40 (by decide) q_fX4_258 rfl rfl rfl (Nat.le_of_ble_eq_true rfl) (by rw [ey1]; rfl) dX4_mix_11 (fun H locs (hP : va_P (q_D E) vwCl (q_cM E h0 a0 s0 y1) H) hD hS => ?_)
  cases h
  exact q_wV F hr hlk dX4_mix_14 hP hD hS
def jX4_digest_117 (s0 : q_S) (k117 : q_G → Int32 → Option (Int64 × q_G × q_S)) (g0 : q_G) (v1 : Int32) : Option (Int64 × q_G × q_S) := if (11 : Int32) ≤ v1 then (some ((g0 40), g0, s0)) else (q_b1 (zX4_howMany s0 v1) fun x2 => q_b1 (zX4_mix g0 x2.toInt64) fun y4 => q_lt (v1 + 1) fun x6 => k117 y4 x6)
def zX4_digest_117 (s0 : q_S) : Nat → q_G → Int32 → Option (Int64 × q_G × q_S)
  | 0, _, _ => none
  | n + 1, g0, v1 => jX4_digest_117 s0 (zX4_digest_117 s0 n) g0 v1
theorem zX4_digest_117_s (s0 : q_S) (n : Nat) (g0 : q_G) (v1 : Int32) : zX4_digest_117 s0 (n + 1) g0 v1 = jX4_digest_117 s0 (zX4_digest_117 s0 n) g0 v1 := rfl
def jX4_digest_90 (s0 : q_S) (k90 : q_G → Int32 → Option (Int64 × q_G × q_S)) (g0 : q_G) (v1 : Int32) : Option (Int64 × q_G × q_S) := if (s0 17 0) ≤ v1 then (zX4_digest_117 s0 70000 g0 (0 : Int32)) else (q_gd (q_ib v1 24) (q_b1 (zX4_mix g0 ((s0 18 v1.toNatClampNeg).toInt64)) fun y9 => q_lt (v1 + 1) fun x11 => k90 y9 x11))
def zX4_digest_90 (s0 : q_S) : Nat → q_G → Int32 → Option (Int64 × q_G × q_S)
  | 0, _, _ => none
  | n + 1, g0, v1 => jX4_digest_90 s0 (zX4_digest_90 s0 n) g0 v1
theorem zX4_digest_90_s (s0 : q_S) (n : Nat) (g0 : q_G) (v1 : Int32) : zX4_digest_90 s0 (n + 1) g0 v1 = jX4_digest_90 s0 (zX4_digest_90 s0 n) g0 v1 := rfl
def jX4_digest_60 (k50 : q_S → q_G → Int32 → Option (Int64 × q_G × q_S)) (v1 : Int32) (k60 : q_S → q_G → Int32 → Option (Int64 × q_G × q_S)) (s0 : q_S) (g0 : q_G) (v2 : Int32) : Option (Int64 × q_G × q_S) := if (5 : Int32) ≤ v2 then (q_lt (v1 + 1) fun x13 => k50 s0 g0 x13) else (q_b2 (zX4_loafNow s0 v1 v2) fun x14 y15 => q_b1 (zX4_mix g0 x14.toInt64) fun y17 => q_lt (v2 + 1) fun x19 => k60 y15 y17 x19)
def zX4_digest_60 (k50 : q_S → q_G → Int32 → Option (Int64 × q_G × q_S)) (v1 : Int32) : Nat → q_S → q_G → Int32 → Option (Int64 × q_G × q_S)
  | 0, _, _, _ => none
  | n + 1, s0, g0, v2 => jX4_digest_60 k50 v1 (zX4_digest_60 k50 v1 n) s0 g0 v2
theorem zX4_digest_60_s (k50 : q_S → q_G → Int32 → Option (Int64 × q_G × q_S)) (v1 : Int32) (n : Nat) (s0 : q_S) (g0 : q_G) (v2 : Int32) : zX4_digest_60 k50 v1 (n + 1) s0 g0 v2 = jX4_digest_60 k50 v1 (zX4_digest_60 k50 v1 n) s0 g0 v2 := rfl
def jX4_digest_50 (k50 : q_S → q_G → Int32 → Option (Int64 × q_G × q_S)) (s0 : q_S) (g0 : q_G) (v1 : Int32) : Option (Int64 × q_G × q_S) := if (s0 7 0) ≤ v1 then (zX4_digest_90 s0 70000 g0 (0 : Int32)) else (zX4_digest_60 k50 v1 70000 s0 g0 (0 : Int32))
def zX4_digest_50  : Nat → q_S → q_G → Int32 → Option (Int64 × q_G × q_S)
  | 0, _, _, _ => none
  | n + 1, s0, g0, v1 => jX4_digest_50  (zX4_digest_50  n) s0 g0 v1
theorem zX4_digest_50_s  (n : Nat) (s0 : q_S) (g0 : q_G) (v1 : Int32) : zX4_digest_50  (n + 1) s0 g0 v1 = jX4_digest_50  (zX4_digest_50  n) s0 g0 v1 := rfl
def jX4_digest_19 (k9 : q_S → q_G → Int32 → Option (Int64 × q_G × q_S)) (v1 : Int32) (k19 : q_S → q_G → Int32 → Option (Int64 × q_G × q_S)) (s0 : q_S) (g0 : q_G) (v2 : Int32) : Option (Int64 × q_G × q_S) := if (8 : Int32) ≤ v2 then (q_lt (v1 + 1) fun x22 => k9 s0 g0 x22) else (q_b2 (zX4_eaterNow s0 v1 v2) fun x23 y24 => q_b1 (zX4_mix g0 x23.toInt64) fun y26 => q_lt (v2 + 1) fun x28 => k19 y24 y26 x28)
def zX4_digest_19 (k9 : q_S → q_G → Int32 → Option (Int64 × q_G × q_S)) (v1 : Int32) : Nat → q_S → q_G → Int32 → Option (Int64 × q_G × q_S)
  | 0, _, _, _ => none
  | n + 1, s0, g0, v2 => jX4_digest_19 k9 v1 (zX4_digest_19 k9 v1 n) s0 g0 v2
theorem zX4_digest_19_s (k9 : q_S → q_G → Int32 → Option (Int64 × q_G × q_S)) (v1 : Int32) (n : Nat) (s0 : q_S) (g0 : q_G) (v2 : Int32) : zX4_digest_19 k9 v1 (n + 1) s0 g0 v2 = jX4_digest_19 k9 v1 (zX4_digest_19 k9 v1 n) s0 g0 v2 := rfl
def jX4_digest_9 (k9 : q_S → q_G → Int32 → Option (Int64 × q_G × q_S)) (s0 : q_S) (g0 : q_G) (v1 : Int32) : Option (Int64 × q_G × q_S) := if (s0 1 0) ≤ v1 then (zX4_digest_50  70000 s0 g0 (0 : Int32)) else (zX4_digest_19 k9 v1 70000 s0 g0 (0 : Int32))
def zX4_digest_9  : Nat → q_S → q_G → Int32 → Option (Int64 × q_G × q_S)
  | 0, _, _, _ => none
  | n + 1, s0, g0, v1 => jX4_digest_9  (zX4_digest_9  n) s0 g0 v1
theorem zX4_digest_9_s  (n : Nat) (s0 : q_S) (g0 : q_G) (v1 : Int32) : zX4_digest_9  (n + 1) s0 g0 v1 = jX4_digest_9  (zX4_digest_9  n) s0 g0 v1 := rfl
def zX4_digest (s0 : q_S) (g0 : q_G) : Option (Int64 × q_G × q_S) := q_lt (q_ul g0 40 (1019 : Int64)) fun y30 => zX4_digest_9  70000 s0 y30 (0 : Int32)
set_option maxHeartbeats 4000000 in
set_option maxRecDepth 100000 in
theorem kX4_digest (l : Launch) (E : q_E) (h0 : Nat) (a0 : Nat → Nat) (s0 : q_S) (g0 : q_G)  (sz : Nat) (r : Int64) (rg0 : q_G) (rs0 : q_S) (h : zX4_digest s0 g0 = some (r, rg0, rs0)) : q_MU l E yX4_digest cX4_digest 3 (some .long) 7 [.ref h0] sz (q_cM E h0 a0 s0 g0) (q_cM E h0 a0 rs0 rg0) (some (.long r)) := by
  refine q_MU.intro (by decide) (Nat.le_of_ble_eq_true rfl) ?_
  intro p e s m args below meth c A X hP hD hA hAl ls hl
  obtain ⟨hx, hb, hml, hr, hlk, hown, hB, hE⟩ := X
  have hown : s.vm.findClass RX4 = some m.cls := hown
  have F : q_Fx p s m c E RX4 cX4_digest 3 := ⟨hx, hb, hml, hown, hB, hE⟩
  have hS : va_S A s.heap s.heap [] := va_S.rf
  have hl : lv_has ls 3 [(0, .ref h0)] := hl
  have K117 : ∀ (n117_ : Nat), ∀ (v1 : Int32) (g0 : q_G) (s0 : q_S), ∀ (H : Heap) (locs : List Loc), va_P (q_D E) vwCl (q_cM E h0 a0 s0 g0) H → va_D A (q_cM E h0 a0 s0 g0) → va_S A s.heap H locs → ∀ ls : Array Slot, lv_has ls 3 [(0, .ref h0), (1, .int v1)] → zX4_digest_117 s0 n117_ g0 v1 = some (r, rg0, rs0) → W p l e (q_rm 7) s m args below meth c H locs 0 0 (MQ below (q_muQ E A (q_cM E h0 a0 rs0 rg0) (some (.long r))) args s 0 0 A) (F0 m 117 ls []) := by
    intro n117_
    induction n117_ with
    | zero => intro v1 g0 s0 H locs hP hD hS ls hl h; exact q_nn h
    | succ n117_ ih117 =>
      intro v1 g0 s0 H locs hP hD hS ls hl h
      rw [zX4_digest_117_s] at h
      unfold jX4_digest_117 at h
      refine lv_iload_n hx hb dX4_digest_117 rfl (lv_at hl 1 rfl) ?_
      refine lv_bipush (v := 11) hx hb dX4_digest_118 (by decide) ?_
      refine lv_icmp_ge (tgt := 139) hx hb dX4_digest_120 (by decide) (fun c1 => ?_) (fun c1 => ?_)
      · replace h := q_i1 c1 h
        refine lv_aload_n hx hb dX4_digest_139 rfl (lv_at hl 0 rfl) ?_
        refine q_get F q_K4 hP 0 rfl 40 (by decide) q_fX4_258 rfl dX4_digest_140 ?_
        cases h
        exact q_wL F hr hlk dX4_digest_143 hP hD hS
      · replace h := q_i2 c1 h
        refine lv_aload_n hx hb dX4_digest_123 rfl (lv_at hl 0 rfl) ?_
        refine lv_aload_n hx hb dX4_digest_124 rfl (lv_at hl 0 rfl) ?_
        refine lv_iload_n hx hb dX4_digest_125 rfl (lv_at hl 1 rfl) ?_
        obtain ⟨x2, c3, h⟩ := q_o1 h
        refine q_roV F (kX4_howMany l E h0 a0 s0 g0 v1 x2 c3) q_cX4_howMany q_lX4_253 (q_EV.go F.2.2.2.2.2 hAl hS) hP ⟨by decide, by decide⟩ (q0 := 0) rfl rfl rfl rfl ⟨_, hl⟩ (rest := [.ref h0]) rfl (Nat.le_of_ble_eq_true rfl) dX4_digest_126 ?_
        refine lv_i2l hx hb dX4_digest_129 rfl ?_
        obtain ⟨y4, c5, h⟩ := q_o1 h
        refine q_muV F (kX4_mix l E h0 a0 s0 g0 x2.toInt64 H.size y4 c5) q_cX4_mix q_lX4_263 (q_s_M_M_0w E h0 a0 s0 g0 s0 y4) hP hD hS hA hAl ⟨by decide, by decide⟩ (q0 := 0) rfl rfl rfl rfl ⟨_, hl⟩ (rest := []) rfl (Nat.le_of_ble_eq_true rfl) dX4_digest_130 (fun H locs (hP : va_P (q_D E) vwCl (q_cM E h0 a0 s0 y4) H) hD hS => ?_)
        obtain ⟨x6, ex6, h⟩ := q_ol h
        refine lv_iinc (v := x6) (lv' := [(1, .int x6), (0, .ref h0)]) hx hb dX4_digest_133 hl (k := 1) rfl (by rw [ex6]; rfl) (by decide) rfl (fun ls hl => ?_)
        refine lv_goto (tgt := 117) hx hb dX4_digest_136 (by decide) ?_
        exact ih117 x6 y4 s0 H _ hP hD hS ls (lv_sub hl [1, 0] rfl) h
  have K90 : ∀ (n90_ : Nat), ∀ (v1 : Int32) (g0 : q_G) (s0 : q_S), ∀ (H : Heap) (locs : List Loc), va_P (q_D E) vwCl (q_cM E h0 a0 s0 g0) H → va_D A (q_cM E h0 a0 s0 g0) → va_S A s.heap H locs → ∀ ls : Array Slot, lv_has ls 3 [(0, .ref h0), (1, .int v1)] → zX4_digest_90 s0 n90_ g0 v1 = some (r, rg0, rs0) → W p l e (q_rm 7) s m args below meth c H locs 0 0 (MQ below (q_muQ E A (q_cM E h0 a0 rs0 rg0) (some (.long r))) args s 0 0 A) (F0 m 90 ls []) := by
    intro n90_
    induction n90_ with
    | zero => intro v1 g0 s0 H locs hP hD hS ls hl h; exact q_nn h
    | succ n90_ ih90 =>
      intro v1 g0 s0 H locs hP hD hS ls hl h
      rw [zX4_digest_90_s] at h
      unfold jX4_digest_90 at h
      refine lv_iload_n hx hb dX4_digest_90 rfl (lv_at hl 1 rfl) ?_
      refine lv_aload_n hx hb dX4_digest_91 rfl (lv_at hl 0 rfl) ?_
      refine q_get F q_K4 hP 0 rfl 17 (by decide) q_fX4_79 rfl dX4_digest_92 ?_
      refine lv_icmp_ge (tgt := 115) hx hb dX4_digest_95 (by decide) (fun c7 => ?_) (fun c7 => ?_)
      · replace h := q_i1 c7 h
        refine lv_iconst (v := 0) hx hb dX4_digest_115 (by decide) ?_
        refine lv_istore_n (lv' := [(1, .int (0 : Int32)), (0, .ref h0)]) hx hb dX4_digest_116 rfl hl (by decide) rfl (fun ls hl => ?_)
        exact K117 70000 (0 : Int32) g0 s0 H _ hP hD hS ls (lv_sub hl [1, 0] rfl) h
      · replace h := q_i2 c7 h
        refine lv_aload_n hx hb dX4_digest_98 rfl (lv_at hl 0 rfl) ?_
        refine lv_aload_n hx hb dX4_digest_99 rfl (lv_at hl 0 rfl) ?_
        refine q_get F q_K4 hP 0 rfl 18 (by decide) q_fX4_41 rfl dX4_digest_100 ?_
        refine lv_iload_n hx hb dX4_digest_103 rfl (lv_at hl 1 rfl) ?_
        obtain ⟨eg8, h⟩ := q_og h
        refine q_bald F hP 11 rfl eg8 dX4_digest_104 ?_
        refine lv_i2l hx hb dX4_digest_105 rfl ?_
        obtain ⟨y9, c10, h⟩ := q_o1 h
        refine q_muV F (kX4_mix l E h0 a0 s0 g0 ((s0 18 v1.toNatClampNeg).toInt64) H.size y9 c10) q_cX4_mix q_lX4_263 (q_s_M_M_0w E h0 a0 s0 g0 s0 y9) hP hD hS hA hAl ⟨by decide, by decide⟩ (q0 := 0) rfl rfl rfl rfl ⟨_, hl⟩ (rest := []) rfl (Nat.le_of_ble_eq_true rfl) dX4_digest_106 (fun H locs (hP : va_P (q_D E) vwCl (q_cM E h0 a0 s0 y9) H) hD hS => ?_)
        obtain ⟨x11, ex11, h⟩ := q_ol h
        refine lv_iinc (v := x11) (lv' := [(1, .int x11), (0, .ref h0)]) hx hb dX4_digest_109 hl (k := 1) rfl (by rw [ex11]; rfl) (by decide) rfl (fun ls hl => ?_)
        refine lv_goto (tgt := 90) hx hb dX4_digest_112 (by decide) ?_
        exact ih90 x11 y9 s0 H _ hP hD hS ls (lv_sub hl [1, 0] rfl) h
  have K50 : ∀ (n50_ : Nat), ∀ (v1 : Int32) (g0 : q_G) (s0 : q_S), ∀ (H : Heap) (locs : List Loc), va_P (q_D E) vwCl (q_cM E h0 a0 s0 g0) H → va_D A (q_cM E h0 a0 s0 g0) → va_S A s.heap H locs → ∀ ls : Array Slot, lv_has ls 3 [(0, .ref h0), (1, .int v1)] → zX4_digest_50  n50_ s0 g0 v1 = some (r, rg0, rs0) → W p l e (q_rm 7) s m args below meth c H locs 0 0 (MQ below (q_muQ E A (q_cM E h0 a0 rs0 rg0) (some (.long r))) args s 0 0 A) (F0 m 50 ls []) := by
    intro n50_
    induction n50_ with
    | zero => intro v1 g0 s0 H locs hP hD hS ls hl h; exact q_nn h
    | succ n50_ ih50 =>
      have K60 : ∀ (n60_ : Nat), ∀ (v1 : Int32) (v2 : Int32) (g0 : q_G) (s0 : q_S), ∀ (H : Heap) (locs : List Loc), va_P (q_D E) vwCl (q_cM E h0 a0 s0 g0) H → va_D A (q_cM E h0 a0 s0 g0) → va_S A s.heap H locs → ∀ ls : Array Slot, lv_has ls 3 [(0, .ref h0), (1, .int v1), (2, .int v2)] → zX4_digest_60 (zX4_digest_50 n50_) v1 n60_ s0 g0 v2 = some (r, rg0, rs0) → W p l e (q_rm 7) s m args below meth c H locs 0 0 (MQ below (q_muQ E A (q_cM E h0 a0 rs0 rg0) (some (.long r))) args s 0 0 A) (F0 m 60 ls []) := by
        intro n60_
        induction n60_ with
        | zero => intro v1 v2 g0 s0 H locs hP hD hS ls hl h; exact q_nn h
        | succ n60_ ih60 =>
          intro v1 v2 g0 s0 H locs hP hD hS ls hl h
          rw [zX4_digest_60_s] at h
          unfold jX4_digest_60 at h
          refine lv_iload_n hx hb dX4_digest_60 rfl (lv_at hl 2 rfl) ?_
          refine lv_iconst (v := 5) hx hb dX4_digest_61 (by decide) ?_
          refine lv_icmp_ge (tgt := 82) hx hb dX4_digest_62 (by decide) (fun c12 => ?_) (fun c12 => ?_)
          · replace h := q_i1 c12 h
            obtain ⟨x13, ex13, h⟩ := q_ol h
            refine lv_iinc (v := x13) (lv' := [(1, .int x13), (0, .ref h0), (2, .int v2)]) hx hb dX4_digest_82 hl (k := 1) rfl (by rw [ex13]; rfl) (by decide) rfl (fun ls hl => ?_)
            refine lv_goto (tgt := 50) hx hb dX4_digest_85 (by decide) ?_
            exact ih50 x13 g0 s0 H _ hP hD hS ls (lv_sub hl [1, 0] rfl) h
          · replace h := q_i2 c12 h
            refine lv_aload_n hx hb dX4_digest_65 rfl (lv_at hl 0 rfl) ?_
            refine lv_aload_n hx hb dX4_digest_66 rfl (lv_at hl 0 rfl) ?_
            refine lv_iload_n hx hb dX4_digest_67 rfl (lv_at hl 1 rfl) ?_
            refine lv_iload_n hx hb dX4_digest_68 rfl (lv_at hl 2 rfl) ?_
            obtain ⟨x14, y15, c16, h⟩ := q_o2 h
            refine q_muV F (kX4_loafNow l E h0 a0 s0 g0 v1 v2 H.size x14 y15 c16) q_cX4_loafNow q_lX4_178 (q_s_M_M_0w E h0 a0 s0 g0 y15 g0) hP hD hS hA hAl ⟨by decide, by decide⟩ (q0 := 0) rfl rfl rfl rfl ⟨_, hl⟩ (rest := [.ref h0]) rfl (Nat.le_of_ble_eq_true rfl) dX4_digest_69 (fun H locs (hP : va_P (q_D E) vwCl (q_cM E h0 a0 y15 g0) H) hD hS => ?_)
            refine lv_i2l hx hb dX4_digest_72 rfl ?_
            obtain ⟨y17, c18, h⟩ := q_o1 h
            refine q_muV F (kX4_mix l E h0 a0 y15 g0 x14.toInt64 H.size y17 c18) q_cX4_mix q_lX4_263 (q_s_M_M_0w E h0 a0 y15 g0 y15 y17) hP hD hS hA hAl ⟨by decide, by decide⟩ (q0 := 0) rfl rfl rfl rfl ⟨_, hl⟩ (rest := []) rfl (Nat.le_of_ble_eq_true rfl) dX4_digest_73 (fun H locs (hP : va_P (q_D E) vwCl (q_cM E h0 a0 y15 y17) H) hD hS => ?_)
            obtain ⟨x19, ex19, h⟩ := q_ol h
            refine lv_iinc (v := x19) (lv' := [(2, .int x19), (0, .ref h0), (1, .int v1)]) hx hb dX4_digest_76 hl (k := 2) rfl (by rw [ex19]; rfl) (by decide) rfl (fun ls hl => ?_)
            refine lv_goto (tgt := 60) hx hb dX4_digest_79 (by decide) ?_
            exact ih60 v1 x19 y17 y15 H _ hP hD hS ls (lv_sub hl [1, 2, 0] rfl) h
      intro v1 g0 s0 H locs hP hD hS ls hl h
      rw [zX4_digest_50_s] at h
      unfold jX4_digest_50 at h
      refine lv_iload_n hx hb dX4_digest_50 rfl (lv_at hl 1 rfl) ?_
      refine lv_aload_n hx hb dX4_digest_51 rfl (lv_at hl 0 rfl) ?_
      refine q_get F q_K4 hP 0 rfl 7 (by decide) q_fX4_111 rfl dX4_digest_52 ?_
      refine lv_icmp_ge (tgt := 88) hx hb dX4_digest_55 (by decide) (fun c20 => ?_) (fun c20 => ?_)
      · replace h := q_i1 c20 h
        refine lv_iconst (v := 0) hx hb dX4_digest_88 (by decide) ?_
        refine lv_istore_n (lv' := [(1, .int (0 : Int32)), (0, .ref h0)]) hx hb dX4_digest_89 rfl hl (by decide) rfl (fun ls hl => ?_)
        exact K90 70000 (0 : Int32) g0 s0 H _ hP hD hS ls (lv_sub hl [1, 0] rfl) h
      · replace h := q_i2 c20 h
        refine lv_iconst (v := 0) hx hb dX4_digest_58 (by decide) ?_
        refine lv_istore_n (lv' := [(2, .int (0 : Int32)), (0, .ref h0), (1, .int v1)]) hx hb dX4_digest_59 rfl hl (by decide) rfl (fun ls hl => ?_)
        exact K60 70000 v1 (0 : Int32) g0 s0 H _ hP hD hS ls (lv_sub hl [1, 2, 0] rfl) h
  have K9 : ∀ (n9_ : Nat), ∀ (v1 : Int32) (g0 : q_G) (s0 : q_S), ∀ (H : Heap) (locs : List Loc), va_P (q_D E) vwCl (q_cM E h0 a0 s0 g0) H → va_D A (q_cM E h0 a0 s0 g0) → va_S A s.heap H locs → ∀ ls : Array Slot, lv_has ls 3 [(0, .ref h0), (1, .int v1)] → zX4_digest_9  n9_ s0 g0 v1 = some (r, rg0, rs0) → W p l e (q_rm 7) s m args below meth c H locs 0 0 (MQ below (q_muQ E A (q_cM E h0 a0 rs0 rg0) (some (.long r))) args s 0 0 A) (F0 m 9 ls []) := by
    intro n9_
    induction n9_ with
    | zero => intro v1 g0 s0 H locs hP hD hS ls hl h; exact q_nn h
    | succ n9_ ih9 =>
      have K19 : ∀ (n19_ : Nat), ∀ (v1 : Int32) (v2 : Int32) (g0 : q_G) (s0 : q_S), ∀ (H : Heap) (locs : List Loc), va_P (q_D E) vwCl (q_cM E h0 a0 s0 g0) H → va_D A (q_cM E h0 a0 s0 g0) → va_S A s.heap H locs → ∀ ls : Array Slot, lv_has ls 3 [(0, .ref h0), (1, .int v1), (2, .int v2)] → zX4_digest_19 (zX4_digest_9 n9_) v1 n19_ s0 g0 v2 = some (r, rg0, rs0) → W p l e (q_rm 7) s m args below meth c H locs 0 0 (MQ below (q_muQ E A (q_cM E h0 a0 rs0 rg0) (some (.long r))) args s 0 0 A) (F0 m 19 ls []) := by
        intro n19_
        induction n19_ with
        | zero => intro v1 v2 g0 s0 H locs hP hD hS ls hl h; exact q_nn h
        | succ n19_ ih19 =>
          intro v1 v2 g0 s0 H locs hP hD hS ls hl h
          rw [zX4_digest_19_s] at h
          unfold jX4_digest_19 at h
          refine lv_iload_n hx hb dX4_digest_19 rfl (lv_at hl 2 rfl) ?_
          refine lv_bipush (v := 8) hx hb dX4_digest_20 (by decide) ?_
          refine lv_icmp_ge (tgt := 42) hx hb dX4_digest_22 (by decide) (fun c21 => ?_) (fun c21 => ?_)
          · replace h := q_i1 c21 h
            obtain ⟨x22, ex22, h⟩ := q_ol h
            refine lv_iinc (v := x22) (lv' := [(1, .int x22), (0, .ref h0), (2, .int v2)]) hx hb dX4_digest_42 hl (k := 1) rfl (by rw [ex22]; rfl) (by decide) rfl (fun ls hl => ?_)
            refine lv_goto (tgt := 9) hx hb dX4_digest_45 (by decide) ?_
            exact ih9 x22 g0 s0 H _ hP hD hS ls (lv_sub hl [1, 0] rfl) h
          · replace h := q_i2 c21 h
            refine lv_aload_n hx hb dX4_digest_25 rfl (lv_at hl 0 rfl) ?_
            refine lv_aload_n hx hb dX4_digest_26 rfl (lv_at hl 0 rfl) ?_
            refine lv_iload_n hx hb dX4_digest_27 rfl (lv_at hl 1 rfl) ?_
            refine lv_iload_n hx hb dX4_digest_28 rfl (lv_at hl 2 rfl) ?_
            obtain ⟨x23, y24, c25, h⟩ := q_o2 h
            refine q_muV F (kX4_eaterNow l E h0 a0 s0 g0 v1 v2 H.size x23 y24 c25) q_cX4_eaterNow q_lX4_166 (q_s_M_M_0w E h0 a0 s0 g0 y24 g0) hP hD hS hA hAl ⟨by decide, by decide⟩ (q0 := 0) rfl rfl rfl rfl ⟨_, hl⟩ (rest := [.ref h0]) rfl (Nat.le_of_ble_eq_true rfl) dX4_digest_29 (fun H locs (hP : va_P (q_D E) vwCl (q_cM E h0 a0 y24 g0) H) hD hS => ?_)
            refine lv_i2l hx hb dX4_digest_32 rfl ?_
            obtain ⟨y26, c27, h⟩ := q_o1 h
            refine q_muV F (kX4_mix l E h0 a0 y24 g0 x23.toInt64 H.size y26 c27) q_cX4_mix q_lX4_263 (q_s_M_M_0w E h0 a0 y24 g0 y24 y26) hP hD hS hA hAl ⟨by decide, by decide⟩ (q0 := 0) rfl rfl rfl rfl ⟨_, hl⟩ (rest := []) rfl (Nat.le_of_ble_eq_true rfl) dX4_digest_33 (fun H locs (hP : va_P (q_D E) vwCl (q_cM E h0 a0 y24 y26) H) hD hS => ?_)
            obtain ⟨x28, ex28, h⟩ := q_ol h
            refine lv_iinc (v := x28) (lv' := [(2, .int x28), (0, .ref h0), (1, .int v1)]) hx hb dX4_digest_36 hl (k := 2) rfl (by rw [ex28]; rfl) (by decide) rfl (fun ls hl => ?_)
            refine lv_goto (tgt := 19) hx hb dX4_digest_39 (by decide) ?_
            exact ih19 v1 x28 y26 y24 H _ hP hD hS ls (lv_sub hl [1, 2, 0] rfl) h
      intro v1 g0 s0 H locs hP hD hS ls hl h
      rw [zX4_digest_9_s] at h
      unfold jX4_digest_9 at h
      refine lv_iload_n hx hb dX4_digest_9 rfl (lv_at hl 1 rfl) ?_
      refine lv_aload_n hx hb dX4_digest_10 rfl (lv_at hl 0 rfl) ?_
      refine q_get F q_K4 hP 0 rfl 1 (by decide) q_fX4_108 rfl dX4_digest_11 ?_
      refine lv_icmp_ge (tgt := 48) hx hb dX4_digest_14 (by decide) (fun c29 => ?_) (fun c29 => ?_)
      · replace h := q_i1 c29 h
        refine lv_iconst (v := 0) hx hb dX4_digest_48 (by decide) ?_
        refine lv_istore_n (lv' := [(1, .int (0 : Int32)), (0, .ref h0)]) hx hb dX4_digest_49 rfl hl (by decide) rfl (fun ls hl => ?_)
        exact K50 70000 (0 : Int32) g0 s0 H _ hP hD hS ls (lv_sub hl [1, 0] rfl) h
      · replace h := q_i2 c29 h
        refine lv_iconst (v := 0) hx hb dX4_digest_17 (by decide) ?_
        refine lv_istore_n (lv' := [(2, .int (0 : Int32)), (0, .ref h0), (1, .int v1)]) hx hb dX4_digest_18 rfl hl (by decide) rfl (fun ls hl => ?_)
        exact K19 70000 v1 (0 : Int32) g0 s0 H _ hP hD hS ls (lv_sub hl [1, 2, 0] rfl) h
  unfold zX4_digest at h
  refine lv_aload_n hx hb dX4_digest_0 rfl (lv_at hl 0 rfl) ?_
  refine lv_ldc2 (v := 1019) hx hb hown (hB _ q_kX4_261 _) dX4_digest_1 ?_
  obtain ⟨y30, ey30, h⟩ := q_ol h
  refine q_put F q_K4 hP hD hS 0 rfl 40 (by decide) q_fX4_258 rfl rfl rfl (Nat.le_of_ble_eq_true rfl) (by rw [ey30]; rfl) dX4_digest_4 (fun H locs (hP : va_P (q_D E) vwCl (q_cM E h0 a0 s0 y30) H) hD hS => ?_)
  refine lv_iconst (v := 0) hx hb dX4_digest_7 (by decide) ?_
  refine lv_istore_n (lv' := [(1, .int (0 : Int32)), (0, .ref h0)]) hx hb dX4_digest_8 rfl hl (by decide) rfl (fun ls hl => ?_)
  exact K9 70000 (0 : Int32) y30 s0 H _ hP hD hS ls (lv_sub hl [1, 0] rfl) h
