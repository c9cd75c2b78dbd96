def zX3_letter (s1 : q_S) (v1 : Int32) : Option (Int32 × q_S) := if v1 < (32 : Int32) then (some ((-102 : Int32), s1)) else (if v1 ≤ (126 : Int32) then (q_b2 (zX0_write s1 v1) fun x3 y4 => if x3 = 0 then (some ((-104 : Int32), y4)) else (some ((y4 1 0), y4))) else (some ((-102 : Int32), s1)))
set_option maxHeartbeats 4000000 in
set_option maxRecDepth 100000 in
theorem kX3_letter (l : Launch) (E : q_E) (ad : Nat → Nat) (s0 : q_S) (s1 : q_S) (s2 : q_S) (s3 : q_S) (s4 : q_S) (s5 : q_S) (v1 : Int32) (sz : Nat) (r : Int32) (rs1 : q_S) (h : zX3_letter s1 v1 = some (r, rs1)) : q_MU l E yX3_letter cX3_letter 2 (some .int) 2 [.ref (ad 0), .int v1] sz (q_wX E ad s0 s1 s2 s3 s4 s5) (q_wX E ad s0 rs1 s2 s3 s4 s5) (some (.int r)) := by
  refine q_MU.intro (by decide) (Nat.le_of_ble_eq_true rfl) ?_
  intro p e s m args below meth c A X hP hD hA hAl ls hl
  obtain ⟨hx, hb, hml, hr, hlk, hown, hB, hE⟩ := X
  have hown : s.vm.findClass RX3 = some m.cls := hown
  have F : q_Fx p s m c E RX3 cX3_letter 2 := ⟨hx, hb, hml, hown, hB, hE⟩
  have hS : va_S A s.heap s.heap [] := va_S.rf
  have hl : lv_has ls 2 [(0, .ref (ad 0)), (1, .int v1)] := hl
  unfold zX3_letter at h
  refine lv_iload_n hx hb dX3_letter_0 rfl (lv_at hl 1 rfl) ?_
  refine lv_bipush (v := 32) hx hb dX3_letter_1 (by decide) ?_
  refine lv_icmp_lt (tgt := 12) hx hb dX3_letter_3 (by decide) (fun c1 => ?_) (fun c1 => ?_)
  · replace h := q_i1 c1 h
    refine lv_bipush (v := (-102)) hx hb dX3_letter_12 (by decide) ?_
    cases h
    exact q_wI F hr hlk dX3_letter_14 hP hD hS
  · replace h := q_i2 c1 h
    refine lv_iload_n hx hb dX3_letter_6 rfl (lv_at hl 1 rfl) ?_
    refine lv_bipush (v := 126) hx hb dX3_letter_7 (by decide) ?_
    refine lv_icmp_le (tgt := 15) hx hb dX3_letter_9 (by decide) (fun c2 => ?_) (fun c2 => ?_)
    · replace h := q_i1 c2 h
      refine lv_aload_n hx hb dX3_letter_15 rfl (lv_at hl 0 rfl) ?_
      refine q_get F q_K3 hP 0 rfl 0 (by decide) q_fX3_10 rfl dX3_letter_16 ?_
      refine lv_iload_n hx hb dX3_letter_19 rfl (lv_at hl 1 rfl) ?_
      obtain ⟨x3, y4, c5, h⟩ := q_o2 h
      refine q_muV F (kX0_write l E (ad 1) (fun k => ad (2 + k)) s1 v1 s.heap.size x3 y4 c5) q_cX0_write q_lX3_36 (q_s_X_P_1w E ad s0 s1 s2 s3 s4 s5 y4) hP hD hS hA hAl ⟨by decide, by decide⟩ (q0 := 0) rfl rfl rfl rfl ⟨_, hl⟩ (rest := []) rfl (Nat.le_of_ble_eq_true rfl) dX3_letter_20 (fun H locs (hP : va_P (q_D E) vwCl (q_wX E ad s0 y4 s2 s3 s4 s5) H) hD hS => ?_)
      refine lv_if_eq (tgt := 36) hx hb dX3_letter_23 (by decide) (fun c6 => ?_) (fun c6 => ?_)
      · replace h := q_i1 c6 h
        refine lv_bipush (v := (-104)) hx hb dX3_letter_36 (by decide) ?_
        cases h
        exact q_wI F hr hlk dX3_letter_38 hP hD hS
      · replace h := q_i2 c6 h
        refine lv_aload_n hx hb dX3_letter_26 rfl (lv_at hl 0 rfl) ?_
        refine q_get F q_K3 hP 0 rfl 0 (by decide) q_fX3_10 rfl dX3_letter_27 ?_
        refine q_get F q_K0 hP 1 rfl 1 (by decide) q_fX3_40 rfl dX3_letter_30 ?_
        refine lv_goto (tgt := 38) hx hb dX3_letter_33 (by decide) ?_
        cases h
        exact q_wI F hr hlk dX3_letter_38 hP hD hS
    · replace h := q_i2 c2 h
      refine lv_bipush (v := (-102)) hx hb dX3_letter_12 (by decide) ?_
      cases h
      exact q_wI F hr hlk dX3_letter_14 hP hD hS
def zX3_blank (s1 : q_S) : Option (Int32 × q_S) := q_lt (s1 1 0) fun x1 => q_lt (q_u s1 1 0 (0 : Int32)) fun y2 => some (x1, y2)
set_option maxHeartbeats 4000000 in
set_option maxRecDepth 100000 in
theorem kX3_blank (l : Launch) (E : q_E) (ad : Nat → Nat) (s0 : q_S) (s1 : q_S) (s2 : q_S) (s3 : q_S) (s4 : q_S) (s5 : q_S)  (sz : Nat) (r : Int32) (rs1 : q_S) (h : zX3_blank s1 = some (r, rs1)) : q_MU l E yX3_blank cX3_blank 2 (some .int) 1 [.ref (ad 0)] sz (q_wX E ad s0 s1 s2 s3 s4 s5) (q_wX E ad s0 rs1 s2 s3 s4 s5) (some (.int r)) := by
  refine q_MU.intro (by decide) (Nat.le_of_ble_eq_true rfl) ?_
  intro p e s m args below meth c A X hP hD hA hAl ls hl
  obtain ⟨hx, hb, hml, hr, hlk, hown, hB, hE⟩ := X
  have hown : s.vm.findClass RX3 = some m.cls := hown
  have F : q_Fx p s m c E RX3 cX3_blank 2 := ⟨hx, hb, hml, hown, hB, hE⟩
  have hS : va_S A s.heap s.heap [] := va_S.rf
  have hl : lv_has ls 2 [(0, .ref (ad 0))] := hl
  unfold zX3_blank at h
  refine lv_aload_n hx hb dX3_blank_0 rfl (lv_at hl 0 rfl) ?_
  refine q_get F q_K3 hP 0 rfl 0 (by decide) q_fX3_10 rfl dX3_blank_1 ?_
  refine q_get F q_K0 hP 1 rfl 1 (by decide) q_fX3_40 rfl dX3_blank_4 ?_
  obtain ⟨x1, ex1, h⟩ := q_ol h
  refine q_top ex1 ?_
  refine lv_istore_n (lv' := [(1, .int x1), (0, .ref (ad 0))]) hx hb dX3_blank_7 rfl hl (by decide) rfl (fun ls hl => ?_)
  refine lv_aload_n hx hb dX3_blank_8 rfl (lv_at hl 1 rfl) ?_
  refine q_get F q_K3 hP 0 rfl 0 (by decide) q_fX3_10 rfl dX3_blank_9 ?_
  refine lv_iconst (v := 0) hx hb dX3_blank_12 (by decide) ?_
  obtain ⟨y2, ey2, h⟩ := q_ol h
  refine q_put F q_K0 hP hD hS 1 rfl 1 (by decide) q_fX3_40 rfl rfl rfl (Nat.le_of_ble_eq_true rfl) (by rw [ey2]; rfl) dX3_blank_13 (fun H locs (hP : va_P (q_D E) vwCl (q_wX E ad s0 y2 s2 s3 s4 s5) H) hD hS => ?_)
  refine lv_iload_n hx hb dX3_blank_16 rfl (lv_at hl 0 rfl) ?_
  cases h
  exact q_wI F hr hlk dX3_blank_17 hP hD hS
def zX3_fault (s1 : q_S) : Option (Int32) := q_b1 (zX0_faultPlace s1) fun x1 => some x1
set_option maxHeartbeats 4000000 in
set_option maxRecDepth 100000 in
theorem kX3_fault (l : Launch) (E : q_E) (ad : Nat → Nat) (s0 : q_S) (s1 : q_S) (s2 : q_S) (s3 : q_S) (s4 : q_S) (s5 : q_S)  (r : Int32) (h : zX3_fault s1 = some r) : q_RO l E yX3_fault cX3_fault 1 (some .int) 11 [.ref (ad 0)] (q_wX E ad s0 s1 s2 s3 s4 s5) (.int r) := by
  refine q_RO.intro (by decide) (Nat.le_of_ble_eq_true rfl) ?_
  intro p e s m args below meth c X hP ls hl
  obtain ⟨hx, hb, hml, hr, hlk, hown, hB, hE⟩ := X
  have hown : s.vm.findClass RX3 = some m.cls := hown
  have F : q_Fx p s m c E RX3 cX3_fault 1 := ⟨hx, hb, hml, hown, hB, hE⟩
  have hV := q_EV.here hE
  have hl : lv_has ls 1 [(0, .ref (ad 0))] := hl
  unfold zX3_fault at h
  refine lv_aload_n hx hb dX3_fault_0 rfl (lv_at hl 0 rfl) ?_
  refine q_get F q_K3 hP 0 rfl 0 (by decide) q_fX3_10 rfl dX3_fault_1 ?_
  obtain ⟨x1, c2, h⟩ := q_o1 h
  refine q_roV F (kX0_faultPlace l E (ad 1) (fun k => ad (2 + k)) s1 x1 c2) q_cX0_faultPlace q_lX3_44 hV ((q_s_X_P_1 E ad s0 s1 s2 s3 s4 s5).P hP) ⟨by decide, by decide⟩ (q0 := 0) rfl rfl rfl rfl ⟨_, hl⟩ (rest := []) rfl (Nat.le_of_ble_eq_true rfl) dX3_fault_4 ?_
  exact q_rI F hr hlk dX3_fault_7 h
def zX3_valley (s0 : q_S) (s1 : q_S) (s2 : q_S) : Option (Int32 × q_S × q_S × q_S) := q_b1 (zX0_isValley s1) fun x1 => if x1 = 0 then (some ((-103 : Int32), s0, s1, s2)) else (q_b1 (zX2_readFrom s2 s1) fun y4 => q_lt (q_u s1 1 0 (0 : Int32)) fun y6 => q_lt (q_u s0 5 0 (0 : Int32)) fun y7 => q_lt (q_u y7 6 0 ((y7 6 0) + (1 : Int32))) fun y8 => some ((y4 6 0), y8, y6, y4))
set_option maxHeartbeats 4000000 in
set_option maxRecDepth 100000 in
theorem kX3_valley (l : Launch) (E : q_E) (ad : Nat → Nat) (s0 : q_S) (s1 : q_S) (s2 : q_S) (s3 : q_S) (s4 : q_S) (s5 : q_S)  (sz : Nat) (r : Int32) (rs0 : q_S) (rs1 : q_S) (rs2 : q_S) (h : zX3_valley s0 s1 s2 = some (r, rs0, rs1, rs2)) : q_MU l E yX3_valley cX3_valley 1 (some .int) 12 [.ref (ad 0)] sz (q_wX E ad s0 s1 s2 s3 s4 s5) (q_wX E ad rs0 rs1 rs2 s3 s4 s5) (some (.int r)) := by
  refine q_MU.intro (by decide) (Nat.le_of_ble_eq_true rfl) ?_
  intro p e s m args below meth c A X hP hD hA hAl ls hl
  obtain ⟨hx, hb, hml, hr, hlk, hown, hB, hE⟩ := X
  have hown : s.vm.findClass RX3 = some m.cls := hown
  have F : q_Fx p s m c E RX3 cX3_valley 1 := ⟨hx, hb, hml, hown, hB, hE⟩
  have hS : va_S A s.heap s.heap [] := va_S.rf
  have hl : lv_has ls 1 [(0, .ref (ad 0))] := hl
  unfold zX3_valley at h
  refine lv_aload_n hx hb dX3_valley_0 rfl (lv_at hl 0 rfl) ?_
  refine q_get F q_K3 hP 0 rfl 0 (by decide) q_fX3_10 rfl dX3_valley_1 ?_
  obtain ⟨x1, c2, h⟩ := q_o1 h
  refine q_roV F (kX0_isValley l E (ad 1) (fun k => ad (2 + k)) s1 x1 c2) q_cX0_isValley q_lX3_48 (q_EV.go F.2.2.2.2.2 hAl hS) ((q_s_X_P_1 E ad s0 s1 s2 s3 s4 s5).P hP) ⟨by decide, by decide⟩ (q0 := 0) rfl rfl rfl rfl ⟨_, hl⟩ (rest := []) rfl (Nat.le_of_ble_eq_true rfl) dX3_valley_4 ?_
  refine lv_if_ne (tgt := 13) hx hb dX3_valley_7 (by decide) (fun c3 => ?_) (fun c3 => ?_)
  · replace h := q_i2 c3 h
    refine lv_aload_n hx hb dX3_valley_13 rfl (lv_at hl 0 rfl) ?_
    refine q_get F q_K3 hP 0 rfl 1 (by decide) q_fX3_19 rfl dX3_valley_14 ?_
    refine lv_aload_n hx hb dX3_valley_17 rfl (lv_at hl 0 rfl) ?_
    refine q_get F q_K3 hP 0 rfl 0 (by decide) q_fX3_10 rfl dX3_valley_18 ?_
    obtain ⟨y4, c5, h⟩ := q_o1 h
    refine q_muV F (kX2_readFrom l E (ad 10) (fun k => ad (10 + k)) (ad 1) (fun k => ad (2 + k)) s2 s1 s.heap.size y4 c5) q_cX2_readFrom q_lX3_52 (q_s_X_VP_2_1w E ad s0 s1 s2 s3 s4 s5 y4) hP hD hS hA hAl ⟨by decide, by decide⟩ (q0 := 0) rfl rfl rfl rfl ⟨_, hl⟩ (rest := []) rfl (Nat.le_of_ble_eq_true rfl) dX3_valley_21 (fun H locs (hP : va_P (q_D E) vwCl (q_wX E ad s0 s1 y4 s3 s4 s5) H) hD hS => ?_)
    refine lv_aload_n hx hb dX3_valley_24 rfl (lv_at hl 0 rfl) ?_
    refine q_get F q_K3 hP 0 rfl 0 (by decide) q_fX3_10 rfl dX3_valley_25 ?_
    refine lv_iconst (v := 0) hx hb dX3_valley_28 (by decide) ?_
    obtain ⟨y6, ey6, h⟩ := q_ol h
    refine q_put F q_K0 hP hD hS 1 rfl 1 (by decide) q_fX3_40 rfl rfl rfl (Nat.le_of_ble_eq_true rfl) (by rw [ey6]; rfl) dX3_valley_29 (fun H locs (hP : va_P (q_D E) vwCl (q_wX E ad s0 y6 y4 s3 s4 s5) H) hD hS => ?_)
    refine lv_aload_n hx hb dX3_valley_32 rfl (lv_at hl 0 rfl) ?_
    refine lv_iconst (v := 0) hx hb dX3_valley_33 (by decide) ?_
    obtain ⟨y7, ey7, h⟩ := q_ol h
    refine q_put F q_K3 hP hD hS 0 rfl 5 (by decide) q_fX3_56 rfl rfl rfl (Nat.le_of_ble_eq_true rfl) (by rw [ey7]; rfl) dX3_valley_34 (fun H locs (hP : va_P (q_D E) vwCl (q_wX E ad y7 y6 y4 s3 s4 s5) H) hD hS => ?_)
    refine lv_aload_n hx hb dX3_valley_37 rfl (lv_at hl 0 rfl) ?_
    refine lv_dup hx hb dX3_valley_38 rfl ?_
    refine q_get F q_K3 hP 0 rfl 6 (by decide) q_fX3_60 rfl dX3_valley_39 ?_
    refine lv_iconst (v := 1) hx hb dX3_valley_42 (by decide) ?_
    refine lv_iadd hx hb dX3_valley_43 ?_
    obtain ⟨y8, ey8, h⟩ := q_ol h
    refine q_put F q_K3 hP hD hS 0 rfl 6 (by decide) q_fX3_60 rfl rfl rfl (Nat.le_of_ble_eq_true rfl) (by rw [ey8]; rfl) dX3_valley_44 (fun H locs (hP : va_P (q_D E) vwCl (q_wX E ad y8 y6 y4 s3 s4 s5) H) hD hS => ?_)
    refine lv_aload_n hx hb dX3_valley_47 rfl (lv_at hl 0 rfl) ?_
    refine q_get F q_K3 hP 0 rfl 1 (by decide) q_fX3_19 rfl dX3_valley_48 ?_
    refine q_get F q_K2 hP 3 rfl 6 (by decide) q_fX3_63 rfl dX3_valley_51 ?_
    cases h
    exact q_wI F hr hlk dX3_valley_54 hP hD hS
  · replace h := q_i1 c3 h
    refine lv_bipush (v := (-103)) hx hb dX3_valley_10 (by decide) ?_
    cases h
    exact q_wI F hr hlk dX3_valley_12 hP hD hS
def zX3_aboutEater (s2 : q_S) (v1 : Int32) (v2 : Int32) : Option (Int32) := q_b1 (zX2_isEater s2 v1) fun x1 => if x1 = 0 then (some (-101 : Int32)) else (if v2 = 0 then (q_gd (q_ib v1 4) (some (s2 2 v1.toNatClampNeg))) else (if v2 = 1 then (q_gd (q_ib v1 4) (some (s2 3 v1.toNatClampNeg))) else (if v2 = 2 then (q_b1 (zX2_isAlive s2 v1) fun x9 => if x9 = 0 then (some (0 : Int32)) else (some (1 : Int32))) else (if v2 = 3 then (q_gd (q_ib v1 4) (some (s2 4 v1.toNatClampNeg))) else (if v2 = 4 then (q_gd (q_ib v1 4) (some (s2 5 v1.toNatClampNeg))) else (if v2 = 5 then (q_b1 (zX2_takenNow s2 v1) fun x17 => some x17) else (if v2 = 6 then (q_b1 (zX2_bestFed s2 v1) fun x20 => q_b1 (zX2_deedsOf s2 x20) fun x22 => some x22) else (if v2 = 7 then (q_b1 (zX2_bestFed s2 v1) fun x25 => some x25) else (some (-102 : Int32))))))))))
set_option maxHeartbeats 4000000 in
set_option maxRecDepth 100000 in
theorem kX3_aboutEater (l : Launch) (E : q_E) (ad : Nat → Nat) (s0 : q_S) (s1 : q_S) (s2 : q_S) (s3 : q_S) (s4 : q_S) (s5 : q_S) (v1 : Int32) (v2 : Int32) (r : Int32) (h : zX3_aboutEater s2 v1 v2 = some r) : q_RO l E yX3_aboutEater cX3_aboutEater 3 (some .int) 6 [.ref (ad 0), .int v1, .int v2] (q_wX E ad s0 s1 s2 s3 s4 s5) (.int r) := by
  refine q_RO.intro (by decide) (Nat.le_of_ble_eq_true rfl) ?_
  intro p e s m args below meth c X hP ls hl
  obtain ⟨hx, hb, hml, hr, hlk, hown, hB, hE⟩ := X
  have hown : s.vm.findClass RX3 = some m.cls := hown
  have F : q_Fx p s m c E RX3 cX3_aboutEater 3 := ⟨hx, hb, hml, hown, hB, hE⟩
  have hV := q_EV.here hE
  have hl : lv_has ls 3 [(0, .ref (ad 0)), (1, .int v1), (2, .int v2)] := hl
  unfold zX3_aboutEater at h
  refine lv_aload_n hx hb dX3_aboutEater_0 rfl (lv_at hl 0 rfl) ?_
  refine q_get F q_K3 hP 0 rfl 1 (by decide) q_fX3_19 rfl dX3_aboutEater_1 ?_
  refine lv_iload_n hx hb dX3_aboutEater_4 rfl (lv_at hl 1 rfl) ?_
  obtain ⟨x1, c2, h⟩ := q_o1 h
  refine q_roV F (kX2_isEater l E (ad 10) (fun k => ad (10 + k)) s2 v1 x1 c2) q_cX2_isEater q_lX3_66 hV ((q_s_X_V_2 E ad s0 s1 s2 s3 s4 s5).P hP) ⟨by decide, by decide⟩ (q0 := 0) rfl rfl rfl rfl ⟨_, hl⟩ (rest := []) rfl (Nat.le_of_ble_eq_true rfl) dX3_aboutEater_5 ?_
  refine lv_if_ne (tgt := 14) hx hb dX3_aboutEater_8 (by decide) (fun c3 => ?_) (fun c3 => ?_)
  · replace h := q_i2 c3 h
    refine lv_iload_n hx hb dX3_aboutEater_14 rfl (lv_at hl 2 rfl) ?_
    by_cases c4 : v2 = 0
    · replace h := q_i1 c4 h
      refine lv_tableIn (off := 45) (tgt := 60) hx hb dX3_aboutEater_15 (by rw [c4]; decide) (by rw [c4]; decide) (by rw [c4]; rfl) (by decide) ?_
      refine lv_aload_n hx hb dX3_aboutEater_60 rfl (lv_at hl 0 rfl) ?_
      refine q_get F q_K3 hP 0 rfl 1 (by decide) q_fX3_19 rfl dX3_aboutEater_61 ?_
      refine q_get F q_K2 hP 3 rfl 2 (by decide) q_fX3_73 rfl dX3_aboutEater_64 ?_
      refine lv_iload_n hx hb dX3_aboutEater_67 rfl (lv_at hl 1 rfl) ?_
      obtain ⟨eg5, h⟩ := q_og h
      refine q_iald F hP 4 rfl eg5 dX3_aboutEater_68 ?_
      exact q_rI F hr hlk dX3_aboutEater_69 h
    · replace h := q_i2 c4 h
      by_cases c6 : v2 = 1
      · replace h := q_i1 c6 h
        refine lv_tableIn (off := 55) (tgt := 70) hx hb dX3_aboutEater_15 (by rw [c6]; decide) (by rw [c6]; decide) (by rw [c6]; rfl) (by decide) ?_
        refine lv_aload_n hx hb dX3_aboutEater_70 rfl (lv_at hl 0 rfl) ?_
        refine q_get F q_K3 hP 0 rfl 1 (by decide) q_fX3_19 rfl dX3_aboutEater_71 ?_
        refine q_get F q_K2 hP 3 rfl 3 (by decide) q_fX3_184 rfl dX3_aboutEater_74 ?_
        refine lv_iload_n hx hb dX3_aboutEater_77 rfl (lv_at hl 1 rfl) ?_
        obtain ⟨eg7, h⟩ := q_og h
        refine q_iald F hP 5 rfl eg7 dX3_aboutEater_78 ?_
        exact q_rI F hr hlk dX3_aboutEater_79 h
      · replace h := q_i2 c6 h
        by_cases c8 : v2 = 2
        · replace h := q_i1 c8 h
          refine lv_tableIn (off := 65) (tgt := 80) hx hb dX3_aboutEater_15 (by rw [c8]; decide) (by rw [c8]; decide) (by rw [c8]; rfl) (by decide) ?_
          refine lv_aload_n hx hb dX3_aboutEater_80 rfl (lv_at hl 0 rfl) ?_
          refine q_get F q_K3 hP 0 rfl 1 (by decide) q_fX3_19 rfl dX3_aboutEater_81 ?_
          refine lv_iload_n hx hb dX3_aboutEater_84 rfl (lv_at hl 1 rfl) ?_
          obtain ⟨x9, c10, h⟩ := q_o1 h
          refine q_roV F (kX2_isAlive l E (ad 10) (fun k => ad (10 + k)) s2 v1 x9 c10) q_cX2_isAlive q_lX3_111 hV ((q_s_X_V_2 E ad s0 s1 s2 s3 s4 s5).P hP) ⟨by decide, by decide⟩ (q0 := 0) rfl rfl rfl rfl ⟨_, hl⟩ (rest := []) rfl (Nat.le_of_ble_eq_true rfl) dX3_aboutEater_85 ?_
          refine lv_if_eq (tgt := 95) hx hb dX3_aboutEater_88 (by decide) (fun c11 => ?_) (fun c11 => ?_)
          · replace h := q_i1 c11 h
            refine lv_iconst (v := 0) hx hb dX3_aboutEater_95 (by decide) ?_
            exact q_rI F hr hlk dX3_aboutEater_96 h
          · replace h := q_i2 c11 h
            refine lv_iconst (v := 1) hx hb dX3_aboutEater_91 (by decide) ?_
            refine lv_goto (tgt := 96) hx hb dX3_aboutEater_92 (by decide) ?_
            exact q_rI F hr hlk dX3_aboutEater_96 h
        · replace h := q_i2 c8 h
          by_cases c12 : v2 = 3
          · replace h := q_i1 c12 h
            refine lv_tableIn (off := 82) (tgt := 97) hx hb dX3_aboutEater_15 (by rw [c12]; decide) (by rw [c12]; decide) (by rw [c12]; rfl) (by decide) ?_
            refine lv_aload_n hx hb dX3_aboutEater_97 rfl (lv_at hl 0 rfl) ?_
            refine q_get F q_K3 hP 0 rfl 1 (by decide) q_fX3_19 rfl dX3_aboutEater_98 ?_
            refine q_get F q_K2 hP 3 rfl 4 (by decide) q_fX3_94 rfl dX3_aboutEater_101 ?_
            refine lv_iload_n hx hb dX3_aboutEater_104 rfl (lv_at hl 1 rfl) ?_
            obtain ⟨eg13, h⟩ := q_og h
            refine q_iald F hP 6 rfl eg13 dX3_aboutEater_105 ?_
            exact q_rI F hr hlk dX3_aboutEater_106 h
          · replace h := q_i2 c12 h
            by_cases c14 : v2 = 4
            · replace h := q_i1 c14 h
              refine lv_tableIn (off := 92) (tgt := 107) hx hb dX3_aboutEater_15 (by rw [c14]; decide) (by rw [c14]; decide) (by rw [c14]; rfl) (by decide) ?_
              refine lv_aload_n hx hb dX3_aboutEater_107 rfl (lv_at hl 0 rfl) ?_
              refine q_get F q_K3 hP 0 rfl 1 (by decide) q_fX3_19 rfl dX3_aboutEater_108 ?_
              refine q_get F q_K2 hP 3 rfl 5 (by decide) q_fX3_168 rfl dX3_aboutEater_111 ?_
              refine lv_iload_n hx hb dX3_aboutEater_114 rfl (lv_at hl 1 rfl) ?_
              obtain ⟨eg15, h⟩ := q_og h
              refine q_iald F hP 7 rfl eg15 dX3_aboutEater_115 ?_
              exact q_rI F hr hlk dX3_aboutEater_116 h
            · replace h := q_i2 c14 h
              by_cases c16 : v2 = 5
              · replace h := q_i1 c16 h
                refine lv_tableIn (off := 102) (tgt := 117) hx hb dX3_aboutEater_15 (by rw [c16]; decide) (by rw [c16]; decide) (by rw [c16]; rfl) (by decide) ?_
                refine lv_aload_n hx hb dX3_aboutEater_117 rfl (lv_at hl 0 rfl) ?_
                refine q_get F q_K3 hP 0 rfl 1 (by decide) q_fX3_19 rfl dX3_aboutEater_118 ?_
                refine lv_iload_n hx hb dX3_aboutEater_121 rfl (lv_at hl 1 rfl) ?_
                obtain ⟨x17, c18, h⟩ := q_o1 h
                refine q_roV F (kX2_takenNow l E (ad 10) (fun k => ad (10 + k)) s2 v1 x17 c18) q_cX2_takenNow q_lX3_187 hV ((q_s_X_V_2 E ad s0 s1 s2 s3 s4 s5).P hP) ⟨by decide, by decide⟩ (q0 := 0) rfl rfl rfl rfl ⟨_, hl⟩ (rest := []) rfl (Nat.le_of_ble_eq_true rfl) dX3_aboutEater_122 ?_
                exact q_rI F hr hlk dX3_aboutEater_125 h
              · replace h := q_i2 c16 h
                by_cases c19 : v2 = 6
                · replace h := q_i1 c19 h
                  refine lv_tableIn (off := 111) (tgt := 126) hx hb dX3_aboutEater_15 (by rw [c19]; decide) (by rw [c19]; decide) (by rw [c19]; rfl) (by decide) ?_
                  refine lv_aload_n hx hb dX3_aboutEater_126 rfl (lv_at hl 0 rfl) ?_
                  refine q_get F q_K3 hP 0 rfl 1 (by decide) q_fX3_19 rfl dX3_aboutEater_127 ?_
                  refine lv_aload_n hx hb dX3_aboutEater_130 rfl (lv_at hl 0 rfl) ?_
                  refine q_get F q_K3 hP 0 rfl 1 (by decide) q_fX3_19 rfl dX3_aboutEater_131 ?_
                  refine lv_iload_n hx hb dX3_aboutEater_134 rfl (lv_at hl 1 rfl) ?_
                  obtain ⟨x20, c21, h⟩ := q_o1 h
                  refine q_roV F (kX2_bestFed l E (ad 10) (fun k => ad (10 + k)) s2 v1 x20 c21) q_cX2_bestFed q_lX3_190 hV ((q_s_X_V_2 E ad s0 s1 s2 s3 s4 s5).P hP) ⟨by decide, by decide⟩ (q0 := 0) rfl rfl rfl rfl ⟨_, hl⟩ (rest := [.ref (ad 10)]) rfl (Nat.le_of_ble_eq_true rfl) dX3_aboutEater_135 ?_
                  obtain ⟨x22, c23, h⟩ := q_o1 h
                  refine q_roV F (kX2_deedsOf l E (ad 10) (fun k => ad (10 + k)) s2 x20 x22 c23) q_cX2_deedsOf q_lX3_193 hV ((q_s_X_V_2 E ad s0 s1 s2 s3 s4 s5).P hP) ⟨by decide, by decide⟩ (q0 := 0) rfl rfl rfl rfl ⟨_, hl⟩ (rest := []) rfl (Nat.le_of_ble_eq_true rfl) dX3_aboutEater_138 ?_
                  exact q_rI F hr hlk dX3_aboutEater_141 h
                · replace h := q_i2 c19 h
                  by_cases c24 : v2 = 7
                  · replace h := q_i1 c24 h
                    refine lv_tableIn (off := 127) (tgt := 142) hx hb dX3_aboutEater_15 (by rw [c24]; decide) (by rw [c24]; decide) (by rw [c24]; rfl) (by decide) ?_
                    refine lv_aload_n hx hb dX3_aboutEater_142 rfl (lv_at hl 0 rfl) ?_
                    refine q_get F q_K3 hP 0 rfl 1 (by decide) q_fX3_19 rfl dX3_aboutEater_143 ?_
                    refine lv_iload_n hx hb dX3_aboutEater_146 rfl (lv_at hl 1 rfl) ?_
                    obtain ⟨x25, c26, h⟩ := q_o1 h
                    refine q_roV F (kX2_bestFed l E (ad 10) (fun k => ad (10 + k)) s2 v1 x25 c26) q_cX2_bestFed q_lX3_190 hV ((q_s_X_V_2 E ad s0 s1 s2 s3 s4 s5).P hP) ⟨by decide, by decide⟩ (q0 := 0) rfl rfl rfl rfl ⟨_, hl⟩ (rest := []) rfl (Nat.le_of_ble_eq_true rfl) dX3_aboutEater_147 ?_
                    exact q_rI F hr hlk dX3_aboutEater_150 h
                  · replace h := q_i2 c24 h
                    refine lv_tableOut (tgt := 151) hx hb dX3_aboutEater_15 (by have zc4 := lv_neT c4 (a := 0) (by decide); have zc6 := lv_neT c6 (a := 1) (by decide); have zc8 := lv_neT c8 (a := 2) (by decide); have zc12 := lv_neT c12 (a := 3) (by decide); have zc14 := lv_neT c14 (a := 4) (by decide); have zc16 := lv_neT c16 (a := 5) (by decide); have zc19 := lv_neT c19 (a := 6) (by decide); have zc24 := lv_neT c24 (a := 7) (by decide); omega) (by decide) ?_
                    refine lv_bipush (v := (-102)) hx hb dX3_aboutEater_151 (by decide) ?_
                    exact q_rI F hr hlk dX3_aboutEater_153 h
  · replace h := q_i1 c3 h
    refine lv_bipush (v := (-101)) hx hb dX3_aboutEater_11 (by decide) ?_
    exact q_rI F hr hlk dX3_aboutEater_13 h
def zX3_about (s2 : q_S) (v1 : Int32) (v2 : Int32) : Option (Int32) := q_b1 (zX2_isEater s2 v1) fun x1 => if x1 = 0 then (some (-101 : Int32)) else (if v2 < 0 then (some (-102 : Int32)) else (if v2 ≤ (7 : Int32) then (q_b1 (zX3_aboutEater s2 v1 v2) fun x6 => some x6) else (some (-102 : Int32))))
set_option maxHeartbeats 4000000 in
set_option maxRecDepth 100000 in
theorem kX3_about (l : Launch) (E : q_E) (ad : Nat → Nat) (s0 : q_S) (s1 : q_S) (s2 : q_S) (s3 : q_S) (s4 : q_S) (s5 : q_S) (v1 : Int32) (v2 : Int32) (r : Int32) (h : zX3_about s2 v1 v2 = some r) : q_RO l E yX3_about cX3_about 3 (some .int) 7 [.ref (ad 0), .int v1, .int v2] (q_wX E ad s0 s1 s2 s3 s4 s5) (.int r) := by
  refine q_RO.intro (by decide) (Nat.le_of_ble_eq_true rfl) ?_
  intro p e s m args below meth c X hP ls hl
  obtain ⟨hx, hb, hml, hr, hlk, hown, hB, hE⟩ := X
  have hown : s.vm.findClass RX3 = some m.cls := hown
  have F : q_Fx p s m c E RX3 cX3_about 3 := ⟨hx, hb, hml, hown, hB, hE⟩
  have hV := q_EV.here hE
  have hl : lv_has ls 3 [(0, .ref (ad 0)), (1, .int v1), (2, .int v2)] := hl
  unfold zX3_about at h
  refine lv_aload_n hx hb dX3_about_0 rfl (lv_at hl 0 rfl) ?_
  refine q_get F q_K3 hP 0 rfl 1 (by decide) q_fX3_19 rfl dX3_about_1 ?_
  refine lv_iload_n hx hb dX3_about_4 rfl (lv_at hl 1 rfl) ?_
  obtain ⟨x1, c2, h⟩ := q_o1 h
  refine q_roV F (kX2_isEater l E (ad 10) (fun k => ad (10 + k)) s2 v1 x1 c2) q_cX2_isEater q_lX3_66 hV ((q_s_X_V_2 E ad s0 s1 s2 s3 s4 s5).P hP) ⟨by decide, by decide⟩ (q0 := 0) rfl rfl rfl rfl ⟨_, hl⟩ (rest := []) rfl (Nat.le_of_ble_eq_true rfl) dX3_about_5 ?_
  refine lv_if_ne (tgt := 14) hx hb dX3_about_8 (by decide) (fun c3 => ?_) (fun c3 => ?_)
  · replace h := q_i2 c3 h
    refine lv_iload_n hx hb dX3_about_14 rfl (lv_at hl 2 rfl) ?_
    refine lv_if_lt (tgt := 24) hx hb dX3_about_15 (by decide) (fun c4 => ?_) (fun c4 => ?_)
    · replace h := q_i1 c4 h
      refine lv_bipush (v := (-102)) hx hb dX3_about_24 (by decide) ?_
      exact q_rI F hr hlk dX3_about_26 h
    · replace h := q_i2 c4 h
      refine lv_iload_n hx hb dX3_about_18 rfl (lv_at hl 2 rfl) ?_
      refine lv_bipush (v := 7) hx hb dX3_about_19 (by decide) ?_
      refine lv_icmp_le (tgt := 27) hx hb dX3_about_21 (by decide) (fun c5 => ?_) (fun c5 => ?_)
      · replace h := q_i1 c5 h
        refine lv_aload_n hx hb dX3_about_27 rfl (lv_at hl 0 rfl) ?_
        refine lv_iload_n hx hb dX3_about_28 rfl (lv_at hl 1 rfl) ?_
        refine lv_iload_n hx hb dX3_about_29 rfl (lv_at hl 2 rfl) ?_
        obtain ⟨x6, c7, h⟩ := q_o1 h
        refine q_roV F (kX3_aboutEater l E ad s0 s1 s2 s3 s4 s5 v1 v2 x6 c7) q_cX3_aboutEater q_lX3_69 hV hP ⟨by decide, by decide⟩ (q0 := 0) rfl rfl rfl rfl ⟨_, hl⟩ (rest := []) rfl (Nat.le_of_ble_eq_true rfl) dX3_about_30 ?_
        exact q_rI F hr hlk dX3_about_33 h
      · replace h := q_i2 c5 h
        refine lv_bipush (v := (-102)) hx hb dX3_about_24 (by decide) ?_
        exact q_rI F hr hlk dX3_about_26 h
  · replace h := q_i1 c3 h
    refine lv_bipush (v := (-101)) hx hb dX3_about_11 (by decide) ?_
    exact q_rI F hr hlk dX3_about_13 h
def zX3_as (s2 : q_S) (v1 : Int32) (v2 : Int32) : Option (Int32) := q_b1 (zX2_isEater s2 v1) fun x1 => if x1 = 0 then (some (-101 : Int32)) else (if v2 < 0 then (some (-102 : Int32)) else (if v2 ≤ (4 : Int32) then (q_gd (q_ib v1 4) (q_b1 (zX3_isSuch (s2 2 v1.toNatClampNeg) v2) fun x7 => if x7 = 0 then (some (-1 : Int32)) else (some v1))) else (some (-102 : Int32))))
set_option maxHeartbeats 4000000 in
set_option maxRecDepth 100000 in
theorem kX3_as (l : Launch) (E : q_E) (ad : Nat → Nat) (s0 : q_S) (s1 : q_S) (s2 : q_S) (s3 : q_S) (s4 : q_S) (s5 : q_S) (v1 : Int32) (v2 : Int32) (r : Int32) (h : zX3_as s2 v1 v2 = some r) : q_RO l E yX3_as cX3_as 3 (some .int) 2 [.ref (ad 0), .int v1, .int v2] (q_wX E ad s0 s1 s2 s3 s4 s5) (.int r) := by
  refine q_RO.intro (by decide) (Nat.le_of_ble_eq_true rfl) ?_
  intro p e s m args below meth c X hP ls hl
  obtain ⟨hx, hb, hml, hr, hlk, hown, hB, hE⟩ := X
  have hown : s.vm.findClass RX3 = some m.cls := hown
  have F : q_Fx p s m c E RX3 cX3_as 3 := ⟨hx, hb, hml, hown, hB, hE⟩
  have hV := q_EV.here hE
  have hl : lv_has ls 3 [(0, .ref (ad 0)), (1, .int v1), (2, .int v2)] := hl
  unfold zX3_as at h
  refine lv_aload_n hx hb dX3_as_0 rfl (lv_at hl 0 rfl) ?_
  refine q_get F q_K3 hP 0 rfl 1 (by decide) q_fX3_19 rfl dX3_as_1 ?_
  refine lv_iload_n hx hb dX3_as_4 rfl (lv_at hl 1 rfl) ?_
  obtain ⟨x1, c2, h⟩ := q_o1 h
  refine q_roV F (kX2_isEater l E (ad 10) (fun k => ad (10 + k)) s2 v1 x1 c2) q_cX2_isEater q_lX3_66 hV ((q_s_X_V_2 E ad s0 s1 s2 s3 s4 s5).P hP) ⟨by decide, by decide⟩ (q0 := 0) rfl rfl rfl rfl ⟨_, hl⟩ (rest := []) rfl (Nat.le_of_ble_eq_true rfl) dX3_as_5 ?_
  refine lv_if_ne (tgt := 14) hx hb dX3_as_8 (by decide) (fun c3 => ?_) (fun c3 => ?_)
  · replace h := q_i2 c3 h
    refine lv_iload_n hx hb dX3_as_14 rfl (lv_at hl 2 rfl) ?_
    refine lv_if_lt (tgt := 23) hx hb dX3_as_15 (by decide) (fun c4 => ?_) (fun c4 => ?_)
    · replace h := q_i1 c4 h
      refine lv_bipush (v := (-102)) hx hb dX3_as_23 (by decide) ?_
      exact q_rI F hr hlk dX3_as_25 h
    · replace h := q_i2 c4 h
      refine lv_iload_n hx hb dX3_as_18 rfl (lv_at hl 2 rfl) ?_
      refine lv_iconst (v := 4) hx hb dX3_as_19 (by decide) ?_
      refine lv_icmp_le (tgt := 26) hx hb dX3_as_20 (by decide) (fun c5 => ?_) (fun c5 => ?_)
      · replace h := q_i1 c5 h
        refine lv_aload_n hx hb dX3_as_26 rfl (lv_at hl 0 rfl) ?_
        refine q_get F q_K3 hP 0 rfl 1 (by decide) q_fX3_19 rfl dX3_as_27 ?_
        refine q_get F q_K2 hP 3 rfl 2 (by decide) q_fX3_73 rfl dX3_as_30 ?_
        refine lv_iload_n hx hb dX3_as_33 rfl (lv_at hl 1 rfl) ?_
        obtain ⟨eg6, h⟩ := q_og h
        refine q_iald F hP 4 rfl eg6 dX3_as_34 ?_
        refine lv_iload_n hx hb dX3_as_35 rfl (lv_at hl 2 rfl) ?_
        obtain ⟨x7, c8, h⟩ := q_o1 h
        refine q_roS F (kX3_isSuch l E  (s2 2 v1.toNatClampNeg) v2 x7 c8) q_cX3_isSuch q_lX3_77 hV (fun k q h => by simp at h) ⟨by decide, by decide⟩ rfl ⟨_, hl⟩ (rest := []) rfl (Nat.le_of_ble_eq_true rfl) dX3_as_36 ?_
        refine lv_if_eq (tgt := 46) hx hb dX3_as_39 (by decide) (fun c9 => ?_) (fun c9 => ?_)
        · replace h := q_i1 c9 h
          refine lv_iconst (v := (-1)) hx hb dX3_as_46 (by decide) ?_
          exact q_rI F hr hlk dX3_as_47 h
        · replace h := q_i2 c9 h
          refine lv_iload_n hx hb dX3_as_42 rfl (lv_at hl 1 rfl) ?_
          refine lv_goto (tgt := 47) hx hb dX3_as_43 (by decide) ?_
          exact q_rI F hr hlk dX3_as_47 h
      · replace h := q_i2 c5 h
        refine lv_bipush (v := (-102)) hx hb dX3_as_23 (by decide) ?_
        exact q_rI F hr hlk dX3_as_25 h
  · replace h := q_i1 c3 h
    refine lv_bipush (v := (-101)) hx hb dX3_as_11 (by decide) ?_
    exact q_rI F hr hlk dX3_as_13 h
def zX3_aboutLoaf (s2 : q_S) (v1 : Int32) (v2 : Int32) : Option (Int32) := q_b1 (zX2_isLoaf s2 v1) fun x1 => if x1 = 0 then (some (-101 : Int32)) else (if v2 = 0 then (q_gd (q_ib v1 8) (some (s2 8 v1.toNatClampNeg))) else (if v2 = 1 then (q_gd (q_ib v1 8) (some (s2 9 v1.toNatClampNeg))) else (if v2 = 2 then (q_b1 (zX2_wasEaten s2 v1) fun x9 => if x9 = 0 then (some (0 : Int32)) else (some (1 : Int32))) else (if v2 = 3 then (q_b1 (zX2_bakedInto s2 v1) fun x13 => some x13) else (if v2 = 4 then (q_b1 (zX2_bakedInto s2 v1) fun x16 => q_gd (q_ib v1 8) (q_b1 (zX3_bestQuestion x16 (s2 8 v1.toNatClampNeg)) fun x19 => some x19)) else (some (-102 : Int32)))))))
set_option maxHeartbeats 4000000 in
set_option maxRecDepth 100000 in
theorem kX3_aboutLoaf (l : Launch) (E : q_E) (ad : Nat → Nat) (s0 : q_S) (s1 : q_S) (s2 : q_S) (s3 : q_S) (s4 : q_S) (s5 : q_S) (v1 : Int32) (v2 : Int32) (r : Int32) (h : zX3_aboutLoaf s2 v1 v2 = some r) : q_RO l E yX3_aboutLoaf cX3_aboutLoaf 3 (some .int) 5 [.ref (ad 0), .int v1, .int v2] (q_wX E ad s0 s1 s2 s3 s4 s5) (.int r) := by
  refine q_RO.intro (by decide) (Nat.le_of_ble_eq_true rfl) ?_
  intro p e s m args below meth c X hP ls hl
  obtain ⟨hx, hb, hml, hr, hlk, hown, hB, hE⟩ := X
  have hown : s.vm.findClass RX3 = some m.cls := hown
  have F : q_Fx p s m c E RX3 cX3_aboutLoaf 3 := ⟨hx, hb, hml, hown, hB, hE⟩
  have hV := q_EV.here hE
  have hl : lv_has ls 3 [(0, .ref (ad 0)), (1, .int v1), (2, .int v2)] := hl
  unfold zX3_aboutLoaf at h
  refine lv_aload_n hx hb dX3_aboutLoaf_0 rfl (lv_at hl 0 rfl) ?_
  refine q_get F q_K3 hP 0 rfl 1 (by decide) q_fX3_19 rfl dX3_aboutLoaf_1 ?_
  refine lv_iload_n hx hb dX3_aboutLoaf_4 rfl (lv_at hl 1 rfl) ?_
  obtain ⟨x1, c2, h⟩ := q_o1 h
  refine q_roV F (kX2_isLoaf l E (ad 10) (fun k => ad (10 + k)) s2 v1 x1 c2) q_cX2_isLoaf q_lX3_81 hV ((q_s_X_V_2 E ad s0 s1 s2 s3 s4 s5).P hP) ⟨by decide, by decide⟩ (q0 := 0) rfl rfl rfl rfl ⟨_, hl⟩ (rest := []) rfl (Nat.le_of_ble_eq_true rfl) dX3_aboutLoaf_5 ?_
  refine lv_if_ne (tgt := 14) hx hb dX3_aboutLoaf_8 (by decide) (fun c3 => ?_) (fun c3 => ?_)
  · replace h := q_i2 c3 h
    refine lv_iload_n hx hb dX3_aboutLoaf_14 rfl (lv_at hl 2 rfl) ?_
    by_cases c4 : v2 = 0
    · replace h := q_i1 c4 h
      refine lv_tableIn (off := 33) (tgt := 48) hx hb dX3_aboutLoaf_15 (by rw [c4]; decide) (by rw [c4]; decide) (by rw [c4]; rfl) (by decide) ?_
      refine lv_aload_n hx hb dX3_aboutLoaf_48 rfl (lv_at hl 0 rfl) ?_
      refine q_get F q_K3 hP 0 rfl 1 (by decide) q_fX3_19 rfl dX3_aboutLoaf_49 ?_
      refine q_get F q_K2 hP 3 rfl 8 (by decide) q_fX3_196 rfl dX3_aboutLoaf_52 ?_
      refine lv_iload_n hx hb dX3_aboutLoaf_55 rfl (lv_at hl 1 rfl) ?_
      obtain ⟨eg5, h⟩ := q_og h
      refine q_iald F hP 8 rfl eg5 dX3_aboutLoaf_56 ?_
      exact q_rI F hr hlk dX3_aboutLoaf_57 h
    · replace h := q_i2 c4 h
      by_cases c6 : v2 = 1
      · replace h := q_i1 c6 h
        refine lv_tableIn (off := 43) (tgt := 58) hx hb dX3_aboutLoaf_15 (by rw [c6]; decide) (by rw [c6]; decide) (by rw [c6]; rfl) (by decide) ?_
        refine lv_aload_n hx hb dX3_aboutLoaf_58 rfl (lv_at hl 0 rfl) ?_
        refine q_get F q_K3 hP 0 rfl 1 (by decide) q_fX3_19 rfl dX3_aboutLoaf_59 ?_
        refine q_get F q_K2 hP 3 rfl 9 (by decide) q_fX3_199 rfl dX3_aboutLoaf_62 ?_
        refine lv_iload_n hx hb dX3_aboutLoaf_65 rfl (lv_at hl 1 rfl) ?_
        obtain ⟨eg7, h⟩ := q_og h
        refine q_iald F hP 9 rfl eg7 dX3_aboutLoaf_66 ?_
        exact q_rI F hr hlk dX3_aboutLoaf_67 h
      · replace h := q_i2 c6 h
        by_cases c8 : v2 = 2
        · replace h := q_i1 c8 h
          refine lv_tableIn (off := 53) (tgt := 68) hx hb dX3_aboutLoaf_15 (by rw [c8]; decide) (by rw [c8]; decide) (by rw [c8]; rfl) (by decide) ?_
          refine lv_aload_n hx hb dX3_aboutLoaf_68 rfl (lv_at hl 0 rfl) ?_
          refine q_get F q_K3 hP 0 rfl 1 (by decide) q_fX3_19 rfl dX3_aboutLoaf_69 ?_
          refine lv_iload_n hx hb dX3_aboutLoaf_72 rfl (lv_at hl 1 rfl) ?_
          obtain ⟨x9, c10, h⟩ := q_o1 h
          refine q_roV F (kX2_wasEaten l E (ad 10) (fun k => ad (10 + k)) s2 v1 x9 c10) q_cX2_wasEaten q_lX3_202 hV ((q_s_X_V_2 E ad s0 s1 s2 s3 s4 s5).P hP) ⟨by decide, by decide⟩ (q0 := 0) rfl rfl rfl rfl ⟨_, hl⟩ (rest := []) rfl (Nat.le_of_ble_eq_true rfl) dX3_aboutLoaf_73 ?_
          refine lv_if_eq (tgt := 83) hx hb dX3_aboutLoaf_76 (by decide) (fun c11 => ?_) (fun c11 => ?_)
          · replace h := q_i1 c11 h
            refine lv_iconst (v := 0) hx hb dX3_aboutLoaf_83 (by decide) ?_
            exact q_rI F hr hlk dX3_aboutLoaf_84 h
          · replace h := q_i2 c11 h
            refine lv_iconst (v := 1) hx hb dX3_aboutLoaf_79 (by decide) ?_
            refine lv_goto (tgt := 84) hx hb dX3_aboutLoaf_80 (by decide) ?_
            exact q_rI F hr hlk dX3_aboutLoaf_84 h
        · replace h := q_i2 c8 h
          by_cases c12 : v2 = 3
          · replace h := q_i1 c12 h
            refine lv_tableIn (off := 70) (tgt := 85) hx hb dX3_aboutLoaf_15 (by rw [c12]; decide) (by rw [c12]; decide) (by rw [c12]; rfl) (by decide) ?_
            refine lv_aload_n hx hb dX3_aboutLoaf_85 rfl (lv_at hl 0 rfl) ?_
            refine q_get F q_K3 hP 0 rfl 1 (by decide) q_fX3_19 rfl dX3_aboutLoaf_86 ?_
            refine lv_iload_n hx hb dX3_aboutLoaf_89 rfl (lv_at hl 1 rfl) ?_
            obtain ⟨x13, c14, h⟩ := q_o1 h
            refine q_roV F (kX2_bakedInto l E (ad 10) (fun k => ad (10 + k)) s2 v1 x13 c14) q_cX2_bakedInto q_lX3_205 hV ((q_s_X_V_2 E ad s0 s1 s2 s3 s4 s5).P hP) ⟨by decide, by decide⟩ (q0 := 0) rfl rfl rfl rfl ⟨_, hl⟩ (rest := []) rfl (Nat.le_of_ble_eq_true rfl) dX3_aboutLoaf_90 ?_
            exact q_rI F hr hlk dX3_aboutLoaf_93 h
          · replace h := q_i2 c12 h
            by_cases c15 : v2 = 4
            · replace h := q_i1 c15 h
              refine lv_tableIn (off := 79) (tgt := 94) hx hb dX3_aboutLoaf_15 (by rw [c15]; decide) (by rw [c15]; decide) (by rw [c15]; rfl) (by decide) ?_
              refine lv_aload_n hx hb dX3_aboutLoaf_94 rfl (lv_at hl 0 rfl) ?_
              refine q_get F q_K3 hP 0 rfl 1 (by decide) q_fX3_19 rfl dX3_aboutLoaf_95 ?_
              refine lv_iload_n hx hb dX3_aboutLoaf_98 rfl (lv_at hl 1 rfl) ?_
              obtain ⟨x16, c17, h⟩ := q_o1 h
              refine q_roV F (kX2_bakedInto l E (ad 10) (fun k => ad (10 + k)) s2 v1 x16 c17) q_cX2_bakedInto q_lX3_205 hV ((q_s_X_V_2 E ad s0 s1 s2 s3 s4 s5).P hP) ⟨by decide, by decide⟩ (q0 := 0) rfl rfl rfl rfl ⟨_, hl⟩ (rest := []) rfl (Nat.le_of_ble_eq_true rfl) dX3_aboutLoaf_99 ?_
              refine lv_aload_n hx hb dX3_aboutLoaf_102 rfl (lv_at hl 0 rfl) ?_
              refine q_get F q_K3 hP 0 rfl 1 (by decide) q_fX3_19 rfl dX3_aboutLoaf_103 ?_
              refine q_get F q_K2 hP 3 rfl 8 (by decide) q_fX3_196 rfl dX3_aboutLoaf_106 ?_
              refine lv_iload_n hx hb dX3_aboutLoaf_109 rfl (lv_at hl 1 rfl) ?_
              obtain ⟨eg18, h⟩ := q_og h
              refine q_iald F hP 8 rfl eg18 dX3_aboutLoaf_110 ?_
              obtain ⟨x19, c20, h⟩ := q_o1 h
              refine q_roS F (kX3_bestQuestion l E  x16 (s2 8 v1.toNatClampNeg) x19 c20) q_cX3_bestQuestion q_lX3_208 hV (fun k q h => by simp at h) ⟨by decide, by decide⟩ rfl ⟨_, hl⟩ (rest := []) rfl (Nat.le_of_ble_eq_true rfl) dX3_aboutLoaf_111 ?_
              exact q_rI F hr hlk dX3_aboutLoaf_114 h
            · replace h := q_i2 c15 h
              refine lv_tableOut (tgt := 115) hx hb dX3_aboutLoaf_15 (by have zc4 := lv_neT c4 (a := 0) (by decide); have zc6 := lv_neT c6 (a := 1) (by decide); have zc8 := lv_neT c8 (a := 2) (by decide); have zc12 := lv_neT c12 (a := 3) (by decide); have zc15 := lv_neT c15 (a := 4) (by decide); omega) (by decide) ?_
              refine lv_bipush (v := (-102)) hx hb dX3_aboutLoaf_115 (by decide) ?_
              exact q_rI F hr hlk dX3_aboutLoaf_117 h
  · replace h := q_i1 c3 h
    refine lv_bipush (v := (-101)) hx hb dX3_aboutLoaf_11 (by decide) ?_
    exact q_rI F hr hlk dX3_aboutLoaf_13 h
def zX3_loaf (s2 : q_S) (v1 : Int32) (v2 : Int32) : Option (Int32) := q_b1 (zX2_isLoaf s2 v1) fun x1 => if x1 = 0 then (some (-101 : Int32)) else (if v2 < 0 then (some (-102 : Int32)) else (if v2 ≤ (4 : Int32) then (q_b1 (zX3_aboutLoaf s2 v1 v2) fun x6 => some x6) else (some (-102 : Int32))))
set_option maxHeartbeats 4000000 in
set_option maxRecDepth 100000 in
theorem kX3_loaf (l : Launch) (E : q_E) (ad : Nat → Nat) (s0 : q_S) (s1 : q_S) (s2 : q_S) (s3 : q_S) (s4 : q_S) (s5 : q_S) (v1 : Int32) (v2 : Int32) (r : Int32) (h : zX3_loaf s2 v1 v2 = some r) : q_RO l E yX3_loaf cX3_loaf 3 (some .int) 6 [.ref (ad 0), .int v1, .int v2] (q_wX E ad s0 s1 s2 s3 s4 s5) (.int r) := by
  refine q_RO.intro (by decide) (Nat.le_of_ble_eq_true rfl) ?_
  intro p e s m args below meth c X hP ls hl
  obtain ⟨hx, hb, hml, hr, hlk, hown, hB, hE⟩ := X
  have hown : s.vm.findClass RX3 = some m.cls := hown
  have F : q_Fx p s m c E RX3 cX3_loaf 3 := ⟨hx, hb, hml, hown, hB, hE⟩
  have hV := q_EV.here hE
  have hl : lv_has ls 3 [(0, .ref (ad 0)), (1, .int v1), (2, .int v2)] := hl
  unfold zX3_loaf at h
  refine lv_aload_n hx hb dX3_loaf_0 rfl (lv_at hl 0 rfl) ?_
  refine q_get F q_K3 hP 0 rfl 1 (by decide) q_fX3_19 rfl dX3_loaf_1 ?_
  refine lv_iload_n hx hb dX3_loaf_4 rfl (lv_at hl 1 rfl) ?_
  obtain ⟨x1, c2, h⟩ := q_o1 h
  refine q_roV F (kX2_isLoaf l E (ad 10) (fun k => ad (10 + k)) s2 v1 x1 c2) q_cX2_isLoaf q_lX3_81 hV ((q_s_X_V_2 E ad s0 s1 s2 s3 s4 s5).P hP) ⟨by decide, by decide⟩ (q0 := 0) rfl rfl rfl rfl ⟨_, hl⟩ (rest := []) rfl (Nat.le_of_ble_eq_true rfl) dX3_loaf_5 ?_
  refine lv_if_ne (tgt := 14) hx hb dX3_loaf_8 (by decide) (fun c3 => ?_) (fun c3 => ?_)
  · replace h := q_i2 c3 h
    refine lv_iload_n hx hb dX3_loaf_14 rfl (lv_at hl 2 rfl) ?_
    refine lv_if_lt (tgt := 23) hx hb dX3_loaf_15 (by decide) (fun c4 => ?_) (fun c4 => ?_)
    · replace h := q_i1 c4 h
      refine lv_bipush (v := (-102)) hx hb dX3_loaf_23 (by decide) ?_
      exact q_rI F hr hlk dX3_loaf_25 h
    · replace h := q_i2 c4 h
      refine lv_iload_n hx hb dX3_loaf_18 rfl (lv_at hl 2 rfl) ?_
      refine lv_iconst (v := 4) hx hb dX3_loaf_19 (by decide) ?_
      refine lv_icmp_le (tgt := 26) hx hb dX3_loaf_20 (by decide) (fun c5 => ?_) (fun c5 => ?_)
      · replace h := q_i1 c5 h
        refine lv_aload_n hx hb dX3_loaf_26 rfl (lv_at hl 0 rfl) ?_
        refine lv_iload_n hx hb dX3_loaf_27 rfl (lv_at hl 1 rfl) ?_
        refine lv_iload_n hx hb dX3_loaf_28 rfl (lv_at hl 2 rfl) ?_
        obtain ⟨x6, c7, h⟩ := q_o1 h
        refine q_roV F (kX3_aboutLoaf l E ad s0 s1 s2 s3 s4 s5 v1 v2 x6 c7) q_cX3_aboutLoaf q_lX3_84 hV hP ⟨by decide, by decide⟩ (q0 := 0) rfl rfl rfl rfl ⟨_, hl⟩ (rest := []) rfl (Nat.le_of_ble_eq_true rfl) dX3_loaf_29 ?_
        exact q_rI F hr hlk dX3_loaf_32 h
      · replace h := q_i2 c5 h
        refine lv_bipush (v := (-102)) hx hb dX3_loaf_23 (by decide) ?_
        exact q_rI F hr hlk dX3_loaf_25 h
  · replace h := q_i1 c3 h
    refine lv_bipush (v := (-101)) hx hb dX3_loaf_11 (by decide) ?_
    exact q_rI F hr hlk dX3_loaf_13 h
def zX3_eat (s2 : q_S) (v1 : Int32) (v2 : Int32) : Option (Int32 × q_S) := q_b1 (zX2_isEater s2 v1) fun x1 => if x1 = 0 then (some ((-101 : Int32), s2)) else (q_b1 (zX2_isLoaf s2 v2) fun x4 => if x4 = 0 then (some ((-101 : Int32), s2)) else (q_b1 (zX2_wouldTake s2 v1 v2) fun x7 => if x7 = 0 then (some ((-103 : Int32), s2)) else (q_b1 (zX2_takeWhole s2 v1 v2) fun y10 => q_gd (q_ib v1 4) (some ((y10 4 v1.toNatClampNeg), y10)))))
set_option maxHeartbeats 4000000 in
set_option maxRecDepth 100000 in
theorem kX3_eat (l : Launch) (E : q_E) (ad : Nat → Nat) (s0 : q_S) (s1 : q_S) (s2 : q_S) (s3 : q_S) (s4 : q_S) (s5 : q_S) (v1 : Int32) (v2 : Int32) (sz : Nat) (r : Int32) (rs2 : q_S) (h : zX3_eat s2 v1 v2 = some (r, rs2)) : q_MU l E yX3_eat cX3_eat 3 (some .int) 4 [.ref (ad 0), .int v1, .int v2] sz (q_wX E ad s0 s1 s2 s3 s4 s5) (q_wX E ad s0 s1 rs2 s3 s4 s5) (some (.int r)) := by
  refine q_MU.intro (by decide) (Nat.le_of_ble_eq_true rfl) ?_
  intro p e s m args below meth c A X hP hD hA hAl ls hl
  obtain ⟨hx, hb, hml, hr, hlk, hown, hB, hE⟩ := X
  have hown : s.vm.findClass RX3 = some m.cls := hown
  have F : q_Fx p s m c E RX3 cX3_eat 3 := ⟨hx, hb, hml, hown, hB, hE⟩
  have hS : va_S A s.heap s.heap [] := va_S.rf
  have hl : lv_has ls 3 [(0, .ref (ad 0)), (1, .int v1), (2, .int v2)] := hl
  unfold zX3_eat at h
  refine lv_aload_n hx hb dX3_eat_0 rfl (lv_at hl 0 rfl) ?_
  refine q_get F q_K3 hP 0 rfl 1 (by decide) q_fX3_19 rfl dX3_eat_1 ?_
  refine lv_iload_n hx hb dX3_eat_4 rfl (lv_at hl 1 rfl) ?_
  obtain ⟨x1, c2, h⟩ := q_o1 h
  refine q_roV F (kX2_isEater l E (ad 10) (fun k => ad (10 + k)) s2 v1 x1 c2) q_cX2_isEater q_lX3_66 (q_EV.go F.2.2.2.2.2 hAl hS) ((q_s_X_V_2 E ad s0 s1 s2 s3 s4 s5).P hP) ⟨by decide, by decide⟩ (q0 := 0) rfl rfl rfl rfl ⟨_, hl⟩ (rest := []) rfl (Nat.le_of_ble_eq_true rfl) dX3_eat_5 ?_
  refine lv_if_eq (tgt := 22) hx hb dX3_eat_8 (by decide) (fun c3 => ?_) (fun c3 => ?_)
  · replace h := q_i1 c3 h
    refine lv_bipush (v := (-101)) hx hb dX3_eat_22 (by decide) ?_
    cases h
    exact q_wI F hr hlk dX3_eat_24 hP hD hS
  · replace h := q_i2 c3 h
    refine lv_aload_n hx hb dX3_eat_11 rfl (lv_at hl 0 rfl) ?_
    refine q_get F q_K3 hP 0 rfl 1 (by decide) q_fX3_19 rfl dX3_eat_12 ?_
    refine lv_iload_n hx hb dX3_eat_15 rfl (lv_at hl 2 rfl) ?_
    obtain ⟨x4, c5, h⟩ := q_o1 h
    refine q_roV F (kX2_isLoaf l E (ad 10) (fun k => ad (10 + k)) s2 v2 x4 c5) q_cX2_isLoaf q_lX3_81 (q_EV.go F.2.2.2.2.2 hAl hS) ((q_s_X_V_2 E ad s0 s1 s2 s3 s4 s5).P hP) ⟨by decide, by decide⟩ (q0 := 0) rfl rfl rfl rfl ⟨_, hl⟩ (rest := []) rfl (Nat.le_of_ble_eq_true rfl) dX3_eat_16 ?_
    refine lv_if_ne (tgt := 25) hx hb dX3_eat_19 (by decide) (fun c6 => ?_) (fun c6 => ?_)
    · replace h := q_i2 c6 h
      refine lv_aload_n hx hb dX3_eat_25 rfl (lv_at hl 0 rfl) ?_
      refine q_get F q_K3 hP 0 rfl 1 (by decide) q_fX3_19 rfl dX3_eat_26 ?_
      refine lv_iload_n hx hb dX3_eat_29 rfl (lv_at hl 1 rfl) ?_
      refine lv_iload_n hx hb dX3_eat_30 rfl (lv_at hl 2 rfl) ?_
      obtain ⟨x7, c8, h⟩ := q_o1 h
      refine q_roV F (kX2_wouldTake l E (ad 10) (fun k => ad (10 + k)) s2 v1 v2 x7 c8) q_cX2_wouldTake q_lX3_87 (q_EV.go F.2.2.2.2.2 hAl hS) ((q_s_X_V_2 E ad s0 s1 s2 s3 s4 s5).P hP) ⟨by decide, by decide⟩ (q0 := 0) rfl rfl rfl rfl ⟨_, hl⟩ (rest := []) rfl (Nat.le_of_ble_eq_true rfl) dX3_eat_31 ?_
      refine lv_if_ne (tgt := 40) hx hb dX3_eat_34 (by decide) (fun c9 => ?_) (fun c9 => ?_)
      · replace h := q_i2 c9 h
        refine lv_aload_n hx hb dX3_eat_40 rfl (lv_at hl 0 rfl) ?_
        refine q_get F q_K3 hP 0 rfl 1 (by decide) q_fX3_19 rfl dX3_eat_41 ?_
        refine lv_iload_n hx hb dX3_eat_44 rfl (lv_at hl 1 rfl) ?_
        refine lv_iload_n hx hb dX3_eat_45 rfl (lv_at hl 2 rfl) ?_
        obtain ⟨y10, c11, h⟩ := q_o1 h
        refine q_muV F (kX2_takeWhole l E (ad 10) (fun k => ad (10 + k)) s2 v1 v2 s.heap.size y10 c11) q_cX2_takeWhole q_lX3_90 (q_s_X_V_2w E ad s0 s1 s2 s3 s4 s5 y10) hP hD hS hA hAl ⟨by decide, by decide⟩ (q0 := 0) rfl rfl rfl rfl ⟨_, hl⟩ (rest := []) rfl (Nat.le_of_ble_eq_true rfl) dX3_eat_46 (fun H locs (hP : va_P (q_D E) vwCl (q_wX E ad s0 s1 y10 s3 s4 s5) H) hD hS => ?_)
        refine lv_aload_n hx hb dX3_eat_49 rfl (lv_at hl 0 rfl) ?_
        refine q_get F q_K3 hP 0 rfl 1 (by decide) q_fX3_19 rfl dX3_eat_50 ?_
        refine q_get F q_K2 hP 3 rfl 4 (by decide) q_fX3_94 rfl dX3_eat_53 ?_
        refine lv_iload_n hx hb dX3_eat_56 rfl (lv_at hl 1 rfl) ?_
        obtain ⟨eg12, h⟩ := q_og h
        refine q_iald F hP 6 rfl eg12 dX3_eat_57 ?_
        cases h
        exact q_wI F hr hlk dX3_eat_58 hP hD hS
      · replace h := q_i1 c9 h
        refine lv_bipush (v := (-103)) hx hb dX3_eat_37 (by decide) ?_
        cases h
        exact q_wI F hr hlk dX3_eat_39 hP hD hS
    · replace h := q_i1 c6 h
      refine lv_bipush (v := (-101)) hx hb dX3_eat_22 (by decide) ?_
      cases h
      exact q_wI F hr hlk dX3_eat_24 hP hD hS
def zX3_halve (s2 : q_S) (v1 : Int32) (v2 : Int32) (v3 : Int32) : Option (Int32 × q_S) := q_b1 (zX2_isEater s2 v1) fun x1 => if x1 = 0 then (some ((-101 : Int32), s2)) else (q_b1 (zX2_isEater s2 v2) fun x4 => if x4 = 0 then (some ((-101 : Int32), s2)) else (if v1 = v2 then (some ((-101 : Int32), s2)) else (q_b1 (zX2_isLoaf s2 v3) fun x8 => if x8 = 0 then (some ((-101 : Int32), s2)) else (q_b1 (zX2_wouldTake s2 v1 v3) fun x11 => if x11 = 0 then (some ((-103 : Int32), s2)) else (q_b1 (zX2_wouldTake s2 v2 v3) fun x14 => if x14 = 0 then (some ((-103 : Int32), s2)) else (q_b1 (zX2_takeHalves s2 v1 v2 v3) fun y17 => q_gd (q_ib v1 4) (q_gd (q_ib v2 4) (some (((y17 4 v1.toNatClampNeg) + (y17 4 v2.toNatClampNeg)), y17)))))))))
set_option maxHeartbeats 4000000 in
set_option maxRecDepth 100000 in
theorem kX3_halve (l : Launch) (E : q_E) (ad : Nat → Nat) (s0 : q_S) (s1 : q_S) (s2 : q_S) (s3 : q_S) (s4 : q_S) (s5 : q_S) (v1 : Int32) (v2 : Int32) (v3 : Int32) (sz : Nat) (r : Int32) (rs2 : q_S) (h : zX3_halve s2 v1 v2 v3 = some (r, rs2)) : q_MU l E yX3_halve cX3_halve 4 (some .int) 4 [.ref (ad 0), .int v1, .int v2, .int v3] sz (q_wX E ad s0 s1 s2 s3 s4 s5) (q_wX E ad s0 s1 rs2 s3 s4 s5) (some (.int r)) := by
  refine q_MU.intro (by decide) (Nat.le_of_ble_eq_true rfl) ?_
  intro p e s m args below meth c A X hP hD hA hAl ls hl
  obtain ⟨hx, hb, hml, hr, hlk, hown, hB, hE⟩ := X
  have hown : s.vm.findClass RX3 = some m.cls := hown
  have F : q_Fx p s m c E RX3 cX3_halve 4 := ⟨hx, hb, hml, hown, hB, hE⟩
  have hS : va_S A s.heap s.heap [] := va_S.rf
  have hl : lv_has ls 4 [(0, .ref (ad 0)), (1, .int v1), (2, .int v2), (3, .int v3)] := hl
  unfold zX3_halve at h
  refine lv_aload_n hx hb dX3_halve_0 rfl (lv_at hl 0 rfl) ?_
  refine q_get F q_K3 hP 0 rfl 1 (by decide) q_fX3_19 rfl dX3_halve_1 ?_
  refine lv_iload_n hx hb dX3_halve_4 rfl (lv_at hl 1 rfl) ?_
  obtain ⟨x1, c2, h⟩ := q_o1 h
  refine q_roV F (kX2_isEater l E (ad 10) (fun k => ad (10 + k)) s2 v1 x1 c2) q_cX2_isEater q_lX3_66 (q_EV.go F.2.2.2.2.2 hAl hS) ((q_s_X_V_2 E ad s0 s1 s2 s3 s4 s5).P hP) ⟨by decide, by decide⟩ (q0 := 0) rfl rfl rfl rfl ⟨_, hl⟩ (rest := []) rfl (Nat.le_of_ble_eq_true rfl) dX3_halve_5 ?_
  refine lv_if_eq (tgt := 38) hx hb dX3_halve_8 (by decide) (fun c3 => ?_) (fun c3 => ?_)
  · replace h := q_i1 c3 h
    refine lv_bipush (v := (-101)) hx hb dX3_halve_38 (by decide) ?_
    cases h
    exact q_wI F hr hlk dX3_halve_40 hP hD hS
  · replace h := q_i2 c3 h
    refine lv_aload_n hx hb dX3_halve_11 rfl (lv_at hl 0 rfl) ?_
    refine q_get F q_K3 hP 0 rfl 1 (by decide) q_fX3_19 rfl dX3_halve_12 ?_
    refine lv_iload_n hx hb dX3_halve_15 rfl (lv_at hl 2 rfl) ?_
    obtain ⟨x4, c5, h⟩ := q_o1 h
    refine q_roV F (kX2_isEater l E (ad 10) (fun k => ad (10 + k)) s2 v2 x4 c5) q_cX2_isEater q_lX3_66 (q_EV.go F.2.2.2.2.2 hAl hS) ((q_s_X_V_2 E ad s0 s1 s2 s3 s4 s5).P hP) ⟨by decide, by decide⟩ (q0 := 0) rfl rfl rfl rfl ⟨_, hl⟩ (rest := []) rfl (Nat.le_of_ble_eq_true rfl) dX3_halve_16 ?_
    refine lv_if_eq (tgt := 38) hx hb dX3_halve_19 (by decide) (fun c6 => ?_) (fun c6 => ?_)
    · replace h := q_i1 c6 h
      refine lv_bipush (v := (-101)) hx hb dX3_halve_38 (by decide) ?_
      cases h
      exact q_wI F hr hlk dX3_halve_40 hP hD hS
    · replace h := q_i2 c6 h
      refine lv_iload_n hx hb dX3_halve_22 rfl (lv_at hl 1 rfl) ?_
      refine lv_iload_n hx hb dX3_halve_23 rfl (lv_at hl 2 rfl) ?_
      refine lv_icmp_eq (tgt := 38) hx hb dX3_halve_24 (by decide) (fun c7 => ?_) (fun c7 => ?_)
      · replace h := q_i1 c7 h
        refine lv_bipush (v := (-101)) hx hb dX3_halve_38 (by decide) ?_
        cases h
        exact q_wI F hr hlk dX3_halve_40 hP hD hS
      · replace h := q_i2 c7 h
        refine lv_aload_n hx hb dX3_halve_27 rfl (lv_at hl 0 rfl) ?_
        refine q_get F q_K3 hP 0 rfl 1 (by decide) q_fX3_19 rfl dX3_halve_28 ?_
        refine lv_iload_n hx hb dX3_halve_31 rfl (lv_at hl 3 rfl) ?_
        obtain ⟨x8, c9, h⟩ := q_o1 h
        refine q_roV F (kX2_isLoaf l E (ad 10) (fun k => ad (10 + k)) s2 v3 x8 c9) q_cX2_isLoaf q_lX3_81 (q_EV.go F.2.2.2.2.2 hAl hS) ((q_s_X_V_2 E ad s0 s1 s2 s3 s4 s5).P hP) ⟨by decide, by decide⟩ (q0 := 0) rfl rfl rfl rfl ⟨_, hl⟩ (rest := []) rfl (Nat.le_of_ble_eq_true rfl) dX3_halve_32 ?_
        refine lv_if_ne (tgt := 41) hx hb dX3_halve_35 (by decide) (fun c10 => ?_) (fun c10 => ?_)
        · replace h := q_i2 c10 h
          refine lv_aload_n hx hb dX3_halve_41 rfl (lv_at hl 0 rfl) ?_
          refine q_get F q_K3 hP 0 rfl 1 (by decide) q_fX3_19 rfl dX3_halve_42 ?_
          refine lv_iload_n hx hb dX3_halve_45 rfl (lv_at hl 1 rfl) ?_
          refine lv_iload_n hx hb dX3_halve_46 rfl (lv_at hl 3 rfl) ?_
          obtain ⟨x11, c12, h⟩ := q_o1 h
          refine q_roV F (kX2_wouldTake l E (ad 10) (fun k => ad (10 + k)) s2 v1 v3 x11 c12) q_cX2_wouldTake q_lX3_87 (q_EV.go F.2.2.2.2.2 hAl hS) ((q_s_X_V_2 E ad s0 s1 s2 s3 s4 s5).P hP) ⟨by decide, by decide⟩ (q0 := 0) rfl rfl rfl rfl ⟨_, hl⟩ (rest := []) rfl (Nat.le_of_ble_eq_true rfl) dX3_halve_47 ?_
          refine lv_if_eq (tgt := 65) hx hb dX3_halve_50 (by decide) (fun c13 => ?_) (fun c13 => ?_)
          · replace h := q_i1 c13 h
            refine lv_bipush (v := (-103)) hx hb dX3_halve_65 (by decide) ?_
            cases h
            exact q_wI F hr hlk dX3_halve_67 hP hD hS
          · replace h := q_i2 c13 h
            refine lv_aload_n hx hb dX3_halve_53 rfl (lv_at hl 0 rfl) ?_
            refine q_get F q_K3 hP 0 rfl 1 (by decide) q_fX3_19 rfl dX3_halve_54 ?_
            refine lv_iload_n hx hb dX3_halve_57 rfl (lv_at hl 2 rfl) ?_
            refine lv_iload_n hx hb dX3_halve_58 rfl (lv_at hl 3 rfl) ?_
            obtain ⟨x14, c15, h⟩ := q_o1 h
            refine q_roV F (kX2_wouldTake l E (ad 10) (fun k => ad (10 + k)) s2 v2 v3 x14 c15) q_cX2_wouldTake q_lX3_87 (q_EV.go F.2.2.2.2.2 hAl hS) ((q_s_X_V_2 E ad s0 s1 s2 s3 s4 s5).P hP) ⟨by decide, by decide⟩ (q0 := 0) rfl rfl rfl rfl ⟨_, hl⟩ (rest := []) rfl (Nat.le_of_ble_eq_true rfl) dX3_halve_59 ?_
            refine lv_if_ne (tgt := 68) hx hb dX3_halve_62 (by decide) (fun c16 => ?_) (fun c16 => ?_)
            · replace h := q_i2 c16 h
              refine lv_aload_n hx hb dX3_halve_68 rfl (lv_at hl 0 rfl) ?_
              refine q_get F q_K3 hP 0 rfl 1 (by decide) q_fX3_19 rfl dX3_halve_69 ?_
              refine lv_iload_n hx hb dX3_halve_72 rfl (lv_at hl 1 rfl) ?_
              refine lv_iload_n hx hb dX3_halve_73 rfl (lv_at hl 2 rfl) ?_
              refine lv_iload_n hx hb dX3_halve_74 rfl (lv_at hl 3 rfl) ?_
              obtain ⟨y17, c18, h⟩ := q_o1 h
              refine q_muV F (kX2_takeHalves l E (ad 10) (fun k => ad (10 + k)) s2 v1 v2 v3 s.heap.size y17 c18) q_cX2_takeHalves q_lX3_97 (q_s_X_V_2w E ad s0 s1 s2 s3 s4 s5 y17) hP hD hS hA hAl ⟨by decide, by decide⟩ (q0 := 0) rfl rfl rfl rfl ⟨_, hl⟩ (rest := []) rfl (Nat.le_of_ble_eq_true rfl) dX3_halve_75 (fun H locs (hP : va_P (q_D E) vwCl (q_wX E ad s0 s1 y17 s3 s4 s5) H) hD hS => ?_)
              refine lv_aload_n hx hb dX3_halve_78 rfl (lv_at hl 0 rfl) ?_
              refine q_get F q_K3 hP 0 rfl 1 (by decide) q_fX3_19 rfl dX3_halve_79 ?_
              refine q_get F q_K2 hP 3 rfl 4 (by decide) q_fX3_94 rfl dX3_halve_82 ?_
              refine lv_iload_n hx hb dX3_halve_85 rfl (lv_at hl 1 rfl) ?_
              obtain ⟨eg19, h⟩ := q_og h
              refine q_iald F hP 6 rfl eg19 dX3_halve_86 ?_
              refine lv_aload_n hx hb dX3_halve_87 rfl (lv_at hl 0 rfl) ?_
              refine q_get F q_K3 hP 0 rfl 1 (by decide) q_fX3_19 rfl dX3_halve_88 ?_
              refine q_get F q_K2 hP 3 rfl 4 (by decide) q_fX3_94 rfl dX3_halve_91 ?_
              refine lv_iload_n hx hb dX3_halve_94 rfl (lv_at hl 2 rfl) ?_
              obtain ⟨eg20, h⟩ := q_og h
              refine q_iald F hP 6 rfl eg20 dX3_halve_95 ?_
              refine lv_iadd hx hb dX3_halve_96 ?_
              cases h
              exact q_wI F hr hlk dX3_halve_97 hP hD hS
            · replace h := q_i1 c16 h
              refine lv_bipush (v := (-103)) hx hb dX3_halve_65 (by decide) ?_
              cases h
              exact q_wI F hr hlk dX3_halve_67 hP hD hS
        · replace h := q_i1 c10 h
          refine lv_bipush (v := (-101)) hx hb dX3_halve_38 (by decide) ?_
          cases h
          exact q_wI F hr hlk dX3_halve_40 hP hD hS
def zX3_winter (s2 : q_S) : Option (Int32 × q_S) := q_b1 (zX2_isRead s2) fun x1 => if x1 = 0 then (some ((-103 : Int32), s2)) else (q_b1 (zX2_passWinter s2) fun y4 => q_b1 (zX3_sumOf 4 (y4 4)) fun x6 => some (x6, y4))
set_option maxHeartbeats 4000000 in
set_option maxRecDepth 100000 in
theorem kX3_winter (l : Launch) (E : q_E) (ad : Nat → Nat) (s0 : q_S) (s1 : q_S) (s2 : q_S) (s3 : q_S) (s4 : q_S) (s5 : q_S)  (sz : Nat) (r : Int32) (rs2 : q_S) (h : zX3_winter s2 = some (r, rs2)) : q_MU l E yX3_winter cX3_winter 1 (some .int) 4 [.ref (ad 0)] sz (q_wX E ad s0 s1 s2 s3 s4 s5) (q_wX E ad s0 s1 rs2 s3 s4 s5) (some (.int r)) := by
  refine q_MU.intro (by decide) (Nat.le_of_ble_eq_true rfl) ?_
  intro p e s m args below meth c A X hP hD hA hAl ls hl
  obtain ⟨hx, hb, hml, hr, hlk, hown, hB, hE⟩ := X
  have hown : s.vm.findClass RX3 = some m.cls := hown
  have F : q_Fx p s m c E RX3 cX3_winter 1 := ⟨hx, hb, hml, hown, hB, hE⟩
  have hS : va_S A s.heap s.heap [] := va_S.rf
  have hl : lv_has ls 1 [(0, .ref (ad 0))] := hl
  unfold zX3_winter at h
  refine lv_aload_n hx hb dX3_winter_0 rfl (lv_at hl 0 rfl) ?_
  refine q_get F q_K3 hP 0 rfl 1 (by decide) q_fX3_19 rfl dX3_winter_1 ?_
  obtain ⟨x1, c2, h⟩ := q_o1 h
  refine q_roV F (kX2_isRead l E (ad 10) (fun k => ad (10 + k)) s2 x1 c2) q_cX2_isRead q_lX3_101 (q_EV.go F.2.2.2.2.2 hAl hS) ((q_s_X_V_2 E ad s0 s1 s2 s3 s4 s5).P hP) ⟨by decide, by decide⟩ (q0 := 0) rfl rfl rfl rfl ⟨_, hl⟩ (rest := []) rfl (Nat.le_of_ble_eq_true rfl) dX3_winter_4 ?_
  refine lv_if_ne (tgt := 13) hx hb dX3_winter_7 (by decide) (fun c3 => ?_) (fun c3 => ?_)
  · replace h := q_i2 c3 h
    refine lv_aload_n hx hb dX3_winter_13 rfl (lv_at hl 0 rfl) ?_
    refine q_get F q_K3 hP 0 rfl 1 (by decide) q_fX3_19 rfl dX3_winter_14 ?_
    obtain ⟨y4, c5, h⟩ := q_o1 h
    refine q_muV F (kX2_passWinter l E (ad 10) (fun k => ad (10 + k)) s2 s.heap.size y4 c5) q_cX2_passWinter q_lX3_104 (q_s_X_V_2w E ad s0 s1 s2 s3 s4 s5 y4) hP hD hS hA hAl ⟨by decide, by decide⟩ (q0 := 0) rfl rfl rfl rfl ⟨_, hl⟩ (rest := []) rfl (Nat.le_of_ble_eq_true rfl) dX3_winter_17 (fun H locs (hP : va_P (q_D E) vwCl (q_wX E ad s0 s1 y4 s3 s4 s5) H) hD hS => ?_)
    refine lv_aload_n hx hb dX3_winter_20 rfl (lv_at hl 0 rfl) ?_
    refine q_get F q_K3 hP 0 rfl 1 (by decide) q_fX3_19 rfl dX3_winter_21 ?_
    refine q_get F q_K2 hP 3 rfl 4 (by decide) q_fX3_94 rfl dX3_winter_24 ?_
    obtain ⟨x6, c7, h⟩ := q_o1 h
    refine q_roS F (kX3_sumOf l E ((fun k => ad (10 + k)) 4) 4 (y4 4) x6 c7) q_cX3_sumOf q_lX3_107 (q_EV.go F.2.2.2.2.2 hAl hS) ((q_s_X_R_2f4 E ad s0 s1 y4 s3 s4 s5).P hP) ⟨by decide, by decide⟩ rfl ⟨_, hl⟩ (rest := []) rfl (Nat.le_of_ble_eq_true rfl) dX3_winter_27 ?_
    cases h
    exact q_wI F hr hlk dX3_winter_30 hP hD hS
  · replace h := q_i1 c3 h
    refine lv_bipush (v := (-103)) hx hb dX3_winter_10 (by decide) ?_
    cases h
    exact q_wI F hr hlk dX3_winter_12 hP hD hS
def zX3_die (s2 : q_S) (v1 : Int32) : Option (Int32 × q_S) := q_b1 (zX2_isEater s2 v1) fun x1 => if x1 = 0 then (some ((-101 : Int32), s2)) else (q_b1 (zX2_isAlive s2 v1) fun x4 => if x4 = 0 then (some ((-103 : Int32), s2)) else (if (s2 6 0) < (8 : Int32) then (q_b2 (zX2_makeLoafOf s2 v1) fun x8 y9 => some (x8, y9)) else (some ((-104 : Int32), s2))))
set_option maxHeartbeats 4000000 in
set_option maxRecDepth 100000 in
theorem kX3_die (l : Launch) (E : q_E) (ad : Nat → Nat) (s0 : q_S) (s1 : q_S) (s2 : q_S) (s3 : q_S) (s4 : q_S) (s5 : q_S) (v1 : Int32) (sz : Nat) (r : Int32) (rs2 : q_S) (h : zX3_die s2 v1 = some (r, rs2)) : q_MU l E yX3_die cX3_die 2 (some .int) 3 [.ref (ad 0), .int v1] sz (q_wX E ad s0 s1 s2 s3 s4 s5) (q_wX E ad s0 s1 rs2 s3 s4 s5) (some (.int r)) := by
  refine q_MU.intro (by decide) (Nat.le_of_ble_eq_true rfl) ?_
  intro p e s m args below meth c A X hP hD hA hAl ls hl
  obtain ⟨hx, hb, hml, hr, hlk, hown, hB, hE⟩ := X
  have hown : s.vm.findClass RX3 = some m.cls := hown
  have F : q_Fx p s m c E RX3 cX3_die 2 := ⟨hx, hb, hml, hown, hB, hE⟩
  have hS : va_S A s.heap s.heap [] := va_S.rf
  have hl : lv_has ls 2 [(0, .ref (ad 0)), (1, .int v1)] := hl
  unfold zX3_die at h
  refine lv_aload_n hx hb dX3_die_0 rfl (lv_at hl 0 rfl) ?_
  refine q_get F q_K3 hP 0 rfl 1 (by decide) q_fX3_19 rfl dX3_die_1 ?_
  refine lv_iload_n hx hb dX3_die_4 rfl (lv_at hl 1 rfl) ?_
  obtain ⟨x1, c2, h⟩ := q_o1 h
  refine q_roV F (kX2_isEater l E (ad 10) (fun k => ad (10 + k)) s2 v1 x1 c2) q_cX2_isEater q_lX3_66 (q_EV.go F.2.2.2.2.2 hAl hS) ((q_s_X_V_2 E ad s0 s1 s2 s3 s4 s5).P hP) ⟨by decide, by decide⟩ (q0 := 0) rfl rfl rfl rfl ⟨_, hl⟩ (rest := []) rfl (Nat.le_of_ble_eq_true rfl) dX3_die_5 ?_
  refine lv_if_ne (tgt := 14) hx hb dX3_die_8 (by decide) (fun c3 => ?_) (fun c3 => ?_)
  · replace h := q_i2 c3 h
    refine lv_aload_n hx hb dX3_die_14 rfl (lv_at hl 0 rfl) ?_
    refine q_get F q_K3 hP 0 rfl 1 (by decide) q_fX3_19 rfl dX3_die_15 ?_
    refine lv_iload_n hx hb dX3_die_18 rfl (lv_at hl 1 rfl) ?_
    obtain ⟨x4, c5, h⟩ := q_o1 h
    refine q_roV F (kX2_isAlive l E (ad 10) (fun k => ad (10 + k)) s2 v1 x4 c5) q_cX2_isAlive q_lX3_111 (q_EV.go F.2.2.2.2.2 hAl hS) ((q_s_X_V_2 E ad s0 s1 s2 s3 s4 s5).P hP) ⟨by decide, by decide⟩ (q0 := 0) rfl rfl rfl rfl ⟨_, hl⟩ (rest := []) rfl (Nat.le_of_ble_eq_true rfl) dX3_die_19 ?_
    refine lv_if_ne (tgt := 28) hx hb dX3_die_22 (by decide) (fun c6 => ?_) (fun c6 => ?_)
    · replace h := q_i2 c6 h
      refine lv_aload_n hx hb dX3_die_28 rfl (lv_at hl 0 rfl) ?_
      refine q_get F q_K3 hP 0 rfl 1 (by decide) q_fX3_19 rfl dX3_die_29 ?_
      refine q_get F q_K2 hP 3 rfl 6 (by decide) q_fX3_63 rfl dX3_die_32 ?_
      refine lv_bipush (v := 8) hx hb dX3_die_35 (by decide) ?_
      refine lv_icmp_lt (tgt := 43) hx hb dX3_die_37 (by decide) (fun c7 => ?_) (fun c7 => ?_)
      · replace h := q_i1 c7 h
        refine lv_aload_n hx hb dX3_die_43 rfl (lv_at hl 0 rfl) ?_
        refine q_get F q_K3 hP 0 rfl 1 (by decide) q_fX3_19 rfl dX3_die_44 ?_
        refine lv_iload_n hx hb dX3_die_47 rfl (lv_at hl 1 rfl) ?_
        obtain ⟨x8, y9, c10, h⟩ := q_o2 h
        refine q_muV F (kX2_makeLoafOf l E (ad 10) (fun k => ad (10 + k)) s2 v1 s.heap.size x8 y9 c10) q_cX2_makeLoafOf q_lX3_114 (q_s_X_V_2w E ad s0 s1 s2 s3 s4 s5 y9) hP hD hS hA hAl ⟨by decide, by decide⟩ (q0 := 0) rfl rfl rfl rfl ⟨_, hl⟩ (rest := []) rfl (Nat.le_of_ble_eq_true rfl) dX3_die_48 (fun H locs (hP : va_P (q_D E) vwCl (q_wX E ad s0 s1 y9 s3 s4 s5) H) hD hS => ?_)
        cases h
        exact q_wI F hr hlk dX3_die_51 hP hD hS
      · replace h := q_i2 c7 h
        refine lv_bipush (v := (-104)) hx hb dX3_die_40 (by decide) ?_
        cases h
        exact q_wI F hr hlk dX3_die_42 hP hD hS
    · replace h := q_i1 c6 h
      refine lv_bipush (v := (-103)) hx hb dX3_die_25 (by decide) ?_
      cases h
      exact q_wI F hr hlk dX3_die_27 hP hD hS
  · replace h := q_i1 c3 h
    refine lv_bipush (v := (-101)) hx hb dX3_die_11 (by decide) ?_
    cases h
    exact q_wI F hr hlk dX3_die_13 hP hD hS
def zX3_spread_34 (s0 : q_S) (s2 : q_S) (s4 : q_S) (s5 : q_S) (v2 : Int32) (v3 : Int32) : Option (Int32 × q_S × q_S × q_S) := q_b1 (zX2_isRead s2) fun x1 => if x1 = 0 then (some ((-103 : Int32), s0, s4, s5)) else (if (s0 7 0) < (12 : Int32) then (q_lt (q_u s0 7 0 ((s0 7 0) + (1 : Int32))) fun y5 => q_b1 (zX2_copyFrom s4 s2) fun y6 => q_b1 (zX1_start s5) fun y8 => q_b1 (zX3_greatestOf 4 (y6 4)) fun x10 => q_b2 (zX3_tryLoavesFrom 30 y6 y8 (0 : Int32) x10) fun y12 y13 => if (y13 3 0) = 0 then (some ((-1 : Int32), y5, y12, y13)) else (if v3 = 0 then (some ((y13 2 0), y5, y12, y13)) else (q_gd (q_ib v2 8) (some ((y13 1 v2.toNatClampNeg), y5, y12, y13))))) else (some ((-103 : Int32), s0, s4, s5)))
def zX3_spread_22 (s0 : q_S) (s2 : q_S) (s4 : q_S) (s5 : q_S) (v1 : Int32) (v2 : Int32) (t0 : Int32) : Option (Int32 × q_S × q_S × q_S) := if v1 = 0 then (zX3_spread_34 s0 s2 s4 s5 v2 t0) else (if t0 = 0 then (some ((-102 : Int32), s0, s4, s5)) else (zX3_spread_34 s0 s2 s4 s5 v2 t0))
def zX3_spread_21 (s0 : q_S) (s2 : q_S) (s4 : q_S) (s5 : q_S) (v1 : Int32) (v2 : Int32) : Option (Int32 × q_S × q_S × q_S) := zX3_spread_22 s0 s2 s4 s5 v1 v2 (0 : Int32)
def zX3_spread (s0 : q_S) (s2 : q_S) (s4 : q_S) (s5 : q_S) (v1 : Int32) : Option (Int32 × q_S × q_S × q_S) := q_lt (v1 - (10 : Int32)) fun x20 => if v1 < (10 : Int32) then (zX3_spread_21 s0 s2 s4 s5 v1 x20) else (if (8 : Int32) ≤ x20 then (zX3_spread_21 s0 s2 s4 s5 v1 x20) else (zX3_spread_22 s0 s2 s4 s5 v1 x20 (1 : Int32)))
set_option maxHeartbeats 4000000 in
set_option maxRecDepth 100000 in
theorem kX3_spread (l : Launch) (E : q_E) (ad : Nat → Nat) (s0 : q_S) (s1 : q_S) (s2 : q_S) (s3 : q_S) (s4 : q_S) (s5 : q_S) (v1 : Int32) (sz : Nat) (r : Int32) (rs0 : q_S) (rs4 : q_S) (rs5 : q_S) (h : zX3_spread s0 s2 s4 s5 v1 = some (r, rs0, rs4, rs5)) : q_MU l E yX3_spread cX3_spread 4 (some .int) 35 [.ref (ad 0), .int v1] sz (q_wX E ad s0 s1 s2 s3 s4 s5) (q_wX E ad rs0 s1 s2 s3 rs4 rs5) (some (.int r)) := by
  refine q_MU.intro (by decide) (Nat.le_of_ble_eq_true rfl) ?_
  intro p e s m args below meth c A X hP hD hA hAl ls hl
  obtain ⟨hx, hb, hml, hr, hlk, hown, hB, hE⟩ := X
  have hown : s.vm.findClass RX3 = some m.cls := hown
  have F : q_Fx p s m c E RX3 cX3_spread 4 := ⟨hx, hb, hml, hown, hB, hE⟩
  have hS : va_S A s.heap s.heap [] := va_S.rf
  have hl : lv_has ls 4 [(0, .ref (ad 0)), (1, .int v1)] := hl
  have K34 : ∀ (v2 : Int32) (v3 : Int32) (s0 : q_S) (s4 : q_S) (s5 : q_S), ∀ (H : Heap) (locs : List Loc), va_P (q_D E) vwCl (q_wX E ad s0 s1 s2 s3 s4 s5) H → va_D A (q_wX E ad s0 s1 s2 s3 s4 s5) → va_S A s.heap H locs → ∀ ls : Array Slot, lv_has ls 4 [(0, .ref (ad 0)), (2, .int v2), (3, .int v3)] → zX3_spread_34 s0 s2 s4 s5 v2 v3 = some (r, rs0, rs4, rs5) → W p l e (q_rm 35) s m args below meth c H locs 0 0 (MQ below (q_muQ E A (q_wX E ad rs0 s1 s2 s3 rs4 rs5) (some (.int r))) args s 0 0 A) (F0 m 34 ls []) := by
    intro v2 v3 s0 s4 s5 H locs hP hD hS ls hl h
    unfold zX3_spread_34 at h
    refine lv_aload_n hx hb dX3_spread_34 rfl (lv_at hl 0 rfl) ?_
    refine q_get F q_K3 hP 0 rfl 1 (by decide) q_fX3_19 rfl dX3_spread_35 ?_
    obtain ⟨x1, c2, h⟩ := q_o1 h
    refine q_roV F (kX2_isRead l E (ad 10) (fun k => ad (10 + k)) s2 x1 c2) q_cX2_isRead q_lX3_101 (q_EV.go F.2.2.2.2.2 hAl hS) ((q_s_X_V_2 E ad s0 s1 s2 s3 s4 s5).P hP) ⟨by decide, by decide⟩ (q0 := 0) rfl rfl rfl rfl ⟨_, hl⟩ (rest := []) rfl (Nat.le_of_ble_eq_true rfl) dX3_spread_38 ?_
    refine lv_if_eq (tgt := 53) hx hb dX3_spread_41 (by decide) (fun c3 => ?_) (fun c3 => ?_)
    · replace h := q_i1 c3 h
      refine lv_bipush (v := (-103)) hx hb dX3_spread_53 (by decide) ?_
      cases h
      exact q_wI F hr hlk dX3_spread_55 hP hD hS
    · replace h := q_i2 c3 h
      refine lv_aload_n hx hb dX3_spread_44 rfl (lv_at hl 0 rfl) ?_
      refine q_get F q_K3 hP 0 rfl 7 (by decide) q_fX3_118 rfl dX3_spread_45 ?_
      refine lv_bipush (v := 12) hx hb dX3_spread_48 (by decide) ?_
      refine lv_icmp_lt (tgt := 56) hx hb dX3_spread_50 (by decide) (fun c4 => ?_) (fun c4 => ?_)
      · replace h := q_i1 c4 h
        refine lv_aload_n hx hb dX3_spread_56 rfl (lv_at hl 0 rfl) ?_
        refine lv_dup hx hb dX3_spread_57 rfl ?_
        refine q_get F q_K3 hP 0 rfl 7 (by decide) q_fX3_118 rfl dX3_spread_58 ?_
        refine lv_iconst (v := 1) hx hb dX3_spread_61 (by decide) ?_
        refine lv_iadd hx hb dX3_spread_62 ?_
        obtain ⟨y5, ey5, h⟩ := q_ol h
        refine q_put F q_K3 hP hD hS 0 rfl 7 (by decide) q_fX3_118 rfl rfl rfl (Nat.le_of_ble_eq_true rfl) (by rw [ey5]; rfl) dX3_spread_63 (fun H locs (hP : va_P (q_D E) vwCl (q_wX E ad y5 s1 s2 s3 s4 s5) H) hD hS => ?_)
        refine lv_aload_n hx hb dX3_spread_66 rfl (lv_at hl 0 rfl) ?_
        refine q_get F q_K3 hP 0 rfl 3 (by decide) q_fX3_26 rfl dX3_spread_67 ?_
        refine lv_aload_n hx hb dX3_spread_70 rfl (lv_at hl 0 rfl) ?_
        refine q_get F q_K3 hP 0 rfl 1 (by decide) q_fX3_19 rfl dX3_spread_71 ?_
        obtain ⟨y6, c7, h⟩ := q_o1 h
        refine q_muV F (kX2_copyFrom l E (ad 50) (fun k => ad (50 + k)) (ad 10) (fun k => ad (10 + k)) s4 s2 H.size y6 c7) q_cX2_copyFrom q_lX3_121 (q_s_X_VV_4_2w E ad y5 s1 s2 s3 s4 s5 y6) hP hD hS hA hAl ⟨by decide, by decide⟩ (q0 := 0) rfl rfl rfl rfl ⟨_, hl⟩ (rest := []) rfl (Nat.le_of_ble_eq_true rfl) dX3_spread_74 (fun H locs (hP : va_P (q_D E) vwCl (q_wX E ad y5 s1 s2 s3 y6 s5) H) hD hS => ?_)
        refine lv_aload_n hx hb dX3_spread_77 rfl (lv_at hl 0 rfl) ?_
        refine q_get F q_K3 hP 0 rfl 4 (by decide) q_fX3_32 rfl dX3_spread_78 ?_
        obtain ⟨y8, c9, h⟩ := q_o1 h
        refine q_muV F (kX1_start l E (ad 70) (fun k => ad (71 + k)) s5 H.size y8 c9) q_cX1_start q_lX3_125 (q_s_X_L_5w E ad y5 s1 s2 s3 y6 s5 y8) hP hD hS hA hAl ⟨by decide, by decide⟩ (q0 := 0) rfl rfl rfl rfl ⟨_, hl⟩ (rest := []) rfl (Nat.le_of_ble_eq_true rfl) dX3_spread_81 (fun H locs (hP : va_P (q_D E) vwCl (q_wX E ad y5 s1 s2 s3 y6 y8) H) hD hS => ?_)
        refine lv_iconst (v := 0) hx hb dX3_spread_84 (by decide) ?_
        refine lv_aload_n hx hb dX3_spread_85 rfl (lv_at hl 0 rfl) ?_
        refine q_get F q_K3 hP 0 rfl 3 (by decide) q_fX3_26 rfl dX3_spread_86 ?_
        refine q_get F q_K2 hP 21 rfl 4 (by decide) q_fX3_94 rfl dX3_spread_89 ?_
        obtain ⟨x10, c11, h⟩ := q_o1 h
        refine q_roS F (kX3_greatestOf l E ((fun k => ad (50 + k)) 4) 4 (y6 4) x10 c11) q_cX3_greatestOf q_lX3_128 (q_EV.go F.2.2.2.2.2 hAl hS) ((q_s_X_R_4f4 E ad y5 s1 s2 s3 y6 y8).P hP) ⟨by decide, by decide⟩ rfl ⟨_, hl⟩ (rest := [.int (0 : Int32)]) rfl (Nat.le_of_ble_eq_true rfl) dX3_spread_92 ?_
        refine lv_aload_n hx hb dX3_spread_95 rfl (lv_at hl 0 rfl) ?_
        refine q_get F q_K3 hP 0 rfl 3 (by decide) q_fX3_26 rfl dX3_spread_96 ?_
        refine lv_aload_n hx hb dX3_spread_99 rfl (lv_at hl 0 rfl) ?_
        refine q_get F q_K3 hP 0 rfl 4 (by decide) q_fX3_32 rfl dX3_spread_100 ?_
        obtain ⟨y12, y13, c14, h⟩ := q_o2 h
        refine q_muS F (kX3_tryLoavesFrom l E (ad 50) (fun k => ad (50 + k)) (ad 70) (fun k => ad (71 + k)) 30 y6 y8 (0 : Int32) x10 H.size y12 y13 c14) q_cX3_tryLoavesFrom q_lX3_131 (q_s_X_VL_4_5w E ad y5 s1 s2 s3 y6 y8 y12 y13) hP hD hS hA hAl ⟨by decide, by decide⟩ rfl ⟨_, hl⟩ (rest := []) rfl (Nat.le_of_ble_eq_true rfl) dX3_spread_103 (fun H locs (hP : va_P (q_D E) vwCl (q_wX E ad y5 s1 s2 s3 y12 y13) H) hD hS => ?_)
        refine lv_aload_n hx hb dX3_spread_106 rfl (lv_at hl 0 rfl) ?_
        refine q_get F q_K3 hP 0 rfl 4 (by decide) q_fX3_32 rfl dX3_spread_107 ?_
        refine q_get F q_K1 hP 30 rfl 3 (by decide) q_fX3_135 rfl dX3_spread_110 ?_
        refine lv_if_ne (tgt := 118) hx hb dX3_spread_113 (by decide) (fun c15 => ?_) (fun c15 => ?_)
        · replace h := q_i2 c15 h
          refine lv_iload_n hx hb dX3_spread_118 rfl (lv_at hl 2 rfl) ?_
          refine lv_if_eq (tgt := 134) hx hb dX3_spread_119 (by decide) (fun c16 => ?_) (fun c16 => ?_)
          · replace h := q_i1 c16 h
            refine lv_aload_n hx hb dX3_spread_134 rfl (lv_at hl 0 rfl) ?_
            refine q_get F q_K3 hP 0 rfl 4 (by decide) q_fX3_32 rfl dX3_spread_135 ?_
            refine q_get F q_K1 hP 30 rfl 2 (by decide) q_fX3_141 rfl dX3_spread_138 ?_
            cases h
            exact q_wI F hr hlk dX3_spread_141 hP hD hS
          · replace h := q_i2 c16 h
            refine lv_aload_n hx hb dX3_spread_122 rfl (lv_at hl 0 rfl) ?_
            refine q_get F q_K3 hP 0 rfl 4 (by decide) q_fX3_32 rfl dX3_spread_123 ?_
            refine q_get F q_K1 hP 30 rfl 1 (by decide) q_fX3_138 rfl dX3_spread_126 ?_
            refine lv_iload_n hx hb dX3_spread_129 rfl (lv_at hl 1 rfl) ?_
            obtain ⟨eg17, h⟩ := q_og h
            refine q_iald F hP 32 rfl eg17 dX3_spread_130 ?_
            refine lv_goto (tgt := 141) hx hb dX3_spread_131 (by decide) ?_
            cases h
            exact q_wI F hr hlk dX3_spread_141 hP hD hS
        · replace h := q_i1 c15 h
          refine lv_iconst (v := (-1)) hx hb dX3_spread_116 (by decide) ?_
          cases h
          exact q_wI F hr hlk dX3_spread_117 hP hD hS
      · replace h := q_i2 c4 h
        refine lv_bipush (v := (-103)) hx hb dX3_spread_53 (by decide) ?_
        cases h
        exact q_wI F hr hlk dX3_spread_55 hP hD hS
  have K22 : ∀ (v1 : Int32) (v2 : Int32) (t0 : Int32) (s0 : q_S) (s4 : q_S) (s5 : q_S), ∀ (H : Heap) (locs : List Loc), va_P (q_D E) vwCl (q_wX E ad s0 s1 s2 s3 s4 s5) H → va_D A (q_wX E ad s0 s1 s2 s3 s4 s5) → va_S A s.heap H locs → ∀ ls : Array Slot, lv_has ls 4 [(0, .ref (ad 0)), (1, .int v1), (2, .int v2)] → zX3_spread_22 s0 s2 s4 s5 v1 v2 t0 = some (r, rs0, rs4, rs5) → W p l e (q_rm 35) s m args below meth c H locs 0 0 (MQ below (q_muQ E A (q_wX E ad rs0 s1 s2 s3 rs4 rs5) (some (.int r))) args s 0 0 A) (F0 m 22 ls [.int t0]) := by
    intro v1 v2 t0 s0 s4 s5 H locs hP hD hS ls hl h
    unfold zX3_spread_22 at h
    refine lv_istore_n (lv' := [(3, .int t0), (0, .ref (ad 0)), (1, .int v1), (2, .int v2)]) hx hb dX3_spread_22 rfl hl (by decide) rfl (fun ls hl => ?_)
    refine lv_iload_n hx hb dX3_spread_23 rfl (lv_at hl 2 rfl) ?_
    refine lv_if_eq (tgt := 34) hx hb dX3_spread_24 (by decide) (fun c18 => ?_) (fun c18 => ?_)
    · replace h := q_i1 c18 h
      exact K34 v2 t0 s0 s4 s5 H _ hP hD hS ls (lv_sub hl [1, 3, 0] rfl) h
    · replace h := q_i2 c18 h
      refine lv_iload_n hx hb dX3_spread_27 rfl (lv_at hl 0 rfl) ?_
      refine lv_if_ne (tgt := 34) hx hb dX3_spread_28 (by decide) (fun c19 => ?_) (fun c19 => ?_)
      · replace h := q_i2 c19 h
        exact K34 v2 t0 s0 s4 s5 H _ hP hD hS ls (lv_sub hl [1, 3, 0] rfl) h
      · replace h := q_i1 c19 h
        refine lv_bipush (v := (-102)) hx hb dX3_spread_31 (by decide) ?_
        cases h
        exact q_wI F hr hlk dX3_spread_33 hP hD hS
  have K21 : ∀ (v1 : Int32) (v2 : Int32) (s0 : q_S) (s4 : q_S) (s5 : q_S), ∀ (H : Heap) (locs : List Loc), va_P (q_D E) vwCl (q_wX E ad s0 s1 s2 s3 s4 s5) H → va_D A (q_wX E ad s0 s1 s2 s3 s4 s5) → va_S A s.heap H locs → ∀ ls : Array Slot, lv_has ls 4 [(0, .ref (ad 0)), (1, .int v1), (2, .int v2)] → zX3_spread_21 s0 s2 s4 s5 v1 v2 = some (r, rs0, rs4, rs5) → W p l e (q_rm 35) s m args below meth c H locs 0 0 (MQ below (q_muQ E A (q_wX E ad rs0 s1 s2 s3 rs4 rs5) (some (.int r))) args s 0 0 A) (F0 m 21 ls []) := by
    intro v1 v2 s0 s4 s5 H locs hP hD hS ls hl h
    unfold zX3_spread_21 at h
    refine lv_iconst (v := 0) hx hb dX3_spread_21 (by decide) ?_
    exact K22 v1 v2 (0 : Int32) s0 s4 s5 H _ hP hD hS ls (lv_sub hl [0, 1, 2] rfl) h
  unfold zX3_spread at h
  refine lv_iload_n hx hb dX3_spread_0 rfl (lv_at hl 1 rfl) ?_
  refine lv_bipush (v := 10) hx hb dX3_spread_1 (by decide) ?_
  refine lv_isub hx hb dX3_spread_3 ?_
  obtain ⟨x20, ex20, h⟩ := q_ol h
  refine q_top ex20 ?_
  refine lv_istore_n (lv' := [(2, .int x20), (0, .ref (ad 0)), (1, .int v1)]) hx hb dX3_spread_4 rfl hl (by decide) rfl (fun ls hl => ?_)
  refine lv_iload_n hx hb dX3_spread_5 rfl (lv_at hl 2 rfl) ?_
  refine lv_bipush (v := 10) hx hb dX3_spread_6 (by decide) ?_
  refine lv_icmp_lt (tgt := 21) hx hb dX3_spread_8 (by decide) (fun c21 => ?_) (fun c21 => ?_)
  · replace h := q_i1 c21 h
    exact K21 v1 x20 s0 s4 s5 _ _ hP hD hS ls (lv_sub hl [1, 2, 0] rfl) h
  · replace h := q_i2 c21 h
    refine lv_iload_n hx hb dX3_spread_11 rfl (lv_at hl 0 rfl) ?_
    refine lv_bipush (v := 8) hx hb dX3_spread_12 (by decide) ?_
    refine lv_icmp_ge (tgt := 21) hx hb dX3_spread_14 (by decide) (fun c22 => ?_) (fun c22 => ?_)
    · replace h := q_i1 c22 h
      exact K21 v1 x20 s0 s4 s5 _ _ hP hD hS ls (lv_sub hl [1, 2, 0] rfl) h
    · replace h := q_i2 c22 h
      refine lv_iconst (v := 1) hx hb dX3_spread_17 (by decide) ?_
      refine lv_goto (tgt := 22) hx hb dX3_spread_18 (by decide) ?_
      exact K22 v1 x20 (1 : Int32) s0 s4 s5 _ _ hP hD hS ls (lv_sub hl [1, 2, 0] rfl) h
def zX3_say (s2 : q_S) (v1 : Int32) (v2 : Int32) (v3 : Int32) : Option (Int32 × q_S) := if v1 < 0 then (some ((-102 : Int32), s2)) else (if ((1 : Int32) <<< ((s2 6 0) &&& 31)) ≤ v1 then (some ((-102 : Int32), s2)) else (if v2 < 0 then (some ((-102 : Int32), s2)) else (if v2 ≤ (99 : Int32) then (q_b1 (zX2_isRead s2) fun x5 => if x5 = 0 then (some ((-103 : Int32), s2)) else (if (s2 11 0) < (6 : Int32) then (q_b1 (zX2_addSaid s2 v1 v2 v3) fun y9 => some ((y9 11 0), y9)) else (some ((-104 : Int32), s2)))) else (some ((-102 : Int32), s2)))))
set_option maxHeartbeats 4000000 in
set_option maxRecDepth 100000 in
theorem kX3_say (l : Launch) (E : q_E) (ad : Nat → Nat) (s0 : q_S) (s1 : q_S) (s2 : q_S) (s3 : q_S) (s4 : q_S) (s5 : q_S) (v1 : Int32) (v2 : Int32) (v3 : Int32) (sz : Nat) (r : Int32) (rs2 : q_S) (h : zX3_say s2 v1 v2 v3 = some (r, rs2)) : q_MU l E yX3_say cX3_say 4 (some .int) 2 [.ref (ad 0), .int v1, .int v2, .int v3] sz (q_wX E ad s0 s1 s2 s3 s4 s5) (q_wX E ad s0 s1 rs2 s3 s4 s5) (some (.int r)) := by
  refine q_MU.intro (by decide) (Nat.le_of_ble_eq_true rfl) ?_
  intro p e s m args below meth c A X hP hD hA hAl ls hl
  obtain ⟨hx, hb, hml, hr, hlk, hown, hB, hE⟩ := X
  have hown : s.vm.findClass RX3 = some m.cls := hown
  have F : q_Fx p s m c E RX3 cX3_say 4 := ⟨hx, hb, hml, hown, hB, hE⟩
  have hS : va_S A s.heap s.heap [] := va_S.rf
  have hl : lv_has ls 4 [(0, .ref (ad 0)), (1, .int v1), (2, .int v2), (3, .int v3)] := hl
  unfold zX3_say at h
  refine lv_iload_n hx hb dX3_say_0 rfl (lv_at hl 1 rfl) ?_
  refine lv_if_lt (tgt := 27) hx hb dX3_say_1 (by decide) (fun c1 => ?_) (fun c1 => ?_)
  · replace h := q_i1 c1 h
    refine lv_bipush (v := (-102)) hx hb dX3_say_27 (by decide) ?_
    cases h
    exact q_wI F hr hlk dX3_say_29 hP hD hS
  · replace h := q_i2 c1 h
    refine lv_iload_n hx hb dX3_say_4 rfl (lv_at hl 1 rfl) ?_
    refine lv_iconst (v := 1) hx hb dX3_say_5 (by decide) ?_
    refine lv_aload_n hx hb dX3_say_6 rfl (lv_at hl 0 rfl) ?_
    refine q_get F q_K3 hP 0 rfl 1 (by decide) q_fX3_19 rfl dX3_say_7 ?_
    refine q_get F q_K2 hP 3 rfl 6 (by decide) q_fX3_63 rfl dX3_say_10 ?_
    refine lv_ishl hx hb dX3_say_13 ?_
    refine lv_icmp_ge (tgt := 27) hx hb dX3_say_14 (by decide) (fun c2 => ?_) (fun c2 => ?_)
    · replace h := q_i1 c2 h
      refine lv_bipush (v := (-102)) hx hb dX3_say_27 (by decide) ?_
      cases h
      exact q_wI F hr hlk dX3_say_29 hP hD hS
    · replace h := q_i2 c2 h
      refine lv_iload_n hx hb dX3_say_17 rfl (lv_at hl 2 rfl) ?_
      refine lv_if_lt (tgt := 27) hx hb dX3_say_18 (by decide) (fun c3 => ?_) (fun c3 => ?_)
      · replace h := q_i1 c3 h
        refine lv_bipush (v := (-102)) hx hb dX3_say_27 (by decide) ?_
        cases h
        exact q_wI F hr hlk dX3_say_29 hP hD hS
      · replace h := q_i2 c3 h
        refine lv_iload_n hx hb dX3_say_21 rfl (lv_at hl 2 rfl) ?_
        refine lv_bipush (v := 99) hx hb dX3_say_22 (by decide) ?_
        refine lv_icmp_le (tgt := 30) hx hb dX3_say_24 (by decide) (fun c4 => ?_) (fun c4 => ?_)
        · replace h := q_i1 c4 h
          refine lv_aload_n hx hb dX3_say_30 rfl (lv_at hl 0 rfl) ?_
          refine q_get F q_K3 hP 0 rfl 1 (by decide) q_fX3_19 rfl dX3_say_31 ?_
          obtain ⟨x5, c6, h⟩ := q_o1 h
          refine q_roV F (kX2_isRead l E (ad 10) (fun k => ad (10 + k)) s2 x5 c6) q_cX2_isRead q_lX3_101 (q_EV.go F.2.2.2.2.2 hAl hS) ((q_s_X_V_2 E ad s0 s1 s2 s3 s4 s5).P hP) ⟨by decide, by decide⟩ (q0 := 0) rfl rfl rfl rfl ⟨_, hl⟩ (rest := []) rfl (Nat.le_of_ble_eq_true rfl) dX3_say_34 ?_
          refine lv_if_ne (tgt := 43) hx hb dX3_say_37 (by decide) (fun c7 => ?_) (fun c7 => ?_)
          · replace h := q_i2 c7 h
            refine lv_aload_n hx hb dX3_say_43 rfl (lv_at hl 0 rfl) ?_
            refine q_get F q_K3 hP 0 rfl 1 (by decide) q_fX3_19 rfl dX3_say_44 ?_
            refine q_get F q_K2 hP 3 rfl 11 (by decide) q_fX3_144 rfl dX3_say_47 ?_
            refine lv_bipush (v := 6) hx hb dX3_say_50 (by decide) ?_
            refine lv_icmp_lt (tgt := 58) hx hb dX3_say_52 (by decide) (fun c8 => ?_) (fun c8 => ?_)
            · replace h := q_i1 c8 h
              refine lv_aload_n hx hb dX3_say_58 rfl (lv_at hl 0 rfl) ?_
              refine q_get F q_K3 hP 0 rfl 1 (by decide) q_fX3_19 rfl dX3_say_59 ?_
              refine lv_iload_n hx hb dX3_say_62 rfl (lv_at hl 1 rfl) ?_
              refine lv_iload_n hx hb dX3_say_63 rfl (lv_at hl 2 rfl) ?_
              refine lv_iload_n hx hb dX3_say_64 rfl (lv_at hl 3 rfl) ?_
              obtain ⟨y9, c10, h⟩ := q_o1 h
              refine q_muV F (kX2_addSaid l E (ad 10) (fun k => ad (10 + k)) s2 v1 v2 v3 s.heap.size y9 c10) q_cX2_addSaid q_lX3_147 (q_s_X_V_2w E ad s0 s1 s2 s3 s4 s5 y9) hP hD hS hA hAl ⟨by decide, by decide⟩ (q0 := 0) rfl rfl rfl rfl ⟨_, hl⟩ (rest := []) rfl (Nat.le_of_ble_eq_true rfl) dX3_say_65 (fun H locs (hP : va_P (q_D E) vwCl (q_wX E ad s0 s1 y9 s3 s4 s5) H) hD hS => ?_)
              refine lv_aload_n hx hb dX3_say_68 rfl (lv_at hl 0 rfl) ?_
              refine q_get F q_K3 hP 0 rfl 1 (by decide) q_fX3_19 rfl dX3_say_69 ?_
              refine q_get F q_K2 hP 3 rfl 11 (by decide) q_fX3_144 rfl dX3_say_72 ?_
              cases h
              exact q_wI F hr hlk dX3_say_75 hP hD hS
            · replace h := q_i2 c8 h
              refine lv_bipush (v := (-104)) hx hb dX3_say_55 (by decide) ?_
              cases h
              exact q_wI F hr hlk dX3_say_57 hP hD hS
          · replace h := q_i1 c7 h
            refine lv_bipush (v := (-103)) hx hb dX3_say_40 (by decide) ?_
            cases h
            exact q_wI F hr hlk dX3_say_42 hP hD hS
        · replace h := q_i2 c4 h
          refine lv_bipush (v := (-102)) hx hb dX3_say_27 (by decide) ?_
          cases h
          exact q_wI F hr hlk dX3_say_29 hP hD hS
def zX3_forget (s2 : q_S) : Option (Int32 × q_S) := q_lt (s2 11 0) fun x1 => q_lt (q_u s2 11 0 (0 : Int32)) fun y2 => some (x1, y2)
set_option maxHeartbeats 4000000 in
set_option maxRecDepth 100000 in
theorem kX3_forget (l : Launch) (E : q_E) (ad : Nat → Nat) (s0 : q_S) (s1 : q_S) (s2 : q_S) (s3 : q_S) (s4 : q_S) (s5 : q_S)  (sz : Nat) (r : Int32) (rs2 : q_S) (h : zX3_forget s2 = some (r, rs2)) : q_MU l E yX3_forget cX3_forget 2 (some .int) 1 [.ref (ad 0)] sz (q_wX E ad s0 s1 s2 s3 s4 s5) (q_wX E ad s0 s1 rs2 s3 s4 s5) (some (.int r)) := by
  refine q_MU.intro (by decide) (Nat.le_of_ble_eq_true rfl) ?_
  intro p e s m args below meth c A X hP hD hA hAl ls hl
  obtain ⟨hx, hb, hml, hr, hlk, hown, hB, hE⟩ := X
  have hown : s.vm.findClass RX3 = some m.cls := hown
  have F : q_Fx p s m c E RX3 cX3_forget 2 := ⟨hx, hb, hml, hown, hB, hE⟩
  have hS : va_S A s.heap s.heap [] := va_S.rf
  have hl : lv_has ls 2 [(0, .ref (ad 0))] := hl
  unfold zX3_forget at h
  refine lv_aload_n hx hb dX3_forget_0 rfl (lv_at hl 0 rfl) ?_
  refine q_get F q_K3 hP 0 rfl 1 (by decide) q_fX3_19 rfl dX3_forget_1 ?_
  refine q_get F q_K2 hP 3 rfl 11 (by decide) q_fX3_144 rfl dX3_forget_4 ?_
  obtain ⟨x1, ex1, h⟩ := q_ol h
  refine q_top ex1 ?_
  refine lv_istore_n (lv' := [(1, .int x1), (0, .ref (ad 0))]) hx hb dX3_forget_7 rfl hl (by decide) rfl (fun ls hl => ?_)
  refine lv_aload_n hx hb dX3_forget_8 rfl (lv_at hl 1 rfl) ?_
  refine q_get F q_K3 hP 0 rfl 1 (by decide) q_fX3_19 rfl dX3_forget_9 ?_
  refine lv_iconst (v := 0) hx hb dX3_forget_12 (by decide) ?_
  obtain ⟨y2, ey2, h⟩ := q_ol h
  refine q_put F q_K2 hP hD hS 3 rfl 11 (by decide) q_fX3_144 rfl rfl rfl (Nat.le_of_ble_eq_true rfl) (by rw [ey2]; rfl) dX3_forget_13 (fun H locs (hP : va_P (q_D E) vwCl (q_wX E ad s0 s1 y2 s3 s4 s5) H) hD hS => ?_)
  refine lv_iload_n hx hb dX3_forget_16 rfl (lv_at hl 0 rfl) ?_
  cases h
  exact q_wI F hr hlk dX3_forget_17 hP hD hS
def zX3_playWinters_83 (k16 : q_S → Int32 → Int32 → Option (Int32 × q_S)) (s4 : q_S) (v3 : Int32) (v4 : Int32) : Option (Int32 × q_S) := if (v4 - v4 / (3 : Int32) * (3 : Int32)) = 0 then (q_b1 (zX2_passWinter s4) fun y3 => q_lt (v4 + 1) fun x5 => k16 y3 v3 x5) else (q_lt (v4 + 1) fun x2 => k16 s4 v3 x2)
def jX3_playWinters_16 (v1 : Int32) (k16 : q_S → Int32 → Int32 → Option (Int32 × q_S)) (s4 : q_S) (v3 : Int32) (v4 : Int32) : Option (Int32 × q_S) := if v1 < v4 then (some (v3, s4)) else (q_b1 (zX3_nextSeed v3) fun x7 => q_b1 (zX3_drawn x7 (s4 0 0)) fun x9 => q_b1 (zX3_nextSeed x7) fun x11 => q_b1 (zX3_drawn x11 (s4 6 0)) fun x13 => q_b1 (zX2_wouldTake s4 x9 x13) fun x15 => if x15 = 0 then (zX3_playWinters_83 k16 s4 x11 v4) else (q_b1 (zX2_takeWhole s4 x9 x13) fun y18 => zX3_playWinters_83 k16 y18 x11 v4))
def zX3_playWinters_16 (v1 : Int32) : Nat → q_S → Int32 → Int32 → Option (Int32 × q_S)
  | 0, _, _, _ => none
  | n + 1, s4, v3, v4 => jX3_playWinters_16 v1 (zX3_playWinters_16 v1 n) s4 v3 v4
theorem zX3_playWinters_16_s (v1 : Int32) (n : Nat) (s4 : q_S) (v3 : Int32) (v4 : Int32) : zX3_playWinters_16 v1 (n + 1) s4 v3 v4 = jX3_playWinters_16 v1 (zX3_playWinters_16 v1 n) s4 v3 v4 := rfl
def zX3_playWinters (s2 : q_S) (s4 : q_S) (v1 : Int32) (v2 : Int32) : Option (Int32 × q_S) := q_b1 (zX2_copyFrom s4 s2) fun y20 => zX3_playWinters_16 v1 70000 y20 v2 (1 : Int32)
set_option maxHeartbeats 4000000 in
set_option maxRecDepth 100000 in
theorem kX3_playWinters (l : Launch) (E : q_E) (ad : Nat → Nat) (s0 : q_S) (s1 : q_S) (s2 : q_S) (s3 : q_S) (s4 : q_S) (s5 : q_S) (v1 : Int32) (v2 : Int32) (sz : Nat) (r : Int32) (rs4 : q_S) (h : zX3_playWinters s2 s4 v1 v2 = some (r, rs4)) : q_MU l E yX3_playWinters cX3_playWinters 7 (some .int) 4 [.ref (ad 0), .int v1, .int v2] sz (q_wX E ad s0 s1 s2 s3 s4 s5) (q_wX E ad s0 s1 s2 s3 rs4 s5) (some (.int r)) := by
  refine q_MU.intro (by decide) (Nat.le_of_ble_eq_true rfl) ?_
  intro p e s m args below meth c A X hP hD hA hAl ls hl
  obtain ⟨hx, hb, hml, hr, hlk, hown, hB, hE⟩ := X
  have hown : s.vm.findClass RX3 = some m.cls := hown
  have F : q_Fx p s m c E RX3 cX3_playWinters 7 := ⟨hx, hb, hml, hown, hB, hE⟩
  have hS : va_S A s.heap s.heap [] := va_S.rf
  have hl : lv_has ls 7 [(0, .ref (ad 0)), (1, .int v1), (2, .int v2)] := hl
  have K16 : ∀ (n16_ : Nat), ∀ (v1 : Int32) (v3 : Int32) (v4 : Int32) (s4 : q_S), ∀ (H : Heap) (locs : List Loc), va_P (q_D E) vwCl (q_wX E ad s0 s1 s2 s3 s4 s5) H → va_D A (q_wX E ad s0 s1 s2 s3 s4 s5) → va_S A s.heap H locs → ∀ ls : Array Slot, lv_has ls 7 [(0, .ref (ad 0)), (1, .int v1), (3, .int v3), (4, .int v4)] → zX3_playWinters_16 v1 n16_ s4 v3 v4 = some (r, rs4) → W p l e (q_rm 4) s m args below meth c H locs 0 0 (MQ below (q_muQ E A (q_wX E ad s0 s1 s2 s3 rs4 s5) (some (.int r))) args s 0 0 A) (F0 m 16 ls []) := by
    intro n16_
    induction n16_ with
    | zero => intro v1 v3 v4 s4 H locs hP hD hS ls hl h; exact q_nn h
    | succ n16_ ih16 =>
      have K83 : ∀ (v1 : Int32) (v3 : Int32) (v4 : Int32) (s4 : q_S), ∀ (H : Heap) (locs : List Loc), va_P (q_D E) vwCl (q_wX E ad s0 s1 s2 s3 s4 s5) H → va_D A (q_wX E ad s0 s1 s2 s3 s4 s5) → va_S A s.heap H locs → ∀ ls : Array Slot, lv_has ls 7 [(0, .ref (ad 0)), (1, .int v1), (3, .int v3), (4, .int v4)] → zX3_playWinters_83 (zX3_playWinters_16 v1 n16_) s4 v3 v4 = some (r, rs4) → W p l e (q_rm 4) s m args below meth c H locs 0 0 (MQ below (q_muQ E A (q_wX E ad s0 s1 s2 s3 rs4 s5) (some (.int r))) args s 0 0 A) (F0 m 83 ls []) := by
        intro v1 v3 v4 s4 H locs hP hD hS ls hl h
        unfold zX3_playWinters_83 at h
        refine lv_iload hx hb dX3_playWinters_83 (lv_at hl 3 rfl) ?_
        refine lv_iconst (v := 3) hx hb dX3_playWinters_85 (by decide) ?_
        refine lv_irem hx hb dX3_playWinters_86 (by decide) ?_
        refine lv_if_ne (tgt := 97) hx hb dX3_playWinters_87 (by decide) (fun c1 => ?_) (fun c1 => ?_)
        · replace h := q_i2 c1 h
          obtain ⟨x2, ex2, h⟩ := q_ol h
          refine lv_iinc (v := x2) (lv' := [(4, .int x2), (0, .ref (ad 0)), (1, .int v1), (3, .int v3)]) hx hb dX3_playWinters_97 hl (k := 3) rfl (by rw [ex2]; rfl) (by decide) rfl (fun ls hl => ?_)
          refine lv_goto (tgt := 16) hx hb dX3_playWinters_100 (by decide) ?_
          exact ih16 v1 v3 x2 s4 H _ hP hD hS ls (lv_sub hl [1, 2, 3, 0] rfl) h
        · replace h := q_i1 c1 h
          refine lv_aload_n hx hb dX3_playWinters_90 rfl (lv_at hl 0 rfl) ?_
          refine q_get F q_K3 hP 0 rfl 3 (by decide) q_fX3_26 rfl dX3_playWinters_91 ?_
          obtain ⟨y3, c4, h⟩ := q_o1 h
          refine q_muV F (kX2_passWinter l E (ad 50) (fun k => ad (50 + k)) s4 H.size y3 c4) q_cX2_passWinter q_lX3_104 (q_s_X_V_4w E ad s0 s1 s2 s3 s4 s5 y3) hP hD hS hA hAl ⟨by decide, by decide⟩ (q0 := 0) rfl rfl rfl rfl ⟨_, hl⟩ (rest := []) rfl (Nat.le_of_ble_eq_true rfl) dX3_playWinters_94 (fun H locs (hP : va_P (q_D E) vwCl (q_wX E ad s0 s1 s2 s3 y3 s5) H) hD hS => ?_)
          obtain ⟨x5, ex5, h⟩ := q_ol h
          refine lv_iinc (v := x5) (lv' := [(4, .int x5), (0, .ref (ad 0)), (1, .int v1), (3, .int v3)]) hx hb dX3_playWinters_97 hl (k := 3) rfl (by rw [ex5]; rfl) (by decide) rfl (fun ls hl => ?_)
          refine lv_goto (tgt := 16) hx hb dX3_playWinters_100 (by decide) ?_
          exact ih16 v1 v3 x5 y3 H _ hP hD hS ls (lv_sub hl [1, 2, 3, 0] rfl) h
      intro v1 v3 v4 s4 H locs hP hD hS ls hl h
      rw [zX3_playWinters_16_s] at h
      unfold jX3_playWinters_16 at h
      refine lv_iload hx hb dX3_playWinters_16 (lv_at hl 3 rfl) ?_
      refine lv_iload_n hx hb dX3_playWinters_18 rfl (lv_at hl 1 rfl) ?_
      refine lv_icmp_gt (tgt := 103) hx hb dX3_playWinters_19 (by decide) (fun c6 => ?_) (fun c6 => ?_)
      · replace h := q_i1 c6 h
        refine lv_iload_n hx hb dX3_playWinters_103 rfl (lv_at hl 2 rfl) ?_
        cases h
        exact q_wI F hr hlk dX3_playWinters_104 hP hD hS
      · replace h := q_i2 c6 h
        refine lv_iload_n hx hb dX3_playWinters_22 rfl (lv_at hl 2 rfl) ?_
        obtain ⟨x7, c8, h⟩ := q_o1 h
        refine q_roS F (kX3_nextSeed l E  v3 x7 c8) q_cX3_nextSeed q_lX3_211 (q_EV.go F.2.2.2.2.2 hAl hS) (fun k q h => by simp at h) ⟨by decide, by decide⟩ rfl ⟨_, hl⟩ (rest := []) rfl (Nat.le_of_ble_eq_true rfl) dX3_playWinters_23 ?_
        refine lv_istore_n (lv' := [(3, .int x7), (0, .ref (ad 0)), (1, .int v1), (4, .int v4)]) hx hb dX3_playWinters_26 rfl hl (by decide) rfl (fun ls hl => ?_)
        refine lv_iload_n hx hb dX3_playWinters_27 rfl (lv_at hl 0 rfl) ?_
        refine lv_aload_n hx hb dX3_playWinters_28 rfl (lv_at hl 1 rfl) ?_
        refine q_get F q_K3 hP 0 rfl 3 (by decide) q_fX3_26 rfl dX3_playWinters_29 ?_
        refine q_get F q_K2 hP 21 rfl 0 (by decide) q_fX3_162 rfl dX3_playWinters_32 ?_
        obtain ⟨x9, c10, h⟩ := q_o1 h
        refine q_roS F (kX3_drawn l E  x7 (s4 0 0) x9 c10) q_cX3_drawn q_lX3_214 (q_EV.go F.2.2.2.2.2 hAl hS) (fun k q h => by simp at h) ⟨by decide, by decide⟩ rfl ⟨_, hl⟩ (rest := []) rfl (Nat.le_of_ble_eq_true rfl) dX3_playWinters_35 ?_
        refine lv_istore (lv' := [(5, .int x9), (3, .int x7), (0, .ref (ad 0)), (1, .int v1), (4, .int v4)]) hx hb dX3_playWinters_38 hl (by decide) rfl (fun ls hl => ?_)
        refine lv_iload_n hx hb dX3_playWinters_40 rfl (lv_at hl 1 rfl) ?_
        obtain ⟨x11, c12, h⟩ := q_o1 h
        refine q_roS F (kX3_nextSeed l E  x7 x11 c12) q_cX3_nextSeed q_lX3_211 (q_EV.go F.2.2.2.2.2 hAl hS) (fun k q h => by simp at h) ⟨by decide, by decide⟩ rfl ⟨_, hl⟩ (rest := []) rfl (Nat.le_of_ble_eq_true rfl) dX3_playWinters_41 ?_
        refine lv_istore_n (lv' := [(3, .int x11), (5, .int x9), (0, .ref (ad 0)), (1, .int v1), (4, .int v4)]) hx hb dX3_playWinters_44 rfl hl (by decide) rfl (fun ls hl => ?_)
        refine lv_iload_n hx hb dX3_playWinters_45 rfl (lv_at hl 0 rfl) ?_
        refine lv_aload_n hx hb dX3_playWinters_46 rfl (lv_at hl 2 rfl) ?_
        refine q_get F q_K3 hP 0 rfl 3 (by decide) q_fX3_26 rfl dX3_playWinters_47 ?_
        refine q_get F q_K2 hP 21 rfl 6 (by decide) q_fX3_63 rfl dX3_playWinters_50 ?_
        obtain ⟨x13, c14, h⟩ := q_o1 h
        refine q_roS F (kX3_drawn l E  x11 (s4 6 0) x13 c14) q_cX3_drawn q_lX3_214 (q_EV.go F.2.2.2.2.2 hAl hS) (fun k q h => by simp at h) ⟨by decide, by decide⟩ rfl ⟨_, hl⟩ (rest := []) rfl (Nat.le_of_ble_eq_true rfl) dX3_playWinters_53 ?_
        refine lv_istore (lv' := [(6, .int x13), (3, .int x11), (5, .int x9), (0, .ref (ad 0)), (1, .int v1), (4, .int v4)]) hx hb dX3_playWinters_56 hl (by decide) rfl (fun ls hl => ?_)
        refine lv_aload_n hx hb dX3_playWinters_58 rfl (lv_at hl 3 rfl) ?_
        refine q_get F q_K3 hP 0 rfl 3 (by decide) q_fX3_26 rfl dX3_playWinters_59 ?_
        refine lv_iload hx hb dX3_playWinters_62 (lv_at hl 2 rfl) ?_
        refine lv_iload hx hb dX3_playWinters_64 (lv_at hl 0 rfl) ?_
        obtain ⟨x15, c16, h⟩ := q_o1 h
        refine q_roV F (kX2_wouldTake l E (ad 50) (fun k => ad (50 + k)) s4 x9 x13 x15 c16) q_cX2_wouldTake q_lX3_87 (q_EV.go F.2.2.2.2.2 hAl hS) ((q_s_X_V_4 E ad s0 s1 s2 s3 s4 s5).P hP) ⟨by decide, by decide⟩ (q0 := 0) rfl rfl rfl rfl ⟨_, hl⟩ (rest := []) rfl (Nat.le_of_ble_eq_true rfl) dX3_playWinters_66 ?_
        refine lv_if_eq (tgt := 83) hx hb dX3_playWinters_69 (by decide) (fun c17 => ?_) (fun c17 => ?_)
        · replace h := q_i1 c17 h
          exact K83 v1 x11 v4 s4 H _ hP hD hS ls (lv_sub hl [3, 4, 1, 5] rfl) h
        · replace h := q_i2 c17 h
          refine lv_aload_n hx hb dX3_playWinters_72 rfl (lv_at hl 3 rfl) ?_
          refine q_get F q_K3 hP 0 rfl 3 (by decide) q_fX3_26 rfl dX3_playWinters_73 ?_
          refine lv_iload hx hb dX3_playWinters_76 (lv_at hl 2 rfl) ?_
          refine lv_iload hx hb dX3_playWinters_78 (lv_at hl 0 rfl) ?_
          obtain ⟨y18, c19, h⟩ := q_o1 h
          refine q_muV F (kX2_takeWhole l E (ad 50) (fun k => ad (50 + k)) s4 x9 x13 H.size y18 c19) q_cX2_takeWhole q_lX3_90 (q_s_X_V_4w E ad s0 s1 s2 s3 s4 s5 y18) hP hD hS hA hAl ⟨by decide, by decide⟩ (q0 := 0) rfl rfl rfl rfl ⟨_, hl⟩ (rest := []) rfl (Nat.le_of_ble_eq_true rfl) dX3_playWinters_80 (fun H locs (hP : va_P (q_D E) vwCl (q_wX E ad s0 s1 s2 s3 y18 s5) H) hD hS => ?_)
          exact K83 v1 x11 v4 y18 H _ hP hD hS ls (lv_sub hl [3, 4, 1, 5] rfl) h
  unfold zX3_playWinters at h
  refine lv_aload_n hx hb dX3_playWinters_0 rfl (lv_at hl 0 rfl) ?_
  refine q_get F q_K3 hP 0 rfl 3 (by decide) q_fX3_26 rfl dX3_playWinters_1 ?_
  refine lv_aload_n hx hb dX3_playWinters_4 rfl (lv_at hl 0 rfl) ?_
  refine q_get F q_K3 hP 0 rfl 1 (by decide) q_fX3_19 rfl dX3_playWinters_5 ?_
  obtain ⟨y20, c21, h⟩ := q_o1 h
  refine q_muV F (kX2_copyFrom l E (ad 50) (fun k => ad (50 + k)) (ad 10) (fun k => ad (10 + k)) s4 s2 s.heap.size y20 c21) q_cX2_copyFrom q_lX3_121 (q_s_X_VV_4_2w E ad s0 s1 s2 s3 s4 s5 y20) hP hD hS hA hAl ⟨by decide, by decide⟩ (q0 := 0) rfl rfl rfl rfl ⟨_, hl⟩ (rest := []) rfl (Nat.le_of_ble_eq_true rfl) dX3_playWinters_8 (fun H locs (hP : va_P (q_D E) vwCl (q_wX E ad s0 s1 s2 s3 y20 s5) H) hD hS => ?_)
  refine lv_iload_n hx hb dX3_playWinters_11 rfl (lv_at hl 2 rfl) ?_
  refine lv_istore_n (lv' := [(3, .int v2), (0, .ref (ad 0)), (1, .int v1), (2, .int v2)]) hx hb dX3_playWinters_12 rfl hl (by decide) rfl (fun ls hl => ?_)
  refine lv_iconst (v := 1) hx hb dX3_playWinters_13 (by decide) ?_
  refine lv_istore (lv' := [(4, .int (1 : Int32)), (3, .int v2), (0, .ref (ad 0)), (1, .int v1), (2, .int v2)]) hx hb dX3_playWinters_14 hl (by decide) rfl (fun ls hl => ?_)
  exact K16 70000 v1 v2 (1 : Int32) y20 H _ hP hD hS ls (lv_sub hl [2, 3, 1, 0] rfl) h
def zX3_winters (s2 : q_S) (s4 : q_S) (v1 : Int32) (v2 : Int32) (v3 : Int32) : Option (Int32 × q_S) := if v1 < (1 : Int32) then (some ((-102 : Int32), s4)) else (if (60 : Int32) < v1 then (some ((-102 : Int32), s4)) else (if v2 < 0 then (some ((-102 : Int32), s4)) else (if v3 < 0 then (some ((-102 : Int32), s4)) else (if v3 ≤ (2 : Int32) then (q_b1 (zX2_isRead s2) fun x6 => if x6 = 0 then (some ((-103 : Int32), s4)) else (q_b2 (zX3_playWinters s2 s4 v1 v2) fun x9 y10 => if v3 = 0 then (q_b1 (zJ6_bitCount_0f7a4 (y10 7 0)) fun x13 => some (x13, y10)) else (if v3 = 1 then (q_b1 (zX3_sumOf 4 (y10 4)) fun x16 => some (x16, y10)) else (some (x9, y10))))) else (some ((-102 : Int32), s4))))))
set_option maxHeartbeats 4000000 in
set_option maxRecDepth 100000 in
theorem kX3_winters (l : Launch) (E : q_E) (ad : Nat → Nat) (s0 : q_S) (s1 : q_S) (s2 : q_S) (s3 : q_S) (s4 : q_S) (s5 : q_S) (v1 : Int32) (v2 : Int32) (v3 : Int32) (sz : Nat) (r : Int32) (rs4 : q_S) (h : zX3_winters s2 s4 v1 v2 v3 = some (r, rs4)) : q_MU l E yX3_winters cX3_winters 5 (some .int) 5 [.ref (ad 0), .int v1, .int v2, .int v3] sz (q_wX E ad s0 s1 s2 s3 s4 s5) (q_wX E ad s0 s1 s2 s3 rs4 s5) (some (.int r)) := by
  refine q_MU.intro (by decide) (Nat.le_of_ble_eq_true rfl) ?_
  intro p e s m args below meth c A X hP hD hA hAl ls hl
  obtain ⟨hx, hb, hml, hr, hlk, hown, hB, hE⟩ := X
  have hown : s.vm.findClass RX3 = some m.cls := hown
  have F : q_Fx p s m c E RX3 cX3_winters 5 := ⟨hx, hb, hml, hown, hB, hE⟩
  have hS : va_S A s.heap s.heap [] := va_S.rf
  have hl : lv_has ls 5 [(0, .ref (ad 0)), (1, .int v1), (2, .int v2), (3, .int v3)] := hl
  unfold zX3_winters at h
  refine lv_iload_n hx hb dX3_winters_0 rfl (lv_at hl 1 rfl) ?_
  refine lv_iconst (v := 1) hx hb dX3_winters_1 (by decide) ?_
  refine lv_icmp_lt (tgt := 24) hx hb dX3_winters_2 (by decide) (fun c1 => ?_) (fun c1 => ?_)
  · replace h := q_i1 c1 h
    refine lv_bipush (v := (-102)) hx hb dX3_winters_24 (by decide) ?_
    cases h
    exact q_wI F hr hlk dX3_winters_26 hP hD hS
  · replace h := q_i2 c1 h
    refine lv_iload_n hx hb dX3_winters_5 rfl (lv_at hl 1 rfl) ?_
    refine lv_bipush (v := 60) hx hb dX3_winters_6 (by decide) ?_
    refine lv_icmp_gt (tgt := 24) hx hb dX3_winters_8 (by decide) (fun c2 => ?_) (fun c2 => ?_)
    · replace h := q_i1 c2 h
      refine lv_bipush (v := (-102)) hx hb dX3_winters_24 (by decide) ?_
      cases h
      exact q_wI F hr hlk dX3_winters_26 hP hD hS
    · replace h := q_i2 c2 h
      refine lv_iload_n hx hb dX3_winters_11 rfl (lv_at hl 2 rfl) ?_
      refine lv_if_lt (tgt := 24) hx hb dX3_winters_12 (by decide) (fun c3 => ?_) (fun c3 => ?_)
      · replace h := q_i1 c3 h
        refine lv_bipush (v := (-102)) hx hb dX3_winters_24 (by decide) ?_
        cases h
        exact q_wI F hr hlk dX3_winters_26 hP hD hS
      · replace h := q_i2 c3 h
        refine lv_iload_n hx hb dX3_winters_15 rfl (lv_at hl 3 rfl) ?_
        refine lv_if_lt (tgt := 24) hx hb dX3_winters_16 (by decide) (fun c4 => ?_) (fun c4 => ?_)
        · replace h := q_i1 c4 h
          refine lv_bipush (v := (-102)) hx hb dX3_winters_24 (by decide) ?_
          cases h
          exact q_wI F hr hlk dX3_winters_26 hP hD hS
        · replace h := q_i2 c4 h
          refine lv_iload_n hx hb dX3_winters_19 rfl (lv_at hl 3 rfl) ?_
          refine lv_iconst (v := 2) hx hb dX3_winters_20 (by decide) ?_
          refine lv_icmp_le (tgt := 27) hx hb dX3_winters_21 (by decide) (fun c5 => ?_) (fun c5 => ?_)
          · replace h := q_i1 c5 h
            refine lv_aload_n hx hb dX3_winters_27 rfl (lv_at hl 0 rfl) ?_
            refine q_get F q_K3 hP 0 rfl 1 (by decide) q_fX3_19 rfl dX3_winters_28 ?_
            obtain ⟨x6, c7, h⟩ := q_o1 h
            refine q_roV F (kX2_isRead l E (ad 10) (fun k => ad (10 + k)) s2 x6 c7) q_cX2_isRead q_lX3_101 (q_EV.go F.2.2.2.2.2 hAl hS) ((q_s_X_V_2 E ad s0 s1 s2 s3 s4 s5).P hP) ⟨by decide, by decide⟩ (q0 := 0) rfl rfl rfl rfl ⟨_, hl⟩ (rest := []) rfl (Nat.le_of_ble_eq_true rfl) dX3_winters_31 ?_
            refine lv_if_ne (tgt := 40) hx hb dX3_winters_34 (by decide) (fun c8 => ?_) (fun c8 => ?_)
            · replace h := q_i2 c8 h
              refine lv_aload_n hx hb dX3_winters_40 rfl (lv_at hl 0 rfl) ?_
              refine lv_iload_n hx hb dX3_winters_41 rfl (lv_at hl 1 rfl) ?_
              refine lv_iload_n hx hb dX3_winters_42 rfl (lv_at hl 2 rfl) ?_
              obtain ⟨x9, y10, c11, h⟩ := q_o2 h
              refine q_muV F (kX3_playWinters l E ad s0 s1 s2 s3 s4 s5 v1 v2 s.heap.size x9 y10 c11) q_cX3_playWinters q_lX3_151 (q_s_X_X_0_1_2_3_4_5w E ad s0 s1 s2 s3 s4 s5 y10) hP hD hS hA hAl ⟨by decide, by decide⟩ (q0 := 0) rfl rfl rfl rfl ⟨_, hl⟩ (rest := []) rfl (Nat.le_of_ble_eq_true rfl) dX3_winters_43 (fun H locs (hP : va_P (q_D E) vwCl (q_wX E ad s0 s1 s2 s3 y10 s5) H) hD hS => ?_)
              refine lv_istore (lv' := [(4, .int x9), (0, .ref (ad 0)), (1, .int v1), (2, .int v2), (3, .int v3)]) hx hb dX3_winters_46 hl (by decide) rfl (fun ls hl => ?_)
              refine lv_iload_n hx hb dX3_winters_48 rfl (lv_at hl 4 rfl) ?_
              by_cases c12 : v3 = 0
              · replace h := q_i1 c12 h
                refine lv_lookup (off := 27) (tgt := 76) hx hb dX3_winters_49 (by decide) (by rw [c12]; rfl) (by decide) ?_
                refine lv_aload_n hx hb dX3_winters_76 rfl (lv_at hl 1 rfl) ?_
                refine q_get F q_K3 hP 0 rfl 3 (by decide) q_fX3_26 rfl dX3_winters_77 ?_
                refine q_get F q_K2 hP 21 rfl 7 (by decide) q_fX3_154 rfl dX3_winters_80 ?_
                obtain ⟨x13, c14, h⟩ := q_o1 h
                refine q_roS F (kJ6_bitCount_0f7a4 l E  (y10 7 0) x13 c14) q_cJ6_bitCount_0f7a4 q_lX3_157 (q_EV.go F.2.2.2.2.2 hAl hS) (fun k q h => by simp at h) ⟨by decide, by decide⟩ rfl ⟨_, hl⟩ (rest := []) rfl (Nat.le_of_ble_eq_true rfl) dX3_winters_83 ?_
                cases h
                exact q_wI F hr hlk dX3_winters_86 hP hD hS
              · replace h := q_i2 c12 h
                by_cases c15 : v3 = 1
                · replace h := q_i1 c15 h
                  refine lv_lookup (off := 38) (tgt := 87) hx hb dX3_winters_49 (by decide) (by rw [c15]; rfl) (by decide) ?_
                  refine lv_aload_n hx hb dX3_winters_87 rfl (lv_at hl 1 rfl) ?_
                  refine q_get F q_K3 hP 0 rfl 3 (by decide) q_fX3_26 rfl dX3_winters_88 ?_
                  refine q_get F q_K2 hP 21 rfl 4 (by decide) q_fX3_94 rfl dX3_winters_91 ?_
                  obtain ⟨x16, c17, h⟩ := q_o1 h
                  refine q_roS F (kX3_sumOf l E ((fun k => ad (50 + k)) 4) 4 (y10 4) x16 c17) q_cX3_sumOf q_lX3_107 (q_EV.go F.2.2.2.2.2 hAl hS) ((q_s_X_R_4f4 E ad s0 s1 s2 s3 y10 s5).P hP) ⟨by decide, by decide⟩ rfl ⟨_, hl⟩ (rest := []) rfl (Nat.le_of_ble_eq_true rfl) dX3_winters_94 ?_
                  cases h
                  exact q_wI F hr hlk dX3_winters_97 hP hD hS
                · replace h := q_i2 c15 h
                  refine lv_lookup (off := 49) (tgt := 98) hx hb dX3_winters_49 (by decide) (by rw [lv_osw c12 (by decide)]; rw [lv_osw c15 (by decide)]; rfl) (by decide) ?_
                  refine lv_iload hx hb dX3_winters_98 (lv_at hl 0 rfl) ?_
                  cases h
                  exact q_wI F hr hlk dX3_winters_100 hP hD hS
            · replace h := q_i1 c8 h
              refine lv_bipush (v := (-103)) hx hb dX3_winters_37 (by decide) ?_
              cases h
              exact q_wI F hr hlk dX3_winters_39 hP hD hS
          · replace h := q_i2 c5 h
            refine lv_bipush (v := (-102)) hx hb dX3_winters_24 (by decide) ?_
            cases h
            exact q_wI F hr hlk dX3_winters_26 hP hD hS
def zX3_image (s0 : q_S) (s2 : q_S) (s3 : q_S) : Option (Int32 × q_S × q_S) := q_b1 (zX2_isRead s2) fun x1 => if x1 = 0 then (some ((-103 : Int32), s0, s3)) else (q_b1 (zX2_copyFrom s3 s2) fun y4 => q_lt (q_u s0 5 0 (1 : Int32)) fun y6 => q_b1 (zJ6_bitCount_0f7a4 (y4 7 0)) fun x7 => some (x7, y6, y4))
set_option maxHeartbeats 4000000 in
set_option maxRecDepth 100000 in
theorem kX3_image (l : Launch) (E : q_E) (ad : Nat → Nat) (s0 : q_S) (s1 : q_S) (s2 : q_S) (s3 : q_S) (s4 : q_S) (s5 : q_S)  (sz : Nat) (r : Int32) (rs0 : q_S) (rs3 : q_S) (h : zX3_image s0 s2 s3 = some (r, rs0, rs3)) : q_MU l E yX3_image cX3_image 1 (some .int) 3 [.ref (ad 0)] sz (q_wX E ad s0 s1 s2 s3 s4 s5) (q_wX E ad rs0 s1 s2 rs3 s4 s5) (some (.int r)) := by
  refine q_MU.intro (by decide) (Nat.le_of_ble_eq_true rfl) ?_
  intro p e s m args below meth c A X hP hD hA hAl ls hl
  obtain ⟨hx, hb, hml, hr, hlk, hown, hB, hE⟩ := X
  have hown : s.vm.findClass RX3 = some m.cls := hown
  have F : q_Fx p s m c E RX3 cX3_image 1 := ⟨hx, hb, hml, hown, hB, hE⟩
  have hS : va_S A s.heap s.heap [] := va_S.rf
  have hl : lv_has ls 1 [(0, .ref (ad 0))] := hl
  unfold zX3_image at h
  refine lv_aload_n hx hb dX3_image_0 rfl (lv_at hl 0 rfl) ?_
  refine q_get F q_K3 hP 0 rfl 1 (by decide) q_fX3_19 rfl dX3_image_1 ?_
  obtain ⟨x1, c2, h⟩ := q_o1 h
  refine q_roV F (kX2_isRead l E (ad 10) (fun k => ad (10 + k)) s2 x1 c2) q_cX2_isRead q_lX3_101 (q_EV.go F.2.2.2.2.2 hAl hS) ((q_s_X_V_2 E ad s0 s1 s2 s3 s4 s5).P hP) ⟨by decide, by decide⟩ (q0 := 0) rfl rfl rfl rfl ⟨_, hl⟩ (rest := []) rfl (Nat.le_of_ble_eq_true rfl) dX3_image_4 ?_
  refine lv_if_ne (tgt := 13) hx hb dX3_image_7 (by decide) (fun c3 => ?_) (fun c3 => ?_)
  · replace h := q_i2 c3 h
    refine lv_aload_n hx hb dX3_image_13 rfl (lv_at hl 0 rfl) ?_
    refine q_get F q_K3 hP 0 rfl 2 (by decide) q_fX3_23 rfl dX3_image_14 ?_
    refine lv_aload_n hx hb dX3_image_17 rfl (lv_at hl 0 rfl) ?_
    refine q_get F q_K3 hP 0 rfl 1 (by decide) q_fX3_19 rfl dX3_image_18 ?_
    obtain ⟨y4, c5, h⟩ := q_o1 h
    refine q_muV F (kX2_copyFrom l E (ad 30) (fun k => ad (30 + k)) (ad 10) (fun k => ad (10 + k)) s3 s2 s.heap.size y4 c5) q_cX2_copyFrom q_lX3_121 (q_s_X_VV_3_2w E ad s0 s1 s2 s3 s4 s5 y4) hP hD hS hA hAl ⟨by decide, by decide⟩ (q0 := 0) rfl rfl rfl rfl ⟨_, hl⟩ (rest := []) rfl (Nat.le_of_ble_eq_true rfl) dX3_image_21 (fun H locs (hP : va_P (q_D E) vwCl (q_wX E ad s0 s1 s2 y4 s4 s5) H) hD hS => ?_)
    refine lv_aload_n hx hb dX3_image_24 rfl (lv_at hl 0 rfl) ?_
    refine lv_iconst (v := 1) hx hb dX3_image_25 (by decide) ?_
    obtain ⟨y6, ey6, h⟩ := q_ol h
    refine q_put F q_K3 hP hD hS 0 rfl 5 (by decide) q_fX3_56 rfl rfl rfl (Nat.le_of_ble_eq_true rfl) (by rw [ey6]; rfl) dX3_image_26 (fun H locs (hP : va_P (q_D E) vwCl (q_wX E ad y6 s1 s2 y4 s4 s5) H) hD hS => ?_)
    refine lv_aload_n hx hb dX3_image_29 rfl (lv_at hl 0 rfl) ?_
    refine q_get F q_K3 hP 0 rfl 2 (by decide) q_fX3_23 rfl dX3_image_30 ?_
    refine q_get F q_K2 hP 12 rfl 7 (by decide) q_fX3_154 rfl dX3_image_33 ?_
    obtain ⟨x7, c8, h⟩ := q_o1 h
    refine q_roS F (kJ6_bitCount_0f7a4 l E  (y4 7 0) x7 c8) q_cJ6_bitCount_0f7a4 q_lX3_157 (q_EV.go F.2.2.2.2.2 hAl hS) (fun k q h => by simp at h) ⟨by decide, by decide⟩ rfl ⟨_, hl⟩ (rest := []) rfl (Nat.le_of_ble_eq_true rfl) dX3_image_36 ?_
    cases h
    exact q_wI F hr hlk dX3_image_39 hP hD hS
  · replace h := q_i1 c3 h
    refine lv_bipush (v := (-103)) hx hb dX3_image_10 (by decide) ?_
    cases h
    exact q_wI F hr hlk dX3_image_12 hP hD hS
def zX3_restore (s0 : q_S) (s2 : q_S) (s3 : q_S) : Option (Int32 × q_S) := if (s0 5 0) = 0 then (some ((-103 : Int32), s2)) else (q_b1 (zX2_copyFrom s2 s3) fun y2 => q_b1 (zJ6_bitCount_0f7a4 (y2 7 0)) fun x4 => some (x4, y2))
set_option maxHeartbeats 4000000 in
set_option maxRecDepth 100000 in
theorem kX3_restore (l : Launch) (E : q_E) (ad : Nat → Nat) (s0 : q_S) (s1 : q_S) (s2 : q_S) (s3 : q_S) (s4 : q_S) (s5 : q_S)  (sz : Nat) (r : Int32) (rs2 : q_S) (h : zX3_restore s0 s2 s3 = some (r, rs2)) : q_MU l E yX3_restore cX3_restore 1 (some .int) 3 [.ref (ad 0)] sz (q_wX E ad s0 s1 s2 s3 s4 s5) (q_wX E ad s0 s1 rs2 s3 s4 s5) (some (.int r)) := by
  refine q_MU.intro (by decide) (Nat.le_of_ble_eq_true rfl) ?_
  intro p e s m args below meth c A X hP hD hA hAl ls hl
  obtain ⟨hx, hb, hml, hr, hlk, hown, hB, hE⟩ := X
  have hown : s.vm.findClass RX3 = some m.cls := hown
  have F : q_Fx p s m c E RX3 cX3_restore 1 := ⟨hx, hb, hml, hown, hB, hE⟩
  have hS : va_S A s.heap s.heap [] := va_S.rf
  have hl : lv_has ls 1 [(0, .ref (ad 0))] := hl
  unfold zX3_restore at h
  refine lv_aload_n hx hb dX3_restore_0 rfl (lv_at hl 0 rfl) ?_
  refine q_get F q_K3 hP 0 rfl 5 (by decide) q_fX3_56 rfl dX3_restore_1 ?_
  refine lv_if_ne (tgt := 10) hx hb dX3_restore_4 (by decide) (fun c1 => ?_) (fun c1 => ?_)
  · replace h := q_i2 c1 h
    refine lv_aload_n hx hb dX3_restore_10 rfl (lv_at hl 0 rfl) ?_
    refine q_get F q_K3 hP 0 rfl 1 (by decide) q_fX3_19 rfl dX3_restore_11 ?_
    refine lv_aload_n hx hb dX3_restore_14 rfl (lv_at hl 0 rfl) ?_
    refine q_get F q_K3 hP 0 rfl 2 (by decide) q_fX3_23 rfl dX3_restore_15 ?_
    obtain ⟨y2, c3, h⟩ := q_o1 h
    refine q_muV F (kX2_copyFrom l E (ad 10) (fun k => ad (10 + k)) (ad 30) (fun k => ad (30 + k)) s2 s3 s.heap.size y2 c3) q_cX2_copyFrom q_lX3_121 (q_s_X_VV_2_3w E ad s0 s1 s2 s3 s4 s5 y2) hP hD hS hA hAl ⟨by decide, by decide⟩ (q0 := 0) rfl rfl rfl rfl ⟨_, hl⟩ (rest := []) rfl (Nat.le_of_ble_eq_true rfl) dX3_restore_18 (fun H locs (hP : va_P (q_D E) vwCl (q_wX E ad s0 s1 y2 s3 s4 s5) H) hD hS => ?_)
    refine lv_aload_n hx hb dX3_restore_21 rfl (lv_at hl 0 rfl) ?_
    refine q_get F q_K3 hP 0 rfl 1 (by decide) q_fX3_19 rfl dX3_restore_22 ?_
    refine q_get F q_K2 hP 3 rfl 7 (by decide) q_fX3_154 rfl dX3_restore_25 ?_
    obtain ⟨x4, c5, h⟩ := q_o1 h
    refine q_roS F (kJ6_bitCount_0f7a4 l E  (y2 7 0) x4 c5) q_cJ6_bitCount_0f7a4 q_lX3_157 (q_EV.go F.2.2.2.2.2 hAl hS) (fun k q h => by simp at h) ⟨by decide, by decide⟩ rfl ⟨_, hl⟩ (rest := []) rfl (Nat.le_of_ble_eq_true rfl) dX3_restore_28 ?_
    cases h
    exact q_wI F hr hlk dX3_restore_31 hP hD hS
  · replace h := q_i1 c1 h
    refine lv_bipush (v := (-103)) hx hb dX3_restore_7 (by decide) ?_
    cases h
    exact q_wI F hr hlk dX3_restore_9 hP hD hS
def zX3_count (s0 : q_S) (s1 : q_S) (s2 : q_S) (v1 : Int32) : Option (Int32) := if v1 = 0 then (some (s2 0 0)) else (if v1 = 1 then (q_b1 (zJ6_bitCount_0f7a4 (s2 1 0)) fun x3 => some x3) else (if v1 = 2 then (some (s2 6 0)) else (if v1 = 3 then (q_b1 (zJ6_bitCount_0f7a4 (s2 7 0)) fun x7 => some x7) else (if v1 = 4 then (q_b1 (zX3_sumOf 4 (s2 4)) fun x10 => some x10) else (if v1 = 5 then (q_b1 (zX3_sumOf 4 (s2 5)) fun x13 => some x13) else (if v1 = 6 then (some (s2 10 0)) else (if v1 = 7 then (some (s2 11 0)) else (if v1 = 8 then (some (s1 1 0)) else (if v1 = 9 then (some (s0 6 0)) else (if v1 = 10 then (some (s0 7 0)) else (some (-102 : Int32))))))))))))
set_option maxHeartbeats 4000000 in
set_option maxRecDepth 100000 in
theorem kX3_count (l : Launch) (E : q_E) (ad : Nat → Nat) (s0 : q_S) (s1 : q_S) (s2 : q_S) (s3 : q_S) (s4 : q_S) (s5 : q_S) (v1 : Int32) (r : Int32) (h : zX3_count s0 s1 s2 v1 = some r) : q_RO l E yX3_count cX3_count 2 (some .int) 2 [.ref (ad 0), .int v1] (q_wX E ad s0 s1 s2 s3 s4 s5) (.int r) := by
  refine q_RO.intro (by decide) (Nat.le_of_ble_eq_true rfl) ?_
  intro p e s m args below meth c X hP ls hl
  obtain ⟨hx, hb, hml, hr, hlk, hown, hB, hE⟩ := X
  have hown : s.vm.findClass RX3 = some m.cls := hown
  have F : q_Fx p s m c E RX3 cX3_count 2 := ⟨hx, hb, hml, hown, hB, hE⟩
  have hV := q_EV.here hE
  have hl : lv_has ls 2 [(0, .ref (ad 0)), (1, .int v1)] := hl
  unfold zX3_count at h
  refine lv_iload_n hx hb dX3_count_0 rfl (lv_at hl 1 rfl) ?_
  by_cases c1 : v1 = 0
  · replace h := q_i1 c1 h
    refine lv_tableIn (off := 59) (tgt := 60) hx hb dX3_count_1 (by rw [c1]; decide) (by rw [c1]; decide) (by rw [c1]; rfl) (by decide) ?_
    refine lv_aload_n hx hb dX3_count_60 rfl (lv_at hl 0 rfl) ?_
    refine q_get F q_K3 hP 0 rfl 1 (by decide) q_fX3_19 rfl dX3_count_61 ?_
    refine q_get F q_K2 hP 3 rfl 0 (by decide) q_fX3_162 rfl dX3_count_64 ?_
    exact q_rI F hr hlk dX3_count_67 h
  · replace h := q_i2 c1 h
    by_cases c2 : v1 = 1
    · replace h := q_i1 c2 h
      refine lv_tableIn (off := 67) (tgt := 68) hx hb dX3_count_1 (by rw [c2]; decide) (by rw [c2]; decide) (by rw [c2]; rfl) (by decide) ?_
      refine lv_aload_n hx hb dX3_count_68 rfl (lv_at hl 0 rfl) ?_
      refine q_get F q_K3 hP 0 rfl 1 (by decide) q_fX3_19 rfl dX3_count_69 ?_
      refine q_get F q_K2 hP 3 rfl 1 (by decide) q_fX3_165 rfl dX3_count_72 ?_
      obtain ⟨x3, c4, h⟩ := q_o1 h
      refine q_roS F (kJ6_bitCount_0f7a4 l E  (s2 1 0) x3 c4) q_cJ6_bitCount_0f7a4 q_lX3_157 hV (fun k q h => by simp at h) ⟨by decide, by decide⟩ rfl ⟨_, hl⟩ (rest := []) rfl (Nat.le_of_ble_eq_true rfl) dX3_count_75 ?_
      exact q_rI F hr hlk dX3_count_78 h
    · replace h := q_i2 c2 h
      by_cases c5 : v1 = 2
      · replace h := q_i1 c5 h
        refine lv_tableIn (off := 78) (tgt := 79) hx hb dX3_count_1 (by rw [c5]; decide) (by rw [c5]; decide) (by rw [c5]; rfl) (by decide) ?_
        refine lv_aload_n hx hb dX3_count_79 rfl (lv_at hl 0 rfl) ?_
        refine q_get F q_K3 hP 0 rfl 1 (by decide) q_fX3_19 rfl dX3_count_80 ?_
        refine q_get F q_K2 hP 3 rfl 6 (by decide) q_fX3_63 rfl dX3_count_83 ?_
        exact q_rI F hr hlk dX3_count_86 h
      · replace h := q_i2 c5 h
        by_cases c6 : v1 = 3
        · replace h := q_i1 c6 h
          refine lv_tableIn (off := 86) (tgt := 87) hx hb dX3_count_1 (by rw [c6]; decide) (by rw [c6]; decide) (by rw [c6]; rfl) (by decide) ?_
          refine lv_aload_n hx hb dX3_count_87 rfl (lv_at hl 0 rfl) ?_
          refine q_get F q_K3 hP 0 rfl 1 (by decide) q_fX3_19 rfl dX3_count_88 ?_
          refine q_get F q_K2 hP 3 rfl 7 (by decide) q_fX3_154 rfl dX3_count_91 ?_
          obtain ⟨x7, c8, h⟩ := q_o1 h
          refine q_roS F (kJ6_bitCount_0f7a4 l E  (s2 7 0) x7 c8) q_cJ6_bitCount_0f7a4 q_lX3_157 hV (fun k q h => by simp at h) ⟨by decide, by decide⟩ rfl ⟨_, hl⟩ (rest := []) rfl (Nat.le_of_ble_eq_true rfl) dX3_count_94 ?_
          exact q_rI F hr hlk dX3_count_97 h
        · replace h := q_i2 c6 h
          by_cases c9 : v1 = 4
          · replace h := q_i1 c9 h
            refine lv_tableIn (off := 97) (tgt := 98) hx hb dX3_count_1 (by rw [c9]; decide) (by rw [c9]; decide) (by rw [c9]; rfl) (by decide) ?_
            refine lv_aload_n hx hb dX3_count_98 rfl (lv_at hl 0 rfl) ?_
            refine q_get F q_K3 hP 0 rfl 1 (by decide) q_fX3_19 rfl dX3_count_99 ?_
            refine q_get F q_K2 hP 3 rfl 4 (by decide) q_fX3_94 rfl dX3_count_102 ?_
            obtain ⟨x10, c11, h⟩ := q_o1 h
            refine q_roS F (kX3_sumOf l E ((fun k => ad (10 + k)) 4) 4 (s2 4) x10 c11) q_cX3_sumOf q_lX3_107 hV ((q_s_X_R_2f4 E ad s0 s1 s2 s3 s4 s5).P hP) ⟨by decide, by decide⟩ rfl ⟨_, hl⟩ (rest := []) rfl (Nat.le_of_ble_eq_true rfl) dX3_count_105 ?_
            exact q_rI F hr hlk dX3_count_108 h
          · replace h := q_i2 c9 h
            by_cases c12 : v1 = 5
            · replace h := q_i1 c12 h
              refine lv_tableIn (off := 108) (tgt := 109) hx hb dX3_count_1 (by rw [c12]; decide) (by rw [c12]; decide) (by rw [c12]; rfl) (by decide) ?_
              refine lv_aload_n hx hb dX3_count_109 rfl (lv_at hl 0 rfl) ?_
              refine q_get F q_K3 hP 0 rfl 1 (by decide) q_fX3_19 rfl dX3_count_110 ?_
              refine q_get F q_K2 hP 3 rfl 5 (by decide) q_fX3_168 rfl dX3_count_113 ?_
              obtain ⟨x13, c14, h⟩ := q_o1 h
              refine q_roS F (kX3_sumOf l E ((fun k => ad (10 + k)) 5) 4 (s2 5) x13 c14) q_cX3_sumOf q_lX3_107 hV ((q_s_X_R_2f5 E ad s0 s1 s2 s3 s4 s5).P hP) ⟨by decide, by decide⟩ rfl ⟨_, hl⟩ (rest := []) rfl (Nat.le_of_ble_eq_true rfl) dX3_count_116 ?_
              exact q_rI F hr hlk dX3_count_119 h
            · replace h := q_i2 c12 h
              by_cases c15 : v1 = 6
              · replace h := q_i1 c15 h
                refine lv_tableIn (off := 119) (tgt := 120) hx hb dX3_count_1 (by rw [c15]; decide) (by rw [c15]; decide) (by rw [c15]; rfl) (by decide) ?_
                refine lv_aload_n hx hb dX3_count_120 rfl (lv_at hl 0 rfl) ?_
                refine q_get F q_K3 hP 0 rfl 1 (by decide) q_fX3_19 rfl dX3_count_121 ?_
                refine q_get F q_K2 hP 3 rfl 10 (by decide) q_fX3_171 rfl dX3_count_124 ?_
                exact q_rI F hr hlk dX3_count_127 h
              · replace h := q_i2 c15 h
                by_cases c16 : v1 = 7
                · replace h := q_i1 c16 h
                  refine lv_tableIn (off := 127) (tgt := 128) hx hb dX3_count_1 (by rw [c16]; decide) (by rw [c16]; decide) (by rw [c16]; rfl) (by decide) ?_
                  refine lv_aload_n hx hb dX3_count_128 rfl (lv_at hl 0 rfl) ?_
                  refine q_get F q_K3 hP 0 rfl 1 (by decide) q_fX3_19 rfl dX3_count_129 ?_
                  refine q_get F q_K2 hP 3 rfl 11 (by decide) q_fX3_144 rfl dX3_count_132 ?_
                  exact q_rI F hr hlk dX3_count_135 h
                · replace h := q_i2 c16 h
                  by_cases c17 : v1 = 8
                  · replace h := q_i1 c17 h
                    refine lv_tableIn (off := 135) (tgt := 136) hx hb dX3_count_1 (by rw [c17]; decide) (by rw [c17]; decide) (by rw [c17]; rfl) (by decide) ?_
                    refine lv_aload_n hx hb dX3_count_136 rfl (lv_at hl 0 rfl) ?_
                    refine q_get F q_K3 hP 0 rfl 0 (by decide) q_fX3_10 rfl dX3_count_137 ?_
                    refine q_get F q_K0 hP 1 rfl 1 (by decide) q_fX3_40 rfl dX3_count_140 ?_
                    exact q_rI F hr hlk dX3_count_143 h
                  · replace h := q_i2 c17 h
                    by_cases c18 : v1 = 9
                    · replace h := q_i1 c18 h
                      refine lv_tableIn (off := 143) (tgt := 144) hx hb dX3_count_1 (by rw [c18]; decide) (by rw [c18]; decide) (by rw [c18]; rfl) (by decide) ?_
                      refine lv_aload_n hx hb dX3_count_144 rfl (lv_at hl 0 rfl) ?_
                      refine q_get F q_K3 hP 0 rfl 6 (by decide) q_fX3_60 rfl dX3_count_145 ?_
                      exact q_rI F hr hlk dX3_count_148 h
                    · replace h := q_i2 c18 h
                      by_cases c19 : v1 = 10
                      · replace h := q_i1 c19 h
                        refine lv_tableIn (off := 148) (tgt := 149) hx hb dX3_count_1 (by rw [c19]; decide) (by rw [c19]; decide) (by rw [c19]; rfl) (by decide) ?_
                        refine lv_aload_n hx hb dX3_count_149 rfl (lv_at hl 0 rfl) ?_
                        refine q_get F q_K3 hP 0 rfl 7 (by decide) q_fX3_118 rfl dX3_count_150 ?_
                        exact q_rI F hr hlk dX3_count_153 h
                      · replace h := q_i2 c19 h
                        refine lv_tableOut (tgt := 154) hx hb dX3_count_1 (by have zc1 := lv_neT c1 (a := 0) (by decide); have zc2 := lv_neT c2 (a := 1) (by decide); have zc5 := lv_neT c5 (a := 2) (by decide); have zc6 := lv_neT c6 (a := 3) (by decide); have zc9 := lv_neT c9 (a := 4) (by decide); have zc12 := lv_neT c12 (a := 5) (by decide); have zc15 := lv_neT c15 (a := 6) (by decide); have zc16 := lv_neT c16 (a := 7) (by decide); have zc17 := lv_neT c17 (a := 8) (by decide); have zc18 := lv_neT c18 (a := 9) (by decide); have zc19 := lv_neT c19 (a := 10) (by decide); omega) (by decide) ?_
                        refine lv_bipush (v := (-102)) hx hb dX3_count_154 (by decide) ?_
                        exact q_rI F hr hlk dX3_count_156 h
def jX3_digest_140 (s0 : q_S) (s1 : q_S) (s2 : q_S) (k140 : Int64 → Int32 → Option (Int64)) (v1 : Int64) (v3 : Int32) : Option (Int64) := if (10 : Int32) < v3 then (some v1) else (q_b1 (zX3_count s0 s1 s2 v3) fun x2 => q_lt (((31 : Int64) * v1) + x2.toInt64) fun x4 => q_lt (v3 + 1) fun x5 => k140 x4 x5)
def zX3_digest_140 (s0 : q_S) (s1 : q_S) (s2 : q_S) : Nat → Int64 → Int32 → Option (Int64)
  | 0, _, _ => none
  | n + 1, v1, v3 => jX3_digest_140 s0 s1 s2 (zX3_digest_140 s0 s1 s2 n) v1 v3
theorem zX3_digest_140_s (s0 : q_S) (s1 : q_S) (s2 : q_S) (n : Nat) (v1 : Int64) (v3 : Int32) : zX3_digest_140 s0 s1 s2 (n + 1) v1 v3 = jX3_digest_140 s0 s1 s2 (zX3_digest_140 s0 s1 s2 n) v1 v3 := rfl
def jX3_digest_105 (s0 : q_S) (s1 : q_S) (s2 : q_S) (k105 : Int64 → Int32 → Option (Int64)) (v1 : Int64) (v3 : Int32) : Option (Int64) := if (s1 1 0) ≤ v3 then (zX3_digest_140 s0 s1 s2 70000 v1 (0 : Int32)) else (q_b1 (zX0_letterAt s1 v3) fun x7 => q_lt (((31 : Int64) * v1) + x7.toInt64) fun x9 => q_lt (v3 + 1) fun x10 => k105 x9 x10)
def zX3_digest_105 (s0 : q_S) (s1 : q_S) (s2 : q_S) : Nat → Int64 → Int32 → Option (Int64)
  | 0, _, _ => none
  | n + 1, v1, v3 => jX3_digest_105 s0 s1 s2 (zX3_digest_105 s0 s1 s2 n) v1 v3
theorem zX3_digest_105_s (s0 : q_S) (s1 : q_S) (s2 : q_S) (n : Nat) (v1 : Int64) (v3 : Int32) : zX3_digest_105 s0 s1 s2 (n + 1) v1 v3 = jX3_digest_105 s0 s1 s2 (zX3_digest_105 s0 s1 s2 n) v1 v3 := rfl
def jX3_digest_70 (k56 : Int64 → Int32 → Option (Int64)) (s2 : q_S) (v3 : Int32) (k70 : Int64 → Int32 → Option (Int64)) (v1 : Int64) (v4 : Int32) : Option (Int64) := if (4 : Int32) < v4 then (q_lt (v3 + 1) fun x12 => k56 v1 x12) else (q_b1 (zX3_aboutLoaf s2 v3 v4) fun x13 => q_lt (((31 : Int64) * v1) + x13.toInt64) fun x15 => q_lt (v4 + 1) fun x16 => k70 x15 x16)
def zX3_digest_70 (k56 : Int64 → Int32 → Option (Int64)) (s2 : q_S) (v3 : Int32) : Nat → Int64 → Int32 → Option (Int64)
  | 0, _, _ => none
  | n + 1, v1, v4 => jX3_digest_70 k56 s2 v3 (zX3_digest_70 k56 s2 v3 n) v1 v4
theorem zX3_digest_70_s (k56 : Int64 → Int32 → Option (Int64)) (s2 : q_S) (v3 : Int32) (n : Nat) (v1 : Int64) (v4 : Int32) : zX3_digest_70 k56 s2 v3 (n + 1) v1 v4 = jX3_digest_70 k56 s2 v3 (zX3_digest_70 k56 s2 v3 n) v1 v4 := rfl
def jX3_digest_56 (s0 : q_S) (s1 : q_S) (s2 : q_S) (k56 : Int64 → Int32 → Option (Int64)) (v1 : Int64) (v3 : Int32) : Option (Int64) := if (s2 6 0) ≤ v3 then (zX3_digest_105 s0 s1 s2 70000 v1 (0 : Int32)) else (zX3_digest_70 k56 s2 v3 70000 v1 (0 : Int32))
def zX3_digest_56 (s0 : q_S) (s1 : q_S) (s2 : q_S) : Nat → Int64 → Int32 → Option (Int64)
  | 0, _, _ => none
  | n + 1, v1, v3 => jX3_digest_56 s0 s1 s2 (zX3_digest_56 s0 s1 s2 n) v1 v3
theorem zX3_digest_56_s (s0 : q_S) (s1 : q_S) (s2 : q_S) (n : Nat) (v1 : Int64) (v3 : Int32) : zX3_digest_56 s0 s1 s2 (n + 1) v1 v3 = jX3_digest_56 s0 s1 s2 (zX3_digest_56 s0 s1 s2 n) v1 v3 := rfl
def jX3_digest_20 (k6 : Int64 → Int32 → Option (Int64)) (s2 : q_S) (v3 : Int32) (k20 : Int64 → Int32 → Option (Int64)) (v1 : Int64) (v4 : Int32) : Option (Int64) := if (7 : Int32) < v4 then (q_lt (v3 + 1) fun x19 => k6 v1 x19) else (q_b1 (zX3_aboutEater s2 v3 v4) fun x20 => q_lt (((31 : Int64) * v1) + x20.toInt64) fun x22 => q_lt (v4 + 1) fun x23 => k20 x22 x23)
def zX3_digest_20 (k6 : Int64 → Int32 → Option (Int64)) (s2 : q_S) (v3 : Int32) : Nat → Int64 → Int32 → Option (Int64)
  | 0, _, _ => none
  | n + 1, v1, v4 => jX3_digest_20 k6 s2 v3 (zX3_digest_20 k6 s2 v3 n) v1 v4
theorem zX3_digest_20_s (k6 : Int64 → Int32 → Option (Int64)) (s2 : q_S) (v3 : Int32) (n : Nat) (v1 : Int64) (v4 : Int32) : zX3_digest_20 k6 s2 v3 (n + 1) v1 v4 = jX3_digest_20 k6 s2 v3 (zX3_digest_20 k6 s2 v3 n) v1 v4 := rfl
def jX3_digest_6 (s0 : q_S) (s1 : q_S) (s2 : q_S) (k6 : Int64 → Int32 → Option (Int64)) (v1 : Int64) (v3 : Int32) : Option (Int64) := if (s2 0 0) ≤ v3 then (zX3_digest_56 s0 s1 s2 70000 v1 (0 : Int32)) else (zX3_digest_20 k6 s2 v3 70000 v1 (0 : Int32))
def zX3_digest_6 (s0 : q_S) (s1 : q_S) (s2 : q_S) : Nat → Int64 → Int32 → Option (Int64)
  | 0, _, _ => none
  | n + 1, v1, v3 => jX3_digest_6 s0 s1 s2 (zX3_digest_6 s0 s1 s2 n) v1 v3
theorem zX3_digest_6_s (s0 : q_S) (s1 : q_S) (s2 : q_S) (n : Nat) (v1 : Int64) (v3 : Int32) : zX3_digest_6 s0 s1 s2 (n + 1) v1 v3 = jX3_digest_6 s0 s1 s2 (zX3_digest_6 s0 s1 s2 n) v1 v3 := rfl
def zX3_digest (s0 : q_S) (s1 : q_S) (s2 : q_S) : Option (Int64) := zX3_digest_6 s0 s1 s2 70000 (1019 : Int64) (0 : Int32)
set_option maxHeartbeats 4000000 in
set_option maxRecDepth 100000 in
theorem kX3_digest (l : Launch) (E : q_E) (ad : Nat → Nat) (s0 : q_S) (s1 : q_S) (s2 : q_S) (s3 : q_S) (s4 : q_S) (s5 : q_S)  (r : Int64) (h : zX3_digest s0 s1 s2 = some r) : q_RO l E yX3_digest cX3_digest 5 (some .long) 7 [.ref (ad 0)] (q_wX E ad s0 s1 s2 s3 s4 s5) (.long r) := by
  refine q_RO.intro (by decide) (Nat.le_of_ble_eq_true rfl) ?_
  intro p e s m args below meth c X hP ls hl
  obtain ⟨hx, hb, hml, hr, hlk, hown, hB, hE⟩ := X
  have hown : s.vm.findClass RX3 = some m.cls := hown
  have F : q_Fx p s m c E RX3 cX3_digest 5 := ⟨hx, hb, hml, hown, hB, hE⟩
  have hV := q_EV.here hE
  have hl : lv_has ls 5 [(0, .ref (ad 0))] := hl
  have K140 : ∀ (n140_ : Nat), ∀ (v1 : Int64) (v3 : Int32), ∀ ls : Array Slot, lv_has ls 5 [(0, .ref (ad 0)), (1, .long v1), (3, .int v3)] → zX3_digest_140 s0 s1 s2 n140_ v1 v3 = some r → W p l e (q_rm 7) s m args below meth c s.heap [] 0 0 (MQ below (q_roQ (.long r)) args s 0 0 q_no) (F0 m 140 ls []) := by
    intro n140_
    induction n140_ with
    | zero => intro v1 v3 ls hl h; exact q_nn h
    | succ n140_ ih140 =>
      intro v1 v3 ls hl h
      rw [zX3_digest_140_s] at h
      unfold jX3_digest_140 at h
      refine lv_iload_n hx hb dX3_digest_140 rfl (lv_at hl 2 rfl) ?_
      refine lv_bipush (v := 10) hx hb dX3_digest_141 (by decide) ?_
      refine lv_icmp_gt (tgt := 165) hx hb dX3_digest_143 (by decide) (fun c1 => ?_) (fun c1 => ?_)
      · replace h := q_i1 c1 h
        refine lv_lload_n hx hb dX3_digest_165 rfl (lv_at hl 1 rfl) ?_
        exact q_rL F hr hlk dX3_digest_166 h
      · replace h := q_i2 c1 h
        refine lv_ldc2 (v := 31) hx hb hown (hB _ q_kX3_176 _) dX3_digest_146 ?_
        refine lv_lload_n hx hb dX3_digest_149 rfl (lv_at hl 1 rfl) ?_
        refine lv_lmul hx hb dX3_digest_150 ?_
        refine lv_aload_n hx hb dX3_digest_151 rfl (lv_at hl 0 rfl) ?_
        refine lv_iload_n hx hb dX3_digest_152 rfl (lv_at hl 2 rfl) ?_
        obtain ⟨x2, c3, h⟩ := q_o1 h
        refine q_roV F (kX3_count l E ad s0 s1 s2 s3 s4 s5 v3 x2 c3) q_cX3_count q_lX3_181 hV hP ⟨by decide, by decide⟩ (q0 := 0) rfl rfl rfl rfl ⟨_, hl⟩ (rest := [.long ((31 : Int64) * v1)]) rfl (Nat.le_of_ble_eq_true rfl) dX3_digest_153 ?_
        refine lv_i2l hx hb dX3_digest_156 rfl ?_
        refine lv_ladd hx hb dX3_digest_157 ?_
        obtain ⟨x4, ex4, h⟩ := q_ol h
        refine q_topl ex4 ?_
        refine lv_lstore_n (lv' := [(1, .long x4), (0, .ref (ad 0)), (3, .int v3)]) hx hb dX3_digest_158 rfl hl (by decide) rfl (fun ls hl => ?_)
        obtain ⟨x5, ex5, h⟩ := q_ol h
        refine lv_iinc (v := x5) (lv' := [(3, .int x5), (1, .long x4), (0, .ref (ad 0))]) hx hb dX3_digest_159 hl (k := 2) rfl (by rw [ex5]; rfl) (by decide) rfl (fun ls hl => ?_)
        refine lv_goto (tgt := 140) hx hb dX3_digest_162 (by decide) ?_
        exact ih140 x4 x5 ls (lv_sub hl [2, 1, 0] rfl) h
  have K105 : ∀ (n105_ : Nat), ∀ (v1 : Int64) (v3 : Int32), ∀ ls : Array Slot, lv_has ls 5 [(0, .ref (ad 0)), (1, .long v1), (3, .int v3)] → zX3_digest_105 s0 s1 s2 n105_ v1 v3 = some r → W p l e (q_rm 7) s m args below meth c s.heap [] 0 0 (MQ below (q_roQ (.long r)) args s 0 0 q_no) (F0 m 105 ls []) := by
    intro n105_
    induction n105_ with
    | zero => intro v1 v3 ls hl h; exact q_nn h
    | succ n105_ ih105 =>
      intro v1 v3 ls hl h
      rw [zX3_digest_105_s] at h
      unfold jX3_digest_105 at h
      refine lv_iload_n hx hb dX3_digest_105 rfl (lv_at hl 2 rfl) ?_
      refine lv_aload_n hx hb dX3_digest_106 rfl (lv_at hl 0 rfl) ?_
      refine q_get F q_K3 hP 0 rfl 0 (by decide) q_fX3_10 rfl dX3_digest_107 ?_
      refine q_get F q_K0 hP 1 rfl 1 (by decide) q_fX3_40 rfl dX3_digest_110 ?_
      refine lv_icmp_ge (tgt := 138) hx hb dX3_digest_113 (by decide) (fun c6 => ?_) (fun c6 => ?_)
      · replace h := q_i1 c6 h
        refine lv_iconst (v := 0) hx hb dX3_digest_138 (by decide) ?_
        refine lv_istore_n (lv' := [(3, .int (0 : Int32)), (0, .ref (ad 0)), (1, .long v1)]) hx hb dX3_digest_139 rfl hl (by decide) rfl (fun ls hl => ?_)
        exact K140 70000 v1 (0 : Int32) ls (lv_sub hl [1, 2, 0] rfl) h
      · replace h := q_i2 c6 h
        refine lv_ldc2 (v := 31) hx hb hown (hB _ q_kX3_176 _) dX3_digest_116 ?_
        refine lv_lload_n hx hb dX3_digest_119 rfl (lv_at hl 1 rfl) ?_
        refine lv_lmul hx hb dX3_digest_120 ?_
        refine lv_aload_n hx hb dX3_digest_121 rfl (lv_at hl 0 rfl) ?_
        refine q_get F q_K3 hP 0 rfl 0 (by decide) q_fX3_10 rfl dX3_digest_122 ?_
        refine lv_iload_n hx hb dX3_digest_125 rfl (lv_at hl 2 rfl) ?_
        obtain ⟨x7, c8, h⟩ := q_o1 h
        refine q_roV F (kX0_letterAt l E (ad 1) (fun k => ad (2 + k)) s1 v3 x7 c8) q_cX0_letterAt q_lX3_178 hV ((q_s_X_P_1 E ad s0 s1 s2 s3 s4 s5).P hP) ⟨by decide, by decide⟩ (q0 := 0) rfl rfl rfl rfl ⟨_, hl⟩ (rest := [.long ((31 : Int64) * v1)]) rfl (Nat.le_of_ble_eq_true rfl) dX3_digest_126 ?_
        refine lv_i2l hx hb dX3_digest_129 rfl ?_
        refine lv_ladd hx hb dX3_digest_130 ?_
        obtain ⟨x9, ex9, h⟩ := q_ol h
        refine q_topl ex9 ?_
        refine lv_lstore_n (lv' := [(1, .long x9), (0, .ref (ad 0)), (3, .int v3)]) hx hb dX3_digest_131 rfl hl (by decide) rfl (fun ls hl => ?_)
        obtain ⟨x10, ex10, h⟩ := q_ol h
        refine lv_iinc (v := x10) (lv' := [(3, .int x10), (1, .long x9), (0, .ref (ad 0))]) hx hb dX3_digest_132 hl (k := 2) rfl (by rw [ex10]; rfl) (by decide) rfl (fun ls hl => ?_)
        refine lv_goto (tgt := 105) hx hb dX3_digest_135 (by decide) ?_
        exact ih105 x9 x10 ls (lv_sub hl [2, 1, 0] rfl) h
  have K56 : ∀ (n56_ : Nat), ∀ (v1 : Int64) (v3 : Int32), ∀ ls : Array Slot, lv_has ls 5 [(0, .ref (ad 0)), (1, .long v1), (3, .int v3)] → zX3_digest_56 s0 s1 s2 n56_ v1 v3 = some r → W p l e (q_rm 7) s m args below meth c s.heap [] 0 0 (MQ below (q_roQ (.long r)) args s 0 0 q_no) (F0 m 56 ls []) := by
    intro n56_
    induction n56_ with
    | zero => intro v1 v3 ls hl h; exact q_nn h
    | succ n56_ ih56 =>
      have K70 : ∀ (n70_ : Nat), ∀ (v1 : Int64) (v3 : Int32) (v4 : Int32), ∀ ls : Array Slot, lv_has ls 5 [(0, .ref (ad 0)), (1, .long v1), (3, .int v3), (4, .int v4)] → zX3_digest_70 (zX3_digest_56 s0 s1 s2 n56_) s2 v3 n70_ v1 v4 = some r → W p l e (q_rm 7) s m args below meth c s.heap [] 0 0 (MQ below (q_roQ (.long r)) args s 0 0 q_no) (F0 m 70 ls []) := by
        intro n70_
        induction n70_ with
        | zero => intro v1 v3 v4 ls hl h; exact q_nn h
        | succ n70_ ih70 =>
          intro v1 v3 v4 ls hl h
          rw [zX3_digest_70_s] at h
          unfold jX3_digest_70 at h
          refine lv_iload hx hb dX3_digest_70 (lv_at hl 3 rfl) ?_
          refine lv_iconst (v := 4) hx hb dX3_digest_72 (by decide) ?_
          refine lv_icmp_gt (tgt := 97) hx hb dX3_digest_73 (by decide) (fun c11 => ?_) (fun c11 => ?_)
          · replace h := q_i1 c11 h
            obtain ⟨x12, ex12, h⟩ := q_ol h
            refine lv_iinc (v := x12) (lv' := [(3, .int x12), (0, .ref (ad 0)), (1, .long v1), (4, .int v4)]) hx hb dX3_digest_97 hl (k := 2) rfl (by rw [ex12]; rfl) (by decide) rfl (fun ls hl => ?_)
            refine lv_goto (tgt := 56) hx hb dX3_digest_100 (by decide) ?_
            exact ih56 v1 x12 ls (lv_sub hl [1, 2, 0] rfl) h
          · replace h := q_i2 c11 h
            refine lv_ldc2 (v := 31) hx hb hown (hB _ q_kX3_176 _) dX3_digest_76 ?_
            refine lv_lload_n hx hb dX3_digest_79 rfl (lv_at hl 1 rfl) ?_
            refine lv_lmul hx hb dX3_digest_80 ?_
            refine lv_aload_n hx hb dX3_digest_81 rfl (lv_at hl 0 rfl) ?_
            refine lv_iload_n hx hb dX3_digest_82 rfl (lv_at hl 2 rfl) ?_
            refine lv_iload hx hb dX3_digest_83 (lv_at hl 3 rfl) ?_
            obtain ⟨x13, c14, h⟩ := q_o1 h
            refine q_roV F (kX3_aboutLoaf l E ad s0 s1 s2 s3 s4 s5 v3 v4 x13 c14) q_cX3_aboutLoaf q_lX3_84 hV hP ⟨by decide, by decide⟩ (q0 := 0) rfl rfl rfl rfl ⟨_, hl⟩ (rest := [.long ((31 : Int64) * v1)]) rfl (Nat.le_of_ble_eq_true rfl) dX3_digest_85 ?_
            refine lv_i2l hx hb dX3_digest_88 rfl ?_
            refine lv_ladd hx hb dX3_digest_89 ?_
            obtain ⟨x15, ex15, h⟩ := q_ol h
            refine q_topl ex15 ?_
            refine lv_lstore_n (lv' := [(1, .long x15), (0, .ref (ad 0)), (3, .int v3), (4, .int v4)]) hx hb dX3_digest_90 rfl hl (by decide) rfl (fun ls hl => ?_)
            obtain ⟨x16, ex16, h⟩ := q_ol h
            refine lv_iinc (v := x16) (lv' := [(4, .int x16), (1, .long x15), (0, .ref (ad 0)), (3, .int v3)]) hx hb dX3_digest_91 hl (k := 3) rfl (by rw [ex16]; rfl) (by decide) rfl (fun ls hl => ?_)
            refine lv_goto (tgt := 70) hx hb dX3_digest_94 (by decide) ?_
            exact ih70 x15 v3 x16 ls (lv_sub hl [2, 1, 3, 0] rfl) h
      intro v1 v3 ls hl h
      rw [zX3_digest_56_s] at h
      unfold jX3_digest_56 at h
      refine lv_iload_n hx hb dX3_digest_56 rfl (lv_at hl 2 rfl) ?_
      refine lv_aload_n hx hb dX3_digest_57 rfl (lv_at hl 0 rfl) ?_
      refine q_get F q_K3 hP 0 rfl 1 (by decide) q_fX3_19 rfl dX3_digest_58 ?_
      refine q_get F q_K2 hP 3 rfl 6 (by decide) q_fX3_63 rfl dX3_digest_61 ?_
      refine lv_icmp_ge (tgt := 103) hx hb dX3_digest_64 (by decide) (fun c17 => ?_) (fun c17 => ?_)
      · replace h := q_i1 c17 h
        refine lv_iconst (v := 0) hx hb dX3_digest_103 (by decide) ?_
        refine lv_istore_n (lv' := [(3, .int (0 : Int32)), (0, .ref (ad 0)), (1, .long v1)]) hx hb dX3_digest_104 rfl hl (by decide) rfl (fun ls hl => ?_)
        exact K105 70000 v1 (0 : Int32) ls (lv_sub hl [1, 2, 0] rfl) h
      · replace h := q_i2 c17 h
        refine lv_iconst (v := 0) hx hb dX3_digest_67 (by decide) ?_
        refine lv_istore (lv' := [(4, .int (0 : Int32)), (0, .ref (ad 0)), (1, .long v1), (3, .int v3)]) hx hb dX3_digest_68 hl (by decide) rfl (fun ls hl => ?_)
        exact K70 70000 v1 v3 (0 : Int32) ls (lv_sub hl [1, 2, 3, 0] rfl) h
  have K6 : ∀ (n6_ : Nat), ∀ (v1 : Int64) (v3 : Int32), ∀ ls : Array Slot, lv_has ls 5 [(0, .ref (ad 0)), (1, .long v1), (3, .int v3)] → zX3_digest_6 s0 s1 s2 n6_ v1 v3 = some r → W p l e (q_rm 7) s m args below meth c s.heap [] 0 0 (MQ below (q_roQ (.long r)) args s 0 0 q_no) (F0 m 6 ls []) := by
    intro n6_
    induction n6_ with
    | zero => intro v1 v3 ls hl h; exact q_nn h
    | succ n6_ ih6 =>
      have K20 : ∀ (n20_ : Nat), ∀ (v1 : Int64) (v3 : Int32) (v4 : Int32), ∀ ls : Array Slot, lv_has ls 5 [(0, .ref (ad 0)), (1, .long v1), (3, .int v3), (4, .int v4)] → zX3_digest_20 (zX3_digest_6 s0 s1 s2 n6_) s2 v3 n20_ v1 v4 = some r → W p l e (q_rm 7) s m args below meth c s.heap [] 0 0 (MQ below (q_roQ (.long r)) args s 0 0 q_no) (F0 m 20 ls []) := by
        intro n20_
        induction n20_ with
        | zero => intro v1 v3 v4 ls hl h; exact q_nn h
        | succ n20_ ih20 =>
          intro v1 v3 v4 ls hl h
          rw [zX3_digest_20_s] at h
          unfold jX3_digest_20 at h
          refine lv_iload hx hb dX3_digest_20 (lv_at hl 3 rfl) ?_
          refine lv_bipush (v := 7) hx hb dX3_digest_22 (by decide) ?_
          refine lv_icmp_gt (tgt := 48) hx hb dX3_digest_24 (by decide) (fun c18 => ?_) (fun c18 => ?_)
          · replace h := q_i1 c18 h
            obtain ⟨x19, ex19, h⟩ := q_ol h
            refine lv_iinc (v := x19) (lv' := [(3, .int x19), (0, .ref (ad 0)), (1, .long v1), (4, .int v4)]) hx hb dX3_digest_48 hl (k := 2) rfl (by rw [ex19]; rfl) (by decide) rfl (fun ls hl => ?_)
            refine lv_goto (tgt := 6) hx hb dX3_digest_51 (by decide) ?_
            exact ih6 v1 x19 ls (lv_sub hl [1, 2, 0] rfl) h
          · replace h := q_i2 c18 h
            refine lv_ldc2 (v := 31) hx hb hown (hB _ q_kX3_176 _) dX3_digest_27 ?_
            refine lv_lload_n hx hb dX3_digest_30 rfl (lv_at hl 1 rfl) ?_
            refine lv_lmul hx hb dX3_digest_31 ?_
            refine lv_aload_n hx hb dX3_digest_32 rfl (lv_at hl 0 rfl) ?_
            refine lv_iload_n hx hb dX3_digest_33 rfl (lv_at hl 2 rfl) ?_
            refine lv_iload hx hb dX3_digest_34 (lv_at hl 3 rfl) ?_
            obtain ⟨x20, c21, h⟩ := q_o1 h
            refine q_roV F (kX3_aboutEater l E ad s0 s1 s2 s3 s4 s5 v3 v4 x20 c21) q_cX3_aboutEater q_lX3_69 hV hP ⟨by decide, by decide⟩ (q0 := 0) rfl rfl rfl rfl ⟨_, hl⟩ (rest := [.long ((31 : Int64) * v1)]) rfl (Nat.le_of_ble_eq_true rfl) dX3_digest_36 ?_
            refine lv_i2l hx hb dX3_digest_39 rfl ?_
            refine lv_ladd hx hb dX3_digest_40 ?_
            obtain ⟨x22, ex22, h⟩ := q_ol h
            refine q_topl ex22 ?_
            refine lv_lstore_n (lv' := [(1, .long x22), (0, .ref (ad 0)), (3, .int v3), (4, .int v4)]) hx hb dX3_digest_41 rfl hl (by decide) rfl (fun ls hl => ?_)
            obtain ⟨x23, ex23, h⟩ := q_ol h
            refine lv_iinc (v := x23) (lv' := [(4, .int x23), (1, .long x22), (0, .ref (ad 0)), (3, .int v3)]) hx hb dX3_digest_42 hl (k := 3) rfl (by rw [ex23]; rfl) (by decide) rfl (fun ls hl => ?_)
            refine lv_goto (tgt := 20) hx hb dX3_digest_45 (by decide) ?_
            exact ih20 x22 v3 x23 ls (lv_sub hl [2, 1, 3, 0] rfl) h
      intro v1 v3 ls hl h
      rw [zX3_digest_6_s] at h
      unfold jX3_digest_6 at h
      refine lv_iload_n hx hb dX3_digest_6 rfl (lv_at hl 2 rfl) ?_
      refine lv_aload_n hx hb dX3_digest_7 rfl (lv_at hl 0 rfl) ?_
      refine q_get F q_K3 hP 0 rfl 1 (by decide) q_fX3_19 rfl dX3_digest_8 ?_
      refine q_get F q_K2 hP 3 rfl 0 (by decide) q_fX3_162 rfl dX3_digest_11 ?_
      refine lv_icmp_ge (tgt := 54) hx hb dX3_digest_14 (by decide) (fun c24 => ?_) (fun c24 => ?_)
      · replace h := q_i1 c24 h
        refine lv_iconst (v := 0) hx hb dX3_digest_54 (by decide) ?_
        refine lv_istore_n (lv' := [(3, .int (0 : Int32)), (0, .ref (ad 0)), (1, .long v1)]) hx hb dX3_digest_55 rfl hl (by decide) rfl (fun ls hl => ?_)
        exact K56 70000 v1 (0 : Int32) ls (lv_sub hl [1, 2, 0] rfl) h
      · replace h := q_i2 c24 h
        refine lv_iconst (v := 0) hx hb dX3_digest_17 (by decide) ?_
        refine lv_istore (lv' := [(4, .int (0 : Int32)), (0, .ref (ad 0)), (1, .long v1), (3, .int v3)]) hx hb dX3_digest_18 hl (by decide) rfl (fun ls hl => ?_)
        exact K20 70000 v1 v3 (0 : Int32) ls (lv_sub hl [1, 2, 3, 0] rfl) h
  unfold zX3_digest at h
  refine lv_ldc2 (v := 1019) hx hb hown (hB _ q_kX3_174 _) dX3_digest_0 ?_
  refine lv_lstore_n (lv' := [(1, .long (1019 : Int64)), (0, .ref (ad 0))]) hx hb dX3_digest_3 rfl hl (by decide) rfl (fun ls hl => ?_)
  refine lv_iconst (v := 0) hx hb dX3_digest_4 (by decide) ?_
  refine lv_istore_n (lv' := [(3, .int (0 : Int32)), (1, .long (1019 : Int64)), (0, .ref (ad 0))]) hx hb dX3_digest_5 rfl hl (by decide) rfl (fun ls hl => ?_)
  exact K6 70000 (1019 : Int64) (0 : Int32) ls (lv_sub hl [2, 1, 0] rfl) h
