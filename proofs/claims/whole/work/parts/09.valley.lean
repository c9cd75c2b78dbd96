def zX2_isRead (s0 : q_S) : Option (Int32) := if (s0 0 0) ≤ 0 then (some (0 : Int32)) else (some (1 : Int32))
set_option maxHeartbeats 4000000 in
set_option maxRecDepth 100000 in
theorem kX2_isRead (l : Launch) (E : q_E) (h0 : Nat) (a0 : Nat → Nat) (s0 : q_S)  (r : Int32) (h : zX2_isRead s0 = some r) : q_RO l E yX2_isRead cX2_isRead 1 (some .boolean) 1 [.ref h0] (q_cV E h0 a0 s0) (.int r) := by
  refine q_RO.intro (by decide) (Nat.le_of_ble_eq_true rfl) ?_
  intro p e s m args below meth c X hP ls hl
  obtain ⟨hx, hb, hml, hr, hlk, hown, hB, hE⟩ := X
  have hown : s.vm.findClass RX2 = some m.cls := hown
  have F : q_Fx p s m c E RX2 cX2_isRead 1 := ⟨hx, hb, hml, hown, hB, hE⟩
  have hV := q_EV.here hE
  have hl : lv_has ls 1 [(0, .ref h0)] := hl
  unfold zX2_isRead at h
  refine lv_aload_n hx hb dX2_isRead_0 rfl (lv_at hl 0 rfl) ?_
  refine q_get F q_K2 hP 0 rfl 0 (by decide) q_fX2_36 rfl dX2_isRead_1 ?_
  refine lv_if_le (tgt := 11) hx hb dX2_isRead_4 (by decide) (fun c1 => ?_) (fun c1 => ?_)
  · replace h := q_i1 c1 h
    refine lv_iconst (v := 0) hx hb dX2_isRead_11 (by decide) ?_
    exact q_rZ F hr hlk (by decide) dX2_isRead_12 h
  · replace h := q_i2 c1 h
    refine lv_iconst (v := 1) hx hb dX2_isRead_7 (by decide) ?_
    refine lv_goto (tgt := 12) hx hb dX2_isRead_8 (by decide) ?_
    exact q_rZ F hr hlk (by decide) dX2_isRead_12 h
def zX2_isEater (s0 : q_S) (v1 : Int32) : Option (Int32) := if v1 < 0 then (some (0 : Int32)) else (if (s0 0 0) ≤ v1 then (some (0 : Int32)) else (if (4 : Int32) ≤ v1 then (some (0 : Int32)) else (some (1 : Int32))))
set_option maxHeartbeats 4000000 in
set_option maxRecDepth 100000 in
theorem kX2_isEater (l : Launch) (E : q_E) (h0 : Nat) (a0 : Nat → Nat) (s0 : q_S) (v1 : Int32) (r : Int32) (h : zX2_isEater s0 v1 = some r) : q_RO l E yX2_isEater cX2_isEater 2 (some .boolean) 1 [.ref h0, .int v1] (q_cV E h0 a0 s0) (.int r) := by
  refine q_RO.intro (by decide) (Nat.le_of_ble_eq_true rfl) ?_
  intro p e s m args below meth c X hP ls hl
  obtain ⟨hx, hb, hml, hr, hlk, hown, hB, hE⟩ := X
  have hown : s.vm.findClass RX2 = some m.cls := hown
  have F : q_Fx p s m c E RX2 cX2_isEater 2 := ⟨hx, hb, hml, hown, hB, hE⟩
  have hV := q_EV.here hE
  have hl : lv_has ls 2 [(0, .ref h0), (1, .int v1)] := hl
  unfold zX2_isEater at h
  refine lv_iload_n hx hb dX2_isEater_0 rfl (lv_at hl 1 rfl) ?_
  refine lv_if_lt (tgt := 21) hx hb dX2_isEater_1 (by decide) (fun c1 => ?_) (fun c1 => ?_)
  · replace h := q_i1 c1 h
    refine lv_iconst (v := 0) hx hb dX2_isEater_21 (by decide) ?_
    exact q_rZ F hr hlk (by decide) dX2_isEater_22 h
  · replace h := q_i2 c1 h
    refine lv_iload_n hx hb dX2_isEater_4 rfl (lv_at hl 1 rfl) ?_
    refine lv_aload_n hx hb dX2_isEater_5 rfl (lv_at hl 0 rfl) ?_
    refine q_get F q_K2 hP 0 rfl 0 (by decide) q_fX2_36 rfl dX2_isEater_6 ?_
    refine lv_icmp_ge (tgt := 21) hx hb dX2_isEater_9 (by decide) (fun c2 => ?_) (fun c2 => ?_)
    · replace h := q_i1 c2 h
      refine lv_iconst (v := 0) hx hb dX2_isEater_21 (by decide) ?_
      exact q_rZ F hr hlk (by decide) dX2_isEater_22 h
    · replace h := q_i2 c2 h
      refine lv_iload_n hx hb dX2_isEater_12 rfl (lv_at hl 1 rfl) ?_
      refine lv_iconst (v := 4) hx hb dX2_isEater_13 (by decide) ?_
      refine lv_icmp_ge (tgt := 21) hx hb dX2_isEater_14 (by decide) (fun c3 => ?_) (fun c3 => ?_)
      · replace h := q_i1 c3 h
        refine lv_iconst (v := 0) hx hb dX2_isEater_21 (by decide) ?_
        exact q_rZ F hr hlk (by decide) dX2_isEater_22 h
      · replace h := q_i2 c3 h
        refine lv_iconst (v := 1) hx hb dX2_isEater_17 (by decide) ?_
        refine lv_goto (tgt := 22) hx hb dX2_isEater_18 (by decide) ?_
        exact q_rZ F hr hlk (by decide) dX2_isEater_22 h
def zX2_isLoaf (s0 : q_S) (v1 : Int32) : Option (Int32) := if v1 < 0 then (some (0 : Int32)) else (if (s0 6 0) ≤ v1 then (some (0 : Int32)) else (if (8 : Int32) ≤ v1 then (some (0 : Int32)) else (some (1 : Int32))))
set_option maxHeartbeats 4000000 in
set_option maxRecDepth 100000 in
theorem kX2_isLoaf (l : Launch) (E : q_E) (h0 : Nat) (a0 : Nat → Nat) (s0 : q_S) (v1 : Int32) (r : Int32) (h : zX2_isLoaf s0 v1 = some r) : q_RO l E yX2_isLoaf cX2_isLoaf 2 (some .boolean) 1 [.ref h0, .int v1] (q_cV E h0 a0 s0) (.int r) := by
  refine q_RO.intro (by decide) (Nat.le_of_ble_eq_true rfl) ?_
  intro p e s m args below meth c X hP ls hl
  obtain ⟨hx, hb, hml, hr, hlk, hown, hB, hE⟩ := X
  have hown : s.vm.findClass RX2 = some m.cls := hown
  have F : q_Fx p s m c E RX2 cX2_isLoaf 2 := ⟨hx, hb, hml, hown, hB, hE⟩
  have hV := q_EV.here hE
  have hl : lv_has ls 2 [(0, .ref h0), (1, .int v1)] := hl
  unfold zX2_isLoaf at h
  refine lv_iload_n hx hb dX2_isLoaf_0 rfl (lv_at hl 1 rfl) ?_
  refine lv_if_lt (tgt := 22) hx hb dX2_isLoaf_1 (by decide) (fun c1 => ?_) (fun c1 => ?_)
  · replace h := q_i1 c1 h
    refine lv_iconst (v := 0) hx hb dX2_isLoaf_22 (by decide) ?_
    exact q_rZ F hr hlk (by decide) dX2_isLoaf_23 h
  · replace h := q_i2 c1 h
    refine lv_iload_n hx hb dX2_isLoaf_4 rfl (lv_at hl 1 rfl) ?_
    refine lv_aload_n hx hb dX2_isLoaf_5 rfl (lv_at hl 0 rfl) ?_
    refine q_get F q_K2 hP 0 rfl 6 (by decide) q_fX2_40 rfl dX2_isLoaf_6 ?_
    refine lv_icmp_ge (tgt := 22) hx hb dX2_isLoaf_9 (by decide) (fun c2 => ?_) (fun c2 => ?_)
    · replace h := q_i1 c2 h
      refine lv_iconst (v := 0) hx hb dX2_isLoaf_22 (by decide) ?_
      exact q_rZ F hr hlk (by decide) dX2_isLoaf_23 h
    · replace h := q_i2 c2 h
      refine lv_iload_n hx hb dX2_isLoaf_12 rfl (lv_at hl 1 rfl) ?_
      refine lv_bipush (v := 8) hx hb dX2_isLoaf_13 (by decide) ?_
      refine lv_icmp_ge (tgt := 22) hx hb dX2_isLoaf_15 (by decide) (fun c3 => ?_) (fun c3 => ?_)
      · replace h := q_i1 c3 h
        refine lv_iconst (v := 0) hx hb dX2_isLoaf_22 (by decide) ?_
        exact q_rZ F hr hlk (by decide) dX2_isLoaf_23 h
      · replace h := q_i2 c3 h
        refine lv_iconst (v := 1) hx hb dX2_isLoaf_18 (by decide) ?_
        refine lv_goto (tgt := 23) hx hb dX2_isLoaf_19 (by decide) ?_
        exact q_rZ F hr hlk (by decide) dX2_isLoaf_23 h
def zX2_isAlive (s0 : q_S) (v1 : Int32) : Option (Int32) := q_b1 (zX3_hasBit (s0 1 0) v1) fun x1 => q_gd (q_is x1) (some x1)
set_option maxHeartbeats 4000000 in
set_option maxRecDepth 100000 in
theorem kX2_isAlive (l : Launch) (E : q_E) (h0 : Nat) (a0 : Nat → Nat) (s0 : q_S) (v1 : Int32) (r : Int32) (h : zX2_isAlive s0 v1 = some r) : q_RO l E yX2_isAlive cX2_isAlive 2 (some .boolean) 2 [.ref h0, .int v1] (q_cV E h0 a0 s0) (.int r) := by
  refine q_RO.intro (by decide) (Nat.le_of_ble_eq_true rfl) ?_
  intro p e s m args below meth c X hP ls hl
  obtain ⟨hx, hb, hml, hr, hlk, hown, hB, hE⟩ := X
  have hown : s.vm.findClass RX2 = some m.cls := hown
  have F : q_Fx p s m c E RX2 cX2_isAlive 2 := ⟨hx, hb, hml, hown, hB, hE⟩
  have hV := q_EV.here hE
  have hl : lv_has ls 2 [(0, .ref h0), (1, .int v1)] := hl
  unfold zX2_isAlive at h
  refine lv_aload_n hx hb dX2_isAlive_0 rfl (lv_at hl 0 rfl) ?_
  refine q_get F q_K2 hP 0 rfl 1 (by decide) q_fX2_43 rfl dX2_isAlive_1 ?_
  refine lv_iload_n hx hb dX2_isAlive_4 rfl (lv_at hl 1 rfl) ?_
  obtain ⟨x1, c2, h⟩ := q_o1 h
  refine q_roS F (kX3_hasBit l E  (s0 1 0) v1 x1 c2) q_cX3_hasBit q_lX2_46 hV (fun k q h => by simp at h) ⟨by decide, by decide⟩ rfl ⟨_, hl⟩ (rest := []) rfl (Nat.le_of_ble_eq_true rfl) dX2_isAlive_5 ?_
  obtain ⟨eg3, h⟩ := q_og h
  exact q_rZ F hr hlk (q_is_in eg3) dX2_isAlive_8 h
def zX2_wasEaten (s0 : q_S) (v1 : Int32) : Option (Int32) := q_b1 (zX3_hasBit (s0 7 0) v1) fun x1 => q_gd (q_is x1) (some x1)
set_option maxHeartbeats 4000000 in
set_option maxRecDepth 100000 in
theorem kX2_wasEaten (l : Launch) (E : q_E) (h0 : Nat) (a0 : Nat → Nat) (s0 : q_S) (v1 : Int32) (r : Int32) (h : zX2_wasEaten s0 v1 = some r) : q_RO l E yX2_wasEaten cX2_wasEaten 2 (some .boolean) 2 [.ref h0, .int v1] (q_cV E h0 a0 s0) (.int r) := by
  refine q_RO.intro (by decide) (Nat.le_of_ble_eq_true rfl) ?_
  intro p e s m args below meth c X hP ls hl
  obtain ⟨hx, hb, hml, hr, hlk, hown, hB, hE⟩ := X
  have hown : s.vm.findClass RX2 = some m.cls := hown
  have F : q_Fx p s m c E RX2 cX2_wasEaten 2 := ⟨hx, hb, hml, hown, hB, hE⟩
  have hV := q_EV.here hE
  have hl : lv_has ls 2 [(0, .ref h0), (1, .int v1)] := hl
  unfold zX2_wasEaten at h
  refine lv_aload_n hx hb dX2_wasEaten_0 rfl (lv_at hl 0 rfl) ?_
  refine q_get F q_K2 hP 0 rfl 7 (by decide) q_fX2_50 rfl dX2_wasEaten_1 ?_
  refine lv_iload_n hx hb dX2_wasEaten_4 rfl (lv_at hl 1 rfl) ?_
  obtain ⟨x1, c2, h⟩ := q_o1 h
  refine q_roS F (kX3_hasBit l E  (s0 7 0) v1 x1 c2) q_cX3_hasBit q_lX2_46 hV (fun k q h => by simp at h) ⟨by decide, by decide⟩ rfl ⟨_, hl⟩ (rest := []) rfl (Nat.le_of_ble_eq_true rfl) dX2_wasEaten_5 ?_
  obtain ⟨eg3, h⟩ := q_og h
  exact q_rZ F hr hlk (q_is_in eg3) dX2_wasEaten_8 h
def zX2_readFrom_203 (k157 : q_S → Int32 → Option (q_S)) (s0 : q_S) (s1 : q_S) (v2 : Int32) (v3 : Int32) (v4 : Int32) (t1 : Int32) (t2 : Int32) : Option (q_S) := q_gd (q_ib t1 8) (q_lt (q_u s0 8 t1.toNatClampNeg t2) fun y2 => if v4 = 0 then (q_gd (q_ib v3 8) (q_lt (q_u y2 9 v3.toNatClampNeg (0 : Int32)) fun y5 => q_lt (v3 + 1) fun x6 => k157 y5 x6)) else (q_b1 (zX0_digitAt s1 ((v2 + (2 : Int32)) + ((2 : Int32) * v3))) fun x7 => q_gd (q_ib v3 8) (q_lt (q_u y2 9 v3.toNatClampNeg x7) fun y10 => q_lt (v3 + 1) fun x11 => k157 y10 x11)))
def zX2_readFrom_176 (k157 : q_S → Int32 → Option (q_S)) (s0 : q_S) (s1 : q_S) (v2 : Int32) (v3 : Int32) (t0 : Int32) : Option (q_S) := if t0 = 0 then (zX2_readFrom_203 k157 s0 s1 v2 v3 t0 v3 (0 : Int32)) else (q_b1 (zX0_digitAt s1 ((v2 + (1 : Int32)) + ((2 : Int32) * v3))) fun x13 => zX2_readFrom_203 k157 s0 s1 v2 v3 t0 v3 x13)
def jX2_readFrom_157 (s1 : q_S) (v2 : Int32) (k157 : q_S → Int32 → Option (q_S)) (s0 : q_S) (v3 : Int32) : Option (q_S) := if (8 : Int32) ≤ v3 then (some s0) else (if (s0 6 0) ≤ v3 then (zX2_readFrom_176 k157 s0 s1 v2 v3 (0 : Int32)) else (zX2_readFrom_176 k157 s0 s1 v2 v3 (1 : Int32)))
def zX2_readFrom_157 (s1 : q_S) (v2 : Int32) : Nat → q_S → Int32 → Option (q_S)
  | 0, _, _ => none
  | n + 1, s0, v3 => jX2_readFrom_157 s1 v2 (zX2_readFrom_157 s1 v2 n) s0 v3
theorem zX2_readFrom_157_s (s1 : q_S) (v2 : Int32) (n : Nat) (s0 : q_S) (v3 : Int32) : zX2_readFrom_157 s1 v2 (n + 1) s0 v3 = jX2_readFrom_157 s1 v2 (zX2_readFrom_157 s1 v2 n) s0 v3 := rfl
def zX2_readFrom_134 (k66 : q_S → Int32 → Option (q_S)) (s0 : q_S) (v3 : Int32) (t1 : Int32) (t2 : Int32) : Option (q_S) := q_gd (q_ib t1 4) (q_lt (q_u s0 3 t1.toNatClampNeg t2) fun y18 => q_gd (q_ib v3 4) (q_lt (q_u y18 4 v3.toNatClampNeg (0 : Int32)) fun y20 => q_gd (q_ib v3 4) (q_lt (q_u y20 5 v3.toNatClampNeg (0 : Int32)) fun y22 => q_lt (v3 + 1) fun x23 => k66 y22 x23)))
def zX2_readFrom_110 (k66 : q_S → Int32 → Option (q_S)) (s0 : q_S) (s1 : q_S) (v3 : Int32) (v4 : Int32) (t1 : Int32) (t2 : Int32) : Option (q_S) := q_gd (q_ib t1 4) (q_lt (q_u s0 2 t1.toNatClampNeg t2) fun y25 => if v4 = 0 then (zX2_readFrom_134 k66 y25 v3 v3 (0 : Int32)) else (q_b1 (zX0_digitAt s1 (((3 : Int32) * v3) + (1 : Int32))) fun x27 => zX2_readFrom_134 k66 y25 v3 v3 x27))
def zX2_readFrom_84 (k66 : q_S → Int32 → Option (q_S)) (s0 : q_S) (s1 : q_S) (v3 : Int32) (t0 : Int32) : Option (q_S) := if t0 = 0 then (zX2_readFrom_110 k66 s0 s1 v3 t0 v3 (0 : Int32)) else (q_b1 (zX0_letterAt s1 ((3 : Int32) * v3)) fun x30 => q_b1 (zX3_kindOf x30) fun x32 => zX2_readFrom_110 k66 s0 s1 v3 t0 v3 x32)
def jX2_readFrom_66 (s1 : q_S) (v2 : Int32) (k66 : q_S → Int32 → Option (q_S)) (s0 : q_S) (v3 : Int32) : Option (q_S) := if (4 : Int32) ≤ v3 then (zX2_readFrom_157 s1 v2 70000 s0 (0 : Int32)) else (if (s0 0 0) ≤ v3 then (zX2_readFrom_84 k66 s0 s1 v3 (0 : Int32)) else (zX2_readFrom_84 k66 s0 s1 v3 (1 : Int32)))
def zX2_readFrom_66 (s1 : q_S) (v2 : Int32) : Nat → q_S → Int32 → Option (q_S)
  | 0, _, _ => none
  | n + 1, s0, v3 => jX2_readFrom_66 s1 v2 (zX2_readFrom_66 s1 v2 n) s0 v3
theorem zX2_readFrom_66_s (s1 : q_S) (v2 : Int32) (n : Nat) (s0 : q_S) (v3 : Int32) : zX2_readFrom_66 s1 v2 (n + 1) s0 v3 = jX2_readFrom_66 s1 v2 (zX2_readFrom_66 s1 v2 n) s0 v3 := rfl
def zX2_readFrom (s0 : q_S) (s1 : q_S) : Option (q_S) := q_b1 (zX0_eatersEnd s1) fun x36 => q_lt (q_u s0 0 0 (if (4 : Int32) < ((x36 + (1 : Int32)) / (3 : Int32)) then (4 : Int32) else ((x36 + (1 : Int32)) / (3 : Int32)))) fun y38 => q_lt (q_u y38 6 0 (if (8 : Int32) < ((((s1 1 0) - (1 : Int32)) - x36) / (2 : Int32)) then (8 : Int32) else ((((s1 1 0) - (1 : Int32)) - x36) / (2 : Int32)))) fun y39 => q_lt (q_u y39 1 0 (((1 : Int32) <<< ((y39 0 0) &&& 31)) - (1 : Int32))) fun y40 => q_lt (q_u y40 7 0 (0 : Int32)) fun y41 => q_lt (q_u y41 10 0 (0 : Int32)) fun y42 => q_lt (q_u y42 11 0 (0 : Int32)) fun y43 => zX2_readFrom_66 s1 x36 70000 y43 (0 : Int32)
set_option maxHeartbeats 4000000 in
set_option maxRecDepth 100000 in
theorem kX2_readFrom (l : Launch) (E : q_E) (h0 : Nat) (a0 : Nat → Nat) (h1 : Nat) (a1 : Nat → Nat) (s0 : q_S) (s1 : q_S)  (sz : Nat) (rs0 : q_S) (h : zX2_readFrom s0 s1 = some rs0) : q_MU l E yX2_readFrom cX2_readFrom 5 none 9 [.ref h0, .ref h1] sz ((q_cV E h0 a0 s0) ++ (q_cP E h1 a1 s1)) ((q_cV E h0 a0 rs0) ++ (q_cP E h1 a1 s1)) none := by
  refine q_MU.intro (by decide) (Nat.le_of_ble_eq_true rfl) ?_
  intro p e s m args below meth c A X hP hD hA hAl ls hl
  obtain ⟨hx, hb, hml, hr, hlk, hown, hB, hE⟩ := X
  have hown : s.vm.findClass RX2 = some m.cls := hown
  have F : q_Fx p s m c E RX2 cX2_readFrom 5 := ⟨hx, hb, hml, hown, hB, hE⟩
  have hS : va_S A s.heap s.heap [] := va_S.rf
  have hl : lv_has ls 5 [(0, .ref h0), (1, .ref h1)] := hl
  have K157 : ∀ (n157_ : Nat), ∀ (v2 : Int32) (v3 : Int32) (s0 : q_S), ∀ (H : Heap) (locs : List Loc), va_P (q_D E) vwCl ((q_cV E h0 a0 s0) ++ (q_cP E h1 a1 s1)) H → va_D A ((q_cV E h0 a0 s0) ++ (q_cP E h1 a1 s1)) → va_S A s.heap H locs → ∀ ls : Array Slot, lv_has ls 5 [(0, .ref h0), (1, .ref h1), (2, .int v2), (3, .int v3)] → zX2_readFrom_157 s1 v2 n157_ s0 v3 = some rs0 → W p l e (q_rm 9) s m args below meth c H locs 0 0 (MQ below (q_muQ E A ((q_cV E h0 a0 rs0) ++ (q_cP E h1 a1 s1)) none) args s 0 0 A) (F0 m 157 ls []) := by
    intro n157_
    induction n157_ with
    | zero => intro v2 v3 s0 H locs hP hD hS ls hl h; exact q_nn h
    | succ n157_ ih157 =>
      have K203 : ∀ (v2 : Int32) (v3 : Int32) (v4 : Int32) (t1 : Int32) (t2 : Int32) (s0 : q_S), ∀ (H : Heap) (locs : List Loc), va_P (q_D E) vwCl ((q_cV E h0 a0 s0) ++ (q_cP E h1 a1 s1)) H → va_D A ((q_cV E h0 a0 s0) ++ (q_cP E h1 a1 s1)) → va_S A s.heap H locs → ∀ ls : Array Slot, lv_has ls 5 [(0, .ref h0), (1, .ref h1), (2, .int v2), (3, .int v3), (4, .int v4)] → zX2_readFrom_203 (zX2_readFrom_157 s1 v2 n157_) s0 s1 v2 v3 v4 t1 t2 = some rs0 → W p l e (q_rm 9) s m args below meth c H locs 0 0 (MQ below (q_muQ E A ((q_cV E h0 a0 rs0) ++ (q_cP E h1 a1 s1)) none) args s 0 0 A) (F0 m 203 ls [.int t2, .int t1, .ref (a0 8)]) := by
        intro v2 v3 v4 t1 t2 s0 H locs hP hD hS ls hl h
        unfold zX2_readFrom_203 at h
        obtain ⟨eg1, h⟩ := q_og h
        obtain ⟨y2, ey2, h⟩ := q_ol h
        refine q_iast F hP hD hS 5 rfl eg1 (by rw [ey2]; rfl) dX2_readFrom_203 (fun H locs (hP : va_P (q_D E) vwCl ((q_cV E h0 a0 y2) ++ (q_cP E h1 a1 s1)) H) hD hS => ?_)
        refine lv_aload_n hx hb dX2_readFrom_204 rfl (lv_at hl 0 rfl) ?_
        refine q_get F q_K2 hP 0 rfl 9 (by decide) q_fX2_27 rfl dX2_readFrom_205 ?_
        refine lv_iload_n hx hb dX2_readFrom_208 rfl (lv_at hl 3 rfl) ?_
        refine lv_iload hx hb dX2_readFrom_209 (lv_at hl 4 rfl) ?_
        refine lv_if_eq (tgt := 228) hx hb dX2_readFrom_211 (by decide) (fun c3 => ?_) (fun c3 => ?_)
        · replace h := q_i1 c3 h
          refine lv_iconst (v := 0) hx hb dX2_readFrom_228 (by decide) ?_
          obtain ⟨eg4, h⟩ := q_og h
          obtain ⟨y5, ey5, h⟩ := q_ol h
          refine q_iast F hP hD hS 6 rfl eg4 (by rw [ey5]; rfl) dX2_readFrom_229 (fun H locs (hP : va_P (q_D E) vwCl ((q_cV E h0 a0 y5) ++ (q_cP E h1 a1 s1)) H) hD hS => ?_)
          obtain ⟨x6, ex6, h⟩ := q_ol h
          refine lv_iinc (v := x6) (lv' := [(3, .int x6), (0, .ref h0), (1, .ref h1), (2, .int v2), (4, .int v4)]) hx hb dX2_readFrom_230 hl (k := 3) rfl (by rw [ex6]; rfl) (by decide) rfl (fun ls hl => ?_)
          refine lv_goto (tgt := 157) hx hb dX2_readFrom_233 (by decide) ?_
          exact ih157 v2 x6 y5 H _ hP hD hS ls (lv_sub hl [1, 2, 3, 0] rfl) h
        · replace h := q_i2 c3 h
          refine lv_aload_n hx hb dX2_readFrom_214 rfl (lv_at hl 1 rfl) ?_
          refine lv_iload_n hx hb dX2_readFrom_215 rfl (lv_at hl 2 rfl) ?_
          refine lv_iconst (v := 2) hx hb dX2_readFrom_216 (by decide) ?_
          refine lv_iadd hx hb dX2_readFrom_217 ?_
          refine lv_iconst (v := 2) hx hb dX2_readFrom_218 (by decide) ?_
          refine lv_iload_n hx hb dX2_readFrom_219 rfl (lv_at hl 3 rfl) ?_
          refine lv_imul hx hb dX2_readFrom_220 ?_
          refine lv_iadd hx hb dX2_readFrom_221 ?_
          obtain ⟨x7, c8, h⟩ := q_o1 h
          refine q_roV F (kX0_digitAt l E h1 a1 s1 ((v2 + (2 : Int32)) + ((2 : Int32) * v3)) x7 c8) q_cX0_digitAt q_lX2_81 (q_EV.go F.2.2.2.2.2 hAl hS) ((q_s_VP_P_1 E h0 a0 h1 a1 y2 s1).P hP) ⟨by decide, by decide⟩ (q0 := 0) rfl rfl rfl rfl ⟨_, hl⟩ (rest := [.int v3, .ref (a0 9)]) rfl (Nat.le_of_ble_eq_true rfl) dX2_readFrom_222 ?_
          refine lv_goto (tgt := 229) hx hb dX2_readFrom_225 (by decide) ?_
          obtain ⟨eg9, h⟩ := q_og h
          obtain ⟨y10, ey10, h⟩ := q_ol h
          refine q_iast F hP hD hS 6 rfl eg9 (by rw [ey10]; rfl) dX2_readFrom_229 (fun H locs (hP : va_P (q_D E) vwCl ((q_cV E h0 a0 y10) ++ (q_cP E h1 a1 s1)) H) hD hS => ?_)
          obtain ⟨x11, ex11, h⟩ := q_ol h
          refine lv_iinc (v := x11) (lv' := [(3, .int x11), (0, .ref h0), (1, .ref h1), (2, .int v2), (4, .int v4)]) hx hb dX2_readFrom_230 hl (k := 3) rfl (by rw [ex11]; rfl) (by decide) rfl (fun ls hl => ?_)
          refine lv_goto (tgt := 157) hx hb dX2_readFrom_233 (by decide) ?_
          exact ih157 v2 x11 y10 H _ hP hD hS ls (lv_sub hl [1, 2, 3, 0] rfl) h
      have K176 : ∀ (v2 : Int32) (v3 : Int32) (t0 : Int32) (s0 : q_S), ∀ (H : Heap) (locs : List Loc), va_P (q_D E) vwCl ((q_cV E h0 a0 s0) ++ (q_cP E h1 a1 s1)) H → va_D A ((q_cV E h0 a0 s0) ++ (q_cP E h1 a1 s1)) → va_S A s.heap H locs → ∀ ls : Array Slot, lv_has ls 5 [(0, .ref h0), (1, .ref h1), (2, .int v2), (3, .int v3)] → zX2_readFrom_176 (zX2_readFrom_157 s1 v2 n157_) s0 s1 v2 v3 t0 = some rs0 → W p l e (q_rm 9) s m args below meth c H locs 0 0 (MQ below (q_muQ E A ((q_cV E h0 a0 rs0) ++ (q_cP E h1 a1 s1)) none) args s 0 0 A) (F0 m 176 ls [.int t0]) := by
        intro v2 v3 t0 s0 H locs hP hD hS ls hl h
        unfold zX2_readFrom_176 at h
        refine lv_istore (lv' := [(4, .int t0), (0, .ref h0), (1, .ref h1), (2, .int v2), (3, .int v3)]) hx hb dX2_readFrom_176 hl (by decide) rfl (fun ls hl => ?_)
        refine lv_aload_n hx hb dX2_readFrom_178 rfl (lv_at hl 1 rfl) ?_
        refine q_get F q_K2 hP 0 rfl 8 (by decide) q_fX2_24 rfl dX2_readFrom_179 ?_
        refine lv_iload_n hx hb dX2_readFrom_182 rfl (lv_at hl 4 rfl) ?_
        refine lv_iload hx hb dX2_readFrom_183 (lv_at hl 0 rfl) ?_
        refine lv_if_eq (tgt := 202) hx hb dX2_readFrom_185 (by decide) (fun c12 => ?_) (fun c12 => ?_)
        · replace h := q_i1 c12 h
          refine lv_iconst (v := 0) hx hb dX2_readFrom_202 (by decide) ?_
          exact K203 v2 v3 t0 v3 (0 : Int32) s0 H _ hP hD hS ls (lv_sub hl [1, 2, 3, 4, 0] rfl) h
        · replace h := q_i2 c12 h
          refine lv_aload_n hx hb dX2_readFrom_188 rfl (lv_at hl 2 rfl) ?_
          refine lv_iload_n hx hb dX2_readFrom_189 rfl (lv_at hl 3 rfl) ?_
          refine lv_iconst (v := 1) hx hb dX2_readFrom_190 (by decide) ?_
          refine lv_iadd hx hb dX2_readFrom_191 ?_
          refine lv_iconst (v := 2) hx hb dX2_readFrom_192 (by decide) ?_
          refine lv_iload_n hx hb dX2_readFrom_193 rfl (lv_at hl 4 rfl) ?_
          refine lv_imul hx hb dX2_readFrom_194 ?_
          refine lv_iadd hx hb dX2_readFrom_195 ?_
          obtain ⟨x13, c14, h⟩ := q_o1 h
          refine q_roV F (kX0_digitAt l E h1 a1 s1 ((v2 + (1 : Int32)) + ((2 : Int32) * v3)) x13 c14) q_cX0_digitAt q_lX2_81 (q_EV.go F.2.2.2.2.2 hAl hS) ((q_s_VP_P_1 E h0 a0 h1 a1 s0 s1).P hP) ⟨by decide, by decide⟩ (q0 := 0) rfl rfl rfl rfl ⟨_, hl⟩ (rest := [.int v3, .ref (a0 8)]) rfl (Nat.le_of_ble_eq_true rfl) dX2_readFrom_196 ?_
          refine lv_goto (tgt := 203) hx hb dX2_readFrom_199 (by decide) ?_
          exact K203 v2 v3 t0 v3 x13 s0 H _ hP hD hS ls (lv_sub hl [1, 2, 3, 4, 0] rfl) h
      intro v2 v3 s0 H locs hP hD hS ls hl h
      rw [zX2_readFrom_157_s] at h
      unfold jX2_readFrom_157 at h
      refine lv_iload_n hx hb dX2_readFrom_157 rfl (lv_at hl 3 rfl) ?_
      refine lv_bipush (v := 8) hx hb dX2_readFrom_158 (by decide) ?_
      refine lv_icmp_ge (tgt := 236) hx hb dX2_readFrom_160 (by decide) (fun c15 => ?_) (fun c15 => ?_)
      · replace h := q_i1 c15 h
        cases h
        exact q_wV F hr hlk dX2_readFrom_236 hP hD hS
      · replace h := q_i2 c15 h
        refine lv_iload_n hx hb dX2_readFrom_163 rfl (lv_at hl 3 rfl) ?_
        refine lv_aload_n hx hb dX2_readFrom_164 rfl (lv_at hl 0 rfl) ?_
        refine q_get F q_K2 hP 0 rfl 6 (by decide) q_fX2_40 rfl dX2_readFrom_165 ?_
        refine lv_icmp_ge (tgt := 175) hx hb dX2_readFrom_168 (by decide) (fun c16 => ?_) (fun c16 => ?_)
        · replace h := q_i1 c16 h
          refine lv_iconst (v := 0) hx hb dX2_readFrom_175 (by decide) ?_
          exact K176 v2 v3 (0 : Int32) s0 H _ hP hD hS ls (lv_sub hl [0, 1, 2, 3] rfl) h
        · replace h := q_i2 c16 h
          refine lv_iconst (v := 1) hx hb dX2_readFrom_171 (by decide) ?_
          refine lv_goto (tgt := 176) hx hb dX2_readFrom_172 (by decide) ?_
          exact K176 v2 v3 (1 : Int32) s0 H _ hP hD hS ls (lv_sub hl [0, 1, 2, 3] rfl) h
  have K66 : ∀ (n66_ : Nat), ∀ (v2 : Int32) (v3 : Int32) (s0 : q_S), ∀ (H : Heap) (locs : List Loc), va_P (q_D E) vwCl ((q_cV E h0 a0 s0) ++ (q_cP E h1 a1 s1)) H → va_D A ((q_cV E h0 a0 s0) ++ (q_cP E h1 a1 s1)) → va_S A s.heap H locs → ∀ ls : Array Slot, lv_has ls 5 [(0, .ref h0), (1, .ref h1), (2, .int v2), (3, .int v3)] → zX2_readFrom_66 s1 v2 n66_ s0 v3 = some rs0 → W p l e (q_rm 9) s m args below meth c H locs 0 0 (MQ below (q_muQ E A ((q_cV E h0 a0 rs0) ++ (q_cP E h1 a1 s1)) none) args s 0 0 A) (F0 m 66 ls []) := by
    intro n66_
    induction n66_ with
    | zero => intro v2 v3 s0 H locs hP hD hS ls hl h; exact q_nn h
    | succ n66_ ih66 =>
      have K134 : ∀ (v2 : Int32) (v3 : Int32) (t1 : Int32) (t2 : Int32) (s0 : q_S), ∀ (H : Heap) (locs : List Loc), va_P (q_D E) vwCl ((q_cV E h0 a0 s0) ++ (q_cP E h1 a1 s1)) H → va_D A ((q_cV E h0 a0 s0) ++ (q_cP E h1 a1 s1)) → va_S A s.heap H locs → ∀ ls : Array Slot, lv_has ls 5 [(0, .ref h0), (1, .ref h1), (2, .int v2), (3, .int v3)] → zX2_readFrom_134 (zX2_readFrom_66 s1 v2 n66_) s0 v3 t1 t2 = some rs0 → W p l e (q_rm 9) s m args below meth c H locs 0 0 (MQ below (q_muQ E A ((q_cV E h0 a0 rs0) ++ (q_cP E h1 a1 s1)) none) args s 0 0 A) (F0 m 134 ls [.int t2, .int t1, .ref (a0 3)]) := by
        intro v2 v3 t1 t2 s0 H locs hP hD hS ls hl h
        unfold zX2_readFrom_134 at h
        obtain ⟨eg17, h⟩ := q_og h
        obtain ⟨y18, ey18, h⟩ := q_ol h
        refine q_iast F hP hD hS 2 rfl eg17 (by rw [ey18]; rfl) dX2_readFrom_134 (fun H locs (hP : va_P (q_D E) vwCl ((q_cV E h0 a0 y18) ++ (q_cP E h1 a1 s1)) H) hD hS => ?_)
        refine lv_aload_n hx hb dX2_readFrom_135 rfl (lv_at hl 0 rfl) ?_
        refine q_get F q_K2 hP 0 rfl 4 (by decide) q_fX2_18 rfl dX2_readFrom_136 ?_
        refine lv_iload_n hx hb dX2_readFrom_139 rfl (lv_at hl 3 rfl) ?_
        refine lv_iconst (v := 0) hx hb dX2_readFrom_140 (by decide) ?_
        obtain ⟨eg19, h⟩ := q_og h
        obtain ⟨y20, ey20, h⟩ := q_ol h
        refine q_iast F hP hD hS 3 rfl eg19 (by rw [ey20]; rfl) dX2_readFrom_141 (fun H locs (hP : va_P (q_D E) vwCl ((q_cV E h0 a0 y20) ++ (q_cP E h1 a1 s1)) H) hD hS => ?_)
        refine lv_aload_n hx hb dX2_readFrom_142 rfl (lv_at hl 0 rfl) ?_
        refine q_get F q_K2 hP 0 rfl 5 (by decide) q_fX2_21 rfl dX2_readFrom_143 ?_
        refine lv_iload_n hx hb dX2_readFrom_146 rfl (lv_at hl 3 rfl) ?_
        refine lv_iconst (v := 0) hx hb dX2_readFrom_147 (by decide) ?_
        obtain ⟨eg21, h⟩ := q_og h
        obtain ⟨y22, ey22, h⟩ := q_ol h
        refine q_iast F hP hD hS 4 rfl eg21 (by rw [ey22]; rfl) dX2_readFrom_148 (fun H locs (hP : va_P (q_D E) vwCl ((q_cV E h0 a0 y22) ++ (q_cP E h1 a1 s1)) H) hD hS => ?_)
        obtain ⟨x23, ex23, h⟩ := q_ol h
        refine lv_iinc (v := x23) (lv' := [(3, .int x23), (0, .ref h0), (1, .ref h1), (2, .int v2)]) hx hb dX2_readFrom_149 hl (k := 3) rfl (by rw [ex23]; rfl) (by decide) rfl (fun ls hl => ?_)
        refine lv_goto (tgt := 66) hx hb dX2_readFrom_152 (by decide) ?_
        exact ih66 v2 x23 y22 H _ hP hD hS ls (lv_sub hl [1, 2, 3, 0] rfl) h
      have K110 : ∀ (v2 : Int32) (v3 : Int32) (v4 : Int32) (t1 : Int32) (t2 : Int32) (s0 : q_S), ∀ (H : Heap) (locs : List Loc), va_P (q_D E) vwCl ((q_cV E h0 a0 s0) ++ (q_cP E h1 a1 s1)) H → va_D A ((q_cV E h0 a0 s0) ++ (q_cP E h1 a1 s1)) → va_S A s.heap H locs → ∀ ls : Array Slot, lv_has ls 5 [(0, .ref h0), (1, .ref h1), (2, .int v2), (3, .int v3), (4, .int v4)] → zX2_readFrom_110 (zX2_readFrom_66 s1 v2 n66_) s0 s1 v3 v4 t1 t2 = some rs0 → W p l e (q_rm 9) s m args below meth c H locs 0 0 (MQ below (q_muQ E A ((q_cV E h0 a0 rs0) ++ (q_cP E h1 a1 s1)) none) args s 0 0 A) (F0 m 110 ls [.int t2, .int t1, .ref (a0 2)]) := by
        intro v2 v3 v4 t1 t2 s0 H locs hP hD hS ls hl h
        unfold zX2_readFrom_110 at h
        obtain ⟨eg24, h⟩ := q_og h
        obtain ⟨y25, ey25, h⟩ := q_ol h
        refine q_iast F hP hD hS 1 rfl eg24 (by rw [ey25]; rfl) dX2_readFrom_110 (fun H locs (hP : va_P (q_D E) vwCl ((q_cV E h0 a0 y25) ++ (q_cP E h1 a1 s1)) H) hD hS => ?_)
        refine lv_aload_n hx hb dX2_readFrom_111 rfl (lv_at hl 0 rfl) ?_
        refine q_get F q_K2 hP 0 rfl 3 (by decide) q_fX2_15 rfl dX2_readFrom_112 ?_
        refine lv_iload_n hx hb dX2_readFrom_115 rfl (lv_at hl 3 rfl) ?_
        refine lv_iload hx hb dX2_readFrom_116 (lv_at hl 4 rfl) ?_
        refine lv_if_eq (tgt := 133) hx hb dX2_readFrom_118 (by decide) (fun c26 => ?_) (fun c26 => ?_)
        · replace h := q_i1 c26 h
          refine lv_iconst (v := 0) hx hb dX2_readFrom_133 (by decide) ?_
          exact K134 v2 v3 v3 (0 : Int32) y25 H _ hP hD hS ls (lv_sub hl [0, 1, 2, 3] rfl) h
        · replace h := q_i2 c26 h
          refine lv_aload_n hx hb dX2_readFrom_121 rfl (lv_at hl 1 rfl) ?_
          refine lv_iconst (v := 3) hx hb dX2_readFrom_122 (by decide) ?_
          refine lv_iload_n hx hb dX2_readFrom_123 rfl (lv_at hl 3 rfl) ?_
          refine lv_imul hx hb dX2_readFrom_124 ?_
          refine lv_iconst (v := 1) hx hb dX2_readFrom_125 (by decide) ?_
          refine lv_iadd hx hb dX2_readFrom_126 ?_
          obtain ⟨x27, c28, h⟩ := q_o1 h
          refine q_roV F (kX0_digitAt l E h1 a1 s1 (((3 : Int32) * v3) + (1 : Int32)) x27 c28) q_cX0_digitAt q_lX2_81 (q_EV.go F.2.2.2.2.2 hAl hS) ((q_s_VP_P_1 E h0 a0 h1 a1 y25 s1).P hP) ⟨by decide, by decide⟩ (q0 := 0) rfl rfl rfl rfl ⟨_, hl⟩ (rest := [.int v3, .ref (a0 3)]) rfl (Nat.le_of_ble_eq_true rfl) dX2_readFrom_127 ?_
          refine lv_goto (tgt := 134) hx hb dX2_readFrom_130 (by decide) ?_
          exact K134 v2 v3 v3 x27 y25 H _ hP hD hS ls (lv_sub hl [0, 1, 2, 3] rfl) h
      have K84 : ∀ (v2 : Int32) (v3 : Int32) (t0 : Int32) (s0 : q_S), ∀ (H : Heap) (locs : List Loc), va_P (q_D E) vwCl ((q_cV E h0 a0 s0) ++ (q_cP E h1 a1 s1)) H → va_D A ((q_cV E h0 a0 s0) ++ (q_cP E h1 a1 s1)) → va_S A s.heap H locs → ∀ ls : Array Slot, lv_has ls 5 [(0, .ref h0), (1, .ref h1), (2, .int v2), (3, .int v3)] → zX2_readFrom_84 (zX2_readFrom_66 s1 v2 n66_) s0 s1 v3 t0 = some rs0 → W p l e (q_rm 9) s m args below meth c H locs 0 0 (MQ below (q_muQ E A ((q_cV E h0 a0 rs0) ++ (q_cP E h1 a1 s1)) none) args s 0 0 A) (F0 m 84 ls [.int t0]) := by
        intro v2 v3 t0 s0 H locs hP hD hS ls hl h
        unfold zX2_readFrom_84 at h
        refine lv_istore (lv' := [(4, .int t0), (0, .ref h0), (1, .ref h1), (2, .int v2), (3, .int v3)]) hx hb dX2_readFrom_84 hl (by decide) rfl (fun ls hl => ?_)
        refine lv_aload_n hx hb dX2_readFrom_86 rfl (lv_at hl 1 rfl) ?_
        refine q_get F q_K2 hP 0 rfl 2 (by decide) q_fX2_9 rfl dX2_readFrom_87 ?_
        refine lv_iload_n hx hb dX2_readFrom_90 rfl (lv_at hl 4 rfl) ?_
        refine lv_iload hx hb dX2_readFrom_91 (lv_at hl 0 rfl) ?_
        refine lv_if_eq (tgt := 109) hx hb dX2_readFrom_93 (by decide) (fun c29 => ?_) (fun c29 => ?_)
        · replace h := q_i1 c29 h
          refine lv_iconst (v := 0) hx hb dX2_readFrom_109 (by decide) ?_
          exact K110 v2 v3 t0 v3 (0 : Int32) s0 H _ hP hD hS ls (lv_sub hl [1, 2, 3, 4, 0] rfl) h
        · replace h := q_i2 c29 h
          refine lv_aload_n hx hb dX2_readFrom_96 rfl (lv_at hl 2 rfl) ?_
          refine lv_iconst (v := 3) hx hb dX2_readFrom_97 (by decide) ?_
          refine lv_iload_n hx hb dX2_readFrom_98 rfl (lv_at hl 4 rfl) ?_
          refine lv_imul hx hb dX2_readFrom_99 ?_
          obtain ⟨x30, c31, h⟩ := q_o1 h
          refine q_roV F (kX0_letterAt l E h1 a1 s1 ((3 : Int32) * v3) x30 c31) q_cX0_letterAt q_lX2_74 (q_EV.go F.2.2.2.2.2 hAl hS) ((q_s_VP_P_1 E h0 a0 h1 a1 s0 s1).P hP) ⟨by decide, by decide⟩ (q0 := 0) rfl rfl rfl rfl ⟨_, hl⟩ (rest := [.int v3, .ref (a0 2)]) rfl (Nat.le_of_ble_eq_true rfl) dX2_readFrom_100 ?_
          obtain ⟨x32, c33, h⟩ := q_o1 h
          refine q_roS F (kX3_kindOf l E  x30 x32 c33) q_cX3_kindOf q_lX2_78 (q_EV.go F.2.2.2.2.2 hAl hS) (fun k q h => by simp at h) ⟨by decide, by decide⟩ rfl ⟨_, hl⟩ (rest := [.int v3, .ref (a0 2)]) rfl (Nat.le_of_ble_eq_true rfl) dX2_readFrom_103 ?_
          refine lv_goto (tgt := 110) hx hb dX2_readFrom_106 (by decide) ?_
          exact K110 v2 v3 t0 v3 x32 s0 H _ hP hD hS ls (lv_sub hl [1, 2, 3, 4, 0] rfl) h
      intro v2 v3 s0 H locs hP hD hS ls hl h
      rw [zX2_readFrom_66_s] at h
      unfold jX2_readFrom_66 at h
      refine lv_iload_n hx hb dX2_readFrom_66 rfl (lv_at hl 3 rfl) ?_
      refine lv_iconst (v := 4) hx hb dX2_readFrom_67 (by decide) ?_
      refine lv_icmp_ge (tgt := 155) hx hb dX2_readFrom_68 (by decide) (fun c34 => ?_) (fun c34 => ?_)
      · replace h := q_i1 c34 h
        refine lv_iconst (v := 0) hx hb dX2_readFrom_155 (by decide) ?_
        refine lv_istore_n (lv' := [(3, .int (0 : Int32)), (0, .ref h0), (1, .ref h1), (2, .int v2)]) hx hb dX2_readFrom_156 rfl hl (by decide) rfl (fun ls hl => ?_)
        exact K157 70000 v2 (0 : Int32) s0 H _ hP hD hS ls (lv_sub hl [1, 2, 3, 0] rfl) h
      · replace h := q_i2 c34 h
        refine lv_iload_n hx hb dX2_readFrom_71 rfl (lv_at hl 3 rfl) ?_
        refine lv_aload_n hx hb dX2_readFrom_72 rfl (lv_at hl 0 rfl) ?_
        refine q_get F q_K2 hP 0 rfl 0 (by decide) q_fX2_36 rfl dX2_readFrom_73 ?_
        refine lv_icmp_ge (tgt := 83) hx hb dX2_readFrom_76 (by decide) (fun c35 => ?_) (fun c35 => ?_)
        · replace h := q_i1 c35 h
          refine lv_iconst (v := 0) hx hb dX2_readFrom_83 (by decide) ?_
          exact K84 v2 v3 (0 : Int32) s0 H _ hP hD hS ls (lv_sub hl [0, 1, 2, 3] rfl) h
        · replace h := q_i2 c35 h
          refine lv_iconst (v := 1) hx hb dX2_readFrom_79 (by decide) ?_
          refine lv_goto (tgt := 84) hx hb dX2_readFrom_80 (by decide) ?_
          exact K84 v2 v3 (1 : Int32) s0 H _ hP hD hS ls (lv_sub hl [0, 1, 2, 3] rfl) h
  unfold zX2_readFrom at h
  refine lv_aload_n hx hb dX2_readFrom_0 rfl (lv_at hl 1 rfl) ?_
  obtain ⟨x36, c37, h⟩ := q_o1 h
  refine q_roV F (kX0_eatersEnd l E h1 a1 s1 x36 c37) q_cX0_eatersEnd q_lX2_53 (q_EV.go F.2.2.2.2.2 hAl hS) ((q_s_VP_P_1 E h0 a0 h1 a1 s0 s1).P hP) ⟨by decide, by decide⟩ (q0 := 0) rfl rfl rfl rfl ⟨_, hl⟩ (rest := []) rfl (Nat.le_of_ble_eq_true rfl) dX2_readFrom_1 ?_
  refine lv_istore_n (lv' := [(2, .int x36), (0, .ref h0), (1, .ref h1)]) hx hb dX2_readFrom_4 rfl hl (by decide) rfl (fun ls hl => ?_)
  refine lv_aload_n hx hb dX2_readFrom_5 rfl (lv_at hl 1 rfl) ?_
  refine lv_iload_n hx hb dX2_readFrom_6 rfl (lv_at hl 0 rfl) ?_
  refine lv_iconst (v := 1) hx hb dX2_readFrom_7 (by decide) ?_
  refine lv_iadd hx hb dX2_readFrom_8 ?_
  refine lv_iconst (v := 3) hx hb dX2_readFrom_9 (by decide) ?_
  refine lv_idiv hx hb dX2_readFrom_10 (by decide) ?_
  refine lv_iconst (v := 4) hx hb dX2_readFrom_11 (by decide) ?_
  refine q_min F q_mX2_59 (by decide) ⟨_, hl⟩ (Nat.le_of_ble_eq_true rfl) dX2_readFrom_12 ?_
  obtain ⟨y38, ey38, h⟩ := q_ol h
  refine q_put F q_K2 hP hD hS 0 rfl 0 (by decide) q_fX2_36 rfl rfl rfl (Nat.le_of_ble_eq_true rfl) (by rw [ey38]; rfl) dX2_readFrom_15 (fun H locs (hP : va_P (q_D E) vwCl ((q_cV E h0 a0 y38) ++ (q_cP E h1 a1 s1)) H) hD hS => ?_)
  refine lv_aload_n hx hb dX2_readFrom_18 rfl (lv_at hl 1 rfl) ?_
  refine lv_aload_n hx hb dX2_readFrom_19 rfl (lv_at hl 2 rfl) ?_
  refine q_get F q_K0 hP 9 rfl 1 (by decide) q_fX2_65 rfl dX2_readFrom_20 ?_
  refine lv_iconst (v := 1) hx hb dX2_readFrom_23 (by decide) ?_
  refine lv_isub hx hb dX2_readFrom_24 ?_
  refine lv_iload_n hx hb dX2_readFrom_25 rfl (lv_at hl 0 rfl) ?_
  refine lv_isub hx hb dX2_readFrom_26 ?_
  refine lv_iconst (v := 2) hx hb dX2_readFrom_27 (by decide) ?_
  refine lv_idiv hx hb dX2_readFrom_28 (by decide) ?_
  refine lv_bipush (v := 8) hx hb dX2_readFrom_29 (by decide) ?_
  refine q_min F q_mX2_59 (by decide) ⟨_, hl⟩ (Nat.le_of_ble_eq_true rfl) dX2_readFrom_31 ?_
  obtain ⟨y39, ey39, h⟩ := q_ol h
  refine q_put F q_K2 hP hD hS 0 rfl 6 (by decide) q_fX2_40 rfl rfl rfl (Nat.le_of_ble_eq_true rfl) (by rw [ey39]; rfl) dX2_readFrom_34 (fun H locs (hP : va_P (q_D E) vwCl ((q_cV E h0 a0 y39) ++ (q_cP E h1 a1 s1)) H) hD hS => ?_)
  refine lv_aload_n hx hb dX2_readFrom_37 rfl (lv_at hl 1 rfl) ?_
  refine lv_iconst (v := 1) hx hb dX2_readFrom_38 (by decide) ?_
  refine lv_aload_n hx hb dX2_readFrom_39 rfl (lv_at hl 1 rfl) ?_
  refine q_get F q_K2 hP 0 rfl 0 (by decide) q_fX2_36 rfl dX2_readFrom_40 ?_
  refine lv_ishl hx hb dX2_readFrom_43 ?_
  refine lv_iconst (v := 1) hx hb dX2_readFrom_44 (by decide) ?_
  refine lv_isub hx hb dX2_readFrom_45 ?_
  obtain ⟨y40, ey40, h⟩ := q_ol h
  refine q_put F q_K2 hP hD hS 0 rfl 1 (by decide) q_fX2_43 rfl rfl rfl (Nat.le_of_ble_eq_true rfl) (by rw [ey40]; rfl) dX2_readFrom_46 (fun H locs (hP : va_P (q_D E) vwCl ((q_cV E h0 a0 y40) ++ (q_cP E h1 a1 s1)) H) hD hS => ?_)
  refine lv_aload_n hx hb dX2_readFrom_49 rfl (lv_at hl 1 rfl) ?_
  refine lv_iconst (v := 0) hx hb dX2_readFrom_50 (by decide) ?_
  obtain ⟨y41, ey41, h⟩ := q_ol h
  refine q_put F q_K2 hP hD hS 0 rfl 7 (by decide) q_fX2_50 rfl rfl rfl (Nat.le_of_ble_eq_true rfl) (by rw [ey41]; rfl) dX2_readFrom_51 (fun H locs (hP : va_P (q_D E) vwCl ((q_cV E h0 a0 y41) ++ (q_cP E h1 a1 s1)) H) hD hS => ?_)
  refine lv_aload_n hx hb dX2_readFrom_54 rfl (lv_at hl 1 rfl) ?_
  refine lv_iconst (v := 0) hx hb dX2_readFrom_55 (by decide) ?_
  obtain ⟨y42, ey42, h⟩ := q_ol h
  refine q_put F q_K2 hP hD hS 0 rfl 10 (by decide) q_fX2_68 rfl rfl rfl (Nat.le_of_ble_eq_true rfl) (by rw [ey42]; rfl) dX2_readFrom_56 (fun H locs (hP : va_P (q_D E) vwCl ((q_cV E h0 a0 y42) ++ (q_cP E h1 a1 s1)) H) hD hS => ?_)
  refine lv_aload_n hx hb dX2_readFrom_59 rfl (lv_at hl 1 rfl) ?_
  refine lv_iconst (v := 0) hx hb dX2_readFrom_60 (by decide) ?_
  obtain ⟨y43, ey43, h⟩ := q_ol h
  refine q_put F q_K2 hP hD hS 0 rfl 11 (by decide) q_fX2_71 rfl rfl rfl (Nat.le_of_ble_eq_true rfl) (by rw [ey43]; rfl) dX2_readFrom_61 (fun H locs (hP : va_P (q_D E) vwCl ((q_cV E h0 a0 y43) ++ (q_cP E h1 a1 s1)) H) hD hS => ?_)
  refine lv_iconst (v := 0) hx hb dX2_readFrom_64 (by decide) ?_
  refine lv_istore_n (lv' := [(3, .int (0 : Int32)), (2, .int x36), (0, .ref h0), (1, .ref h1)]) hx hb dX2_readFrom_65 rfl hl (by decide) rfl (fun ls hl => ?_)
  exact K66 70000 x36 (0 : Int32) y43 H _ hP hD hS ls (lv_sub hl [2, 3, 1, 0] rfl) h
def zX2_copyFrom (s0 : q_S) (s1 : q_S) : Option (q_S) := q_lt (q_u s0 0 0 (s1 0 0)) fun y1 => q_lt (q_u y1 1 0 (s1 1 0)) fun y2 => q_lt (q_u y2 6 0 (s1 6 0)) fun y3 => q_lt (q_u y3 7 0 (s1 7 0)) fun y4 => q_lt (q_u y4 10 0 (s1 10 0)) fun y5 => q_lt (q_u y5 11 0 (s1 11 0)) fun y6 => q_b1 (zX3_copyRow 4 4 (s1 2) (y6 2)) fun y7 => q_lt (q_uc y6 2 y7) fun y9 => q_b1 (zX3_copyRow 4 4 (s1 3) (y9 3)) fun y10 => q_lt (q_uc y9 3 y10) fun y12 => q_b1 (zX3_copyRow 4 4 (s1 4) (y12 4)) fun y13 => q_lt (q_uc y12 4 y13) fun y15 => q_b1 (zX3_copyRow 4 4 (s1 5) (y15 5)) fun y16 => q_lt (q_uc y15 5 y16) fun y18 => q_b1 (zX3_copyRow 8 8 (s1 8) (y18 8)) fun y19 => q_lt (q_uc y18 8 y19) fun y21 => q_b1 (zX3_copyRow 8 8 (s1 9) (y21 9)) fun y22 => q_lt (q_uc y21 9 y22) fun y24 => q_b1 (zX3_copyRow 6 6 (s1 12) (y24 12)) fun y25 => q_lt (q_uc y24 12 y25) fun y27 => q_b1 (zX3_copyRow 6 6 (s1 13) (y27 13)) fun y28 => q_lt (q_uc y27 13 y28) fun y30 => q_lt (q_u y30 14 0 (s1 14 0)) fun y31 => some y31
set_option maxHeartbeats 4000000 in
set_option maxRecDepth 100000 in
theorem kX2_copyFrom (l : Launch) (E : q_E) (h0 : Nat) (a0 : Nat → Nat) (h1 : Nat) (a1 : Nat → Nat) (s0 : q_S) (s1 : q_S)  (sz : Nat) (rs0 : q_S) (h : zX2_copyFrom s0 s1 = some rs0) : q_MU l E yX2_copyFrom cX2_copyFrom 2 none 2 [.ref h0, .ref h1] sz ((q_cV E h0 a0 s0) ++ (q_cV E h1 a1 s1)) ((q_cV E h0 a0 rs0) ++ (q_cV E h1 a1 s1)) none := by
  refine q_MU.intro (by decide) (Nat.le_of_ble_eq_true rfl) ?_
  intro p e s m args below meth c A X hP hD hA hAl ls hl
  obtain ⟨hx, hb, hml, hr, hlk, hown, hB, hE⟩ := X
  have hown : s.vm.findClass RX2 = some m.cls := hown
  have F : q_Fx p s m c E RX2 cX2_copyFrom 2 := ⟨hx, hb, hml, hown, hB, hE⟩
  have hS : va_S A s.heap s.heap [] := va_S.rf
  have hl : lv_has ls 2 [(0, .ref h0), (1, .ref h1)] := hl
  unfold zX2_copyFrom at h
  refine lv_aload_n hx hb dX2_copyFrom_0 rfl (lv_at hl 0 rfl) ?_
  refine lv_aload_n hx hb dX2_copyFrom_1 rfl (lv_at hl 1 rfl) ?_
  refine q_get F q_K2 hP 9 rfl 0 (by decide) q_fX2_36 rfl dX2_copyFrom_2 ?_
  obtain ⟨y1, ey1, h⟩ := q_ol h
  refine q_put F q_K2 hP hD hS 0 rfl 0 (by decide) q_fX2_36 rfl rfl rfl (Nat.le_of_ble_eq_true rfl) (by rw [ey1]; rfl) dX2_copyFrom_5 (fun H locs (hP : va_P (q_D E) vwCl ((q_cV E h0 a0 y1) ++ (q_cV E h1 a1 s1)) H) hD hS => ?_)
  refine lv_aload_n hx hb dX2_copyFrom_8 rfl (lv_at hl 0 rfl) ?_
  refine lv_aload_n hx hb dX2_copyFrom_9 rfl (lv_at hl 1 rfl) ?_
  refine q_get F q_K2 hP 9 rfl 1 (by decide) q_fX2_43 rfl dX2_copyFrom_10 ?_
  obtain ⟨y2, ey2, h⟩ := q_ol h
  refine q_put F q_K2 hP hD hS 0 rfl 1 (by decide) q_fX2_43 rfl rfl rfl (Nat.le_of_ble_eq_true rfl) (by rw [ey2]; rfl) dX2_copyFrom_13 (fun H locs (hP : va_P (q_D E) vwCl ((q_cV E h0 a0 y2) ++ (q_cV E h1 a1 s1)) H) hD hS => ?_)
  refine lv_aload_n hx hb dX2_copyFrom_16 rfl (lv_at hl 0 rfl) ?_
  refine lv_aload_n hx hb dX2_copyFrom_17 rfl (lv_at hl 1 rfl) ?_
  refine q_get F q_K2 hP 9 rfl 6 (by decide) q_fX2_40 rfl dX2_copyFrom_18 ?_
  obtain ⟨y3, ey3, h⟩ := q_ol h
  refine q_put F q_K2 hP hD hS 0 rfl 6 (by decide) q_fX2_40 rfl rfl rfl (Nat.le_of_ble_eq_true rfl) (by rw [ey3]; rfl) dX2_copyFrom_21 (fun H locs (hP : va_P (q_D E) vwCl ((q_cV E h0 a0 y3) ++ (q_cV E h1 a1 s1)) H) hD hS => ?_)
  refine lv_aload_n hx hb dX2_copyFrom_24 rfl (lv_at hl 0 rfl) ?_
  refine lv_aload_n hx hb dX2_copyFrom_25 rfl (lv_at hl 1 rfl) ?_
  refine q_get F q_K2 hP 9 rfl 7 (by decide) q_fX2_50 rfl dX2_copyFrom_26 ?_
  obtain ⟨y4, ey4, h⟩ := q_ol h
  refine q_put F q_K2 hP hD hS 0 rfl 7 (by decide) q_fX2_50 rfl rfl rfl (Nat.le_of_ble_eq_true rfl) (by rw [ey4]; rfl) dX2_copyFrom_29 (fun H locs (hP : va_P (q_D E) vwCl ((q_cV E h0 a0 y4) ++ (q_cV E h1 a1 s1)) H) hD hS => ?_)
  refine lv_aload_n hx hb dX2_copyFrom_32 rfl (lv_at hl 0 rfl) ?_
  refine lv_aload_n hx hb dX2_copyFrom_33 rfl (lv_at hl 1 rfl) ?_
  refine q_get F q_K2 hP 9 rfl 10 (by decide) q_fX2_68 rfl dX2_copyFrom_34 ?_
  obtain ⟨y5, ey5, h⟩ := q_ol h
  refine q_put F q_K2 hP hD hS 0 rfl 10 (by decide) q_fX2_68 rfl rfl rfl (Nat.le_of_ble_eq_true rfl) (by rw [ey5]; rfl) dX2_copyFrom_37 (fun H locs (hP : va_P (q_D E) vwCl ((q_cV E h0 a0 y5) ++ (q_cV E h1 a1 s1)) H) hD hS => ?_)
  refine lv_aload_n hx hb dX2_copyFrom_40 rfl (lv_at hl 0 rfl) ?_
  refine lv_aload_n hx hb dX2_copyFrom_41 rfl (lv_at hl 1 rfl) ?_
  refine q_get F q_K2 hP 9 rfl 11 (by decide) q_fX2_71 rfl dX2_copyFrom_42 ?_
  obtain ⟨y6, ey6, h⟩ := q_ol h
  refine q_put F q_K2 hP hD hS 0 rfl 11 (by decide) q_fX2_71 rfl rfl rfl (Nat.le_of_ble_eq_true rfl) (by rw [ey6]; rfl) dX2_copyFrom_45 (fun H locs (hP : va_P (q_D E) vwCl ((q_cV E h0 a0 y6) ++ (q_cV E h1 a1 s1)) H) hD hS => ?_)
  refine lv_aload_n hx hb dX2_copyFrom_48 rfl (lv_at hl 1 rfl) ?_
  refine q_get F q_K2 hP 9 rfl 2 (by decide) q_fX2_9 rfl dX2_copyFrom_49 ?_
  refine lv_aload_n hx hb dX2_copyFrom_52 rfl (lv_at hl 0 rfl) ?_
  refine q_get F q_K2 hP 0 rfl 2 (by decide) q_fX2_9 rfl dX2_copyFrom_53 ?_
  obtain ⟨y7, c8, h⟩ := q_o1 h
  refine q_muS F (kX3_copyRow l E (a1 2) 4 (a0 2) 4 (s1 2) (y6 2) H.size y7 c8) q_cX3_copyRow q_lX2_84 (q_s_VV_RR_1f2_0f2w E h0 a0 h1 a1 y6 s1 y7) hP hD hS hA hAl ⟨by decide, by decide⟩ rfl ⟨_, hl⟩ (rest := []) rfl (Nat.le_of_ble_eq_true rfl) dX2_copyFrom_56 (fun H locs (hP : va_P (q_D E) vwCl ((q_cV E h0 a0 (q_uc y6 2 y7)) ++ (q_cV E h1 a1 s1)) H) hD hS => ?_)
  obtain ⟨y9, ey9, h⟩ := q_ol h
  rw [← ey9] at hP hD
  refine lv_aload_n hx hb dX2_copyFrom_59 rfl (lv_at hl 1 rfl) ?_
  refine q_get F q_K2 hP 9 rfl 3 (by decide) q_fX2_15 rfl dX2_copyFrom_60 ?_
  refine lv_aload_n hx hb dX2_copyFrom_63 rfl (lv_at hl 0 rfl) ?_
  refine q_get F q_K2 hP 0 rfl 3 (by decide) q_fX2_15 rfl dX2_copyFrom_64 ?_
  obtain ⟨y10, c11, h⟩ := q_o1 h
  refine q_muS F (kX3_copyRow l E (a1 3) 4 (a0 3) 4 (s1 3) (y9 3) H.size y10 c11) q_cX3_copyRow q_lX2_84 (q_s_VV_RR_1f3_0f3w E h0 a0 h1 a1 y9 s1 y10) hP hD hS hA hAl ⟨by decide, by decide⟩ rfl ⟨_, hl⟩ (rest := []) rfl (Nat.le_of_ble_eq_true rfl) dX2_copyFrom_67 (fun H locs (hP : va_P (q_D E) vwCl ((q_cV E h0 a0 (q_uc y9 3 y10)) ++ (q_cV E h1 a1 s1)) H) hD hS => ?_)
  obtain ⟨y12, ey12, h⟩ := q_ol h
  rw [← ey12] at hP hD
  refine lv_aload_n hx hb dX2_copyFrom_70 rfl (lv_at hl 1 rfl) ?_
  refine q_get F q_K2 hP 9 rfl 4 (by decide) q_fX2_18 rfl dX2_copyFrom_71 ?_
  refine lv_aload_n hx hb dX2_copyFrom_74 rfl (lv_at hl 0 rfl) ?_
  refine q_get F q_K2 hP 0 rfl 4 (by decide) q_fX2_18 rfl dX2_copyFrom_75 ?_
  obtain ⟨y13, c14, h⟩ := q_o1 h
  refine q_muS F (kX3_copyRow l E (a1 4) 4 (a0 4) 4 (s1 4) (y12 4) H.size y13 c14) q_cX3_copyRow q_lX2_84 (q_s_VV_RR_1f4_0f4w E h0 a0 h1 a1 y12 s1 y13) hP hD hS hA hAl ⟨by decide, by decide⟩ rfl ⟨_, hl⟩ (rest := []) rfl (Nat.le_of_ble_eq_true rfl) dX2_copyFrom_78 (fun H locs (hP : va_P (q_D E) vwCl ((q_cV E h0 a0 (q_uc y12 4 y13)) ++ (q_cV E h1 a1 s1)) H) hD hS => ?_)
  obtain ⟨y15, ey15, h⟩ := q_ol h
  rw [← ey15] at hP hD
  refine lv_aload_n hx hb dX2_copyFrom_81 rfl (lv_at hl 1 rfl) ?_
  refine q_get F q_K2 hP 9 rfl 5 (by decide) q_fX2_21 rfl dX2_copyFrom_82 ?_
  refine lv_aload_n hx hb dX2_copyFrom_85 rfl (lv_at hl 0 rfl) ?_
  refine q_get F q_K2 hP 0 rfl 5 (by decide) q_fX2_21 rfl dX2_copyFrom_86 ?_
  obtain ⟨y16, c17, h⟩ := q_o1 h
  refine q_muS F (kX3_copyRow l E (a1 5) 4 (a0 5) 4 (s1 5) (y15 5) H.size y16 c17) q_cX3_copyRow q_lX2_84 (q_s_VV_RR_1f5_0f5w E h0 a0 h1 a1 y15 s1 y16) hP hD hS hA hAl ⟨by decide, by decide⟩ rfl ⟨_, hl⟩ (rest := []) rfl (Nat.le_of_ble_eq_true rfl) dX2_copyFrom_89 (fun H locs (hP : va_P (q_D E) vwCl ((q_cV E h0 a0 (q_uc y15 5 y16)) ++ (q_cV E h1 a1 s1)) H) hD hS => ?_)
  obtain ⟨y18, ey18, h⟩ := q_ol h
  rw [← ey18] at hP hD
  refine lv_aload_n hx hb dX2_copyFrom_92 rfl (lv_at hl 1 rfl) ?_
  refine q_get F q_K2 hP 9 rfl 8 (by decide) q_fX2_24 rfl dX2_copyFrom_93 ?_
  refine lv_aload_n hx hb dX2_copyFrom_96 rfl (lv_at hl 0 rfl) ?_
  refine q_get F q_K2 hP 0 rfl 8 (by decide) q_fX2_24 rfl dX2_copyFrom_97 ?_
  obtain ⟨y19, c20, h⟩ := q_o1 h
  refine q_muS F (kX3_copyRow l E (a1 8) 8 (a0 8) 8 (s1 8) (y18 8) H.size y19 c20) q_cX3_copyRow q_lX2_84 (q_s_VV_RR_1f8_0f8w E h0 a0 h1 a1 y18 s1 y19) hP hD hS hA hAl ⟨by decide, by decide⟩ rfl ⟨_, hl⟩ (rest := []) rfl (Nat.le_of_ble_eq_true rfl) dX2_copyFrom_100 (fun H locs (hP : va_P (q_D E) vwCl ((q_cV E h0 a0 (q_uc y18 8 y19)) ++ (q_cV E h1 a1 s1)) H) hD hS => ?_)
  obtain ⟨y21, ey21, h⟩ := q_ol h
  rw [← ey21] at hP hD
  refine lv_aload_n hx hb dX2_copyFrom_103 rfl (lv_at hl 1 rfl) ?_
  refine q_get F q_K2 hP 9 rfl 9 (by decide) q_fX2_27 rfl dX2_copyFrom_104 ?_
  refine lv_aload_n hx hb dX2_copyFrom_107 rfl (lv_at hl 0 rfl) ?_
  refine q_get F q_K2 hP 0 rfl 9 (by decide) q_fX2_27 rfl dX2_copyFrom_108 ?_
  obtain ⟨y22, c23, h⟩ := q_o1 h
  refine q_muS F (kX3_copyRow l E (a1 9) 8 (a0 9) 8 (s1 9) (y21 9) H.size y22 c23) q_cX3_copyRow q_lX2_84 (q_s_VV_RR_1f9_0f9w E h0 a0 h1 a1 y21 s1 y22) hP hD hS hA hAl ⟨by decide, by decide⟩ rfl ⟨_, hl⟩ (rest := []) rfl (Nat.le_of_ble_eq_true rfl) dX2_copyFrom_111 (fun H locs (hP : va_P (q_D E) vwCl ((q_cV E h0 a0 (q_uc y21 9 y22)) ++ (q_cV E h1 a1 s1)) H) hD hS => ?_)
  obtain ⟨y24, ey24, h⟩ := q_ol h
  rw [← ey24] at hP hD
  refine lv_aload_n hx hb dX2_copyFrom_114 rfl (lv_at hl 1 rfl) ?_
  refine q_get F q_K2 hP 9 rfl 12 (by decide) q_fX2_30 rfl dX2_copyFrom_115 ?_
  refine lv_aload_n hx hb dX2_copyFrom_118 rfl (lv_at hl 0 rfl) ?_
  refine q_get F q_K2 hP 0 rfl 12 (by decide) q_fX2_30 rfl dX2_copyFrom_119 ?_
  obtain ⟨y25, c26, h⟩ := q_o1 h
  refine q_muS F (kX3_copyRow l E (a1 12) 6 (a0 12) 6 (s1 12) (y24 12) H.size y25 c26) q_cX3_copyRow q_lX2_84 (q_s_VV_RR_1f12_0f12w E h0 a0 h1 a1 y24 s1 y25) hP hD hS hA hAl ⟨by decide, by decide⟩ rfl ⟨_, hl⟩ (rest := []) rfl (Nat.le_of_ble_eq_true rfl) dX2_copyFrom_122 (fun H locs (hP : va_P (q_D E) vwCl ((q_cV E h0 a0 (q_uc y24 12 y25)) ++ (q_cV E h1 a1 s1)) H) hD hS => ?_)
  obtain ⟨y27, ey27, h⟩ := q_ol h
  rw [← ey27] at hP hD
  refine lv_aload_n hx hb dX2_copyFrom_125 rfl (lv_at hl 1 rfl) ?_
  refine q_get F q_K2 hP 9 rfl 13 (by decide) q_fX2_33 rfl dX2_copyFrom_126 ?_
  refine lv_aload_n hx hb dX2_copyFrom_129 rfl (lv_at hl 0 rfl) ?_
  refine q_get F q_K2 hP 0 rfl 13 (by decide) q_fX2_33 rfl dX2_copyFrom_130 ?_
  obtain ⟨y28, c29, h⟩ := q_o1 h
  refine q_muS F (kX3_copyRow l E (a1 13) 6 (a0 13) 6 (s1 13) (y27 13) H.size y28 c29) q_cX3_copyRow q_lX2_84 (q_s_VV_RR_1f13_0f13w E h0 a0 h1 a1 y27 s1 y28) hP hD hS hA hAl ⟨by decide, by decide⟩ rfl ⟨_, hl⟩ (rest := []) rfl (Nat.le_of_ble_eq_true rfl) dX2_copyFrom_133 (fun H locs (hP : va_P (q_D E) vwCl ((q_cV E h0 a0 (q_uc y27 13 y28)) ++ (q_cV E h1 a1 s1)) H) hD hS => ?_)
  obtain ⟨y30, ey30, h⟩ := q_ol h
  rw [← ey30] at hP hD
  refine lv_aload_n hx hb dX2_copyFrom_136 rfl (lv_at hl 0 rfl) ?_
  refine lv_aload_n hx hb dX2_copyFrom_137 rfl (lv_at hl 1 rfl) ?_
  refine q_get F q_K2 hP 9 rfl 14 (by decide) q_fX2_88 rfl dX2_copyFrom_138 ?_
  obtain ⟨y31, ey31, h⟩ := q_ol h
  refine q_put F q_K2 hP hD hS 0 rfl 14 (by decide) q_fX2_88 rfl rfl rfl (Nat.le_of_ble_eq_true rfl) (by rw [ey31]; rfl) dX2_copyFrom_141 (fun H locs (hP : va_P (q_D E) vwCl ((q_cV E h0 a0 y31) ++ (q_cV E h1 a1 s1)) H) hD hS => ?_)
  cases h
  exact q_wV F hr hlk dX2_copyFrom_144 hP hD hS
def zX2_wouldTake (s0 : q_S) (v1 : Int32) (v2 : Int32) : Option (Int32) := q_b1 (zX2_isEater s0 v1) fun x1 => if x1 = 0 then (some (0 : Int32)) else (q_b1 (zX2_isLoaf s0 v2) fun x4 => if x4 = 0 then (some (0 : Int32)) else (q_b1 (zX2_isAlive s0 v1) fun x7 => if x7 = 0 then (some (0 : Int32)) else (q_b1 (zX2_wasEaten s0 v2) fun x10 => if x10 = 0 then (q_gd (q_ib v1 4) (q_gd (q_ib v1 4) (q_gd (q_ib v2 8) (q_b1 (zX3_stomachs (s0 2 v1.toNatClampNeg) (s0 3 v1.toNatClampNeg) (s0 8 v2.toNatClampNeg)) fun x16 => if x16 = 0 then (some (0 : Int32)) else (some (1 : Int32)))))) else (some (0 : Int32)))))
set_option maxHeartbeats 4000000 in
set_option maxRecDepth 100000 in
theorem kX2_wouldTake (l : Launch) (E : q_E) (h0 : Nat) (a0 : Nat → Nat) (s0 : q_S) (v1 : Int32) (v2 : Int32) (r : Int32) (h : zX2_wouldTake s0 v1 v2 = some r) : q_RO l E yX2_wouldTake cX2_wouldTake 3 (some .boolean) 3 [.ref h0, .int v1, .int v2] (q_cV E h0 a0 s0) (.int r) := by
  refine q_RO.intro (by decide) (Nat.le_of_ble_eq_true rfl) ?_
  intro p e s m args below meth c X hP ls hl
  obtain ⟨hx, hb, hml, hr, hlk, hown, hB, hE⟩ := X
  have hown : s.vm.findClass RX2 = some m.cls := hown
  have F : q_Fx p s m c E RX2 cX2_wouldTake 3 := ⟨hx, hb, hml, hown, hB, hE⟩
  have hV := q_EV.here hE
  have hl : lv_has ls 3 [(0, .ref h0), (1, .int v1), (2, .int v2)] := hl
  unfold zX2_wouldTake at h
  refine lv_aload_n hx hb dX2_wouldTake_0 rfl (lv_at hl 0 rfl) ?_
  refine lv_iload_n hx hb dX2_wouldTake_1 rfl (lv_at hl 1 rfl) ?_
  obtain ⟨x1, c2, h⟩ := q_o1 h
  refine q_roV F (kX2_isEater l E h0 a0 s0 v1 x1 c2) q_cX2_isEater q_lX2_91 hV hP ⟨by decide, by decide⟩ (q0 := 0) rfl rfl rfl rfl ⟨_, hl⟩ (rest := []) rfl (Nat.le_of_ble_eq_true rfl) dX2_wouldTake_2 ?_
  refine lv_if_eq (tgt := 60) hx hb dX2_wouldTake_5 (by decide) (fun c3 => ?_) (fun c3 => ?_)
  · replace h := q_i1 c3 h
    refine lv_iconst (v := 0) hx hb dX2_wouldTake_60 (by decide) ?_
    exact q_rZ F hr hlk (by decide) dX2_wouldTake_61 h
  · replace h := q_i2 c3 h
    refine lv_aload_n hx hb dX2_wouldTake_8 rfl (lv_at hl 0 rfl) ?_
    refine lv_iload_n hx hb dX2_wouldTake_9 rfl (lv_at hl 2 rfl) ?_
    obtain ⟨x4, c5, h⟩ := q_o1 h
    refine q_roV F (kX2_isLoaf l E h0 a0 s0 v2 x4 c5) q_cX2_isLoaf q_lX2_95 hV hP ⟨by decide, by decide⟩ (q0 := 0) rfl rfl rfl rfl ⟨_, hl⟩ (rest := []) rfl (Nat.le_of_ble_eq_true rfl) dX2_wouldTake_10 ?_
    refine lv_if_eq (tgt := 60) hx hb dX2_wouldTake_13 (by decide) (fun c6 => ?_) (fun c6 => ?_)
    · replace h := q_i1 c6 h
      refine lv_iconst (v := 0) hx hb dX2_wouldTake_60 (by decide) ?_
      exact q_rZ F hr hlk (by decide) dX2_wouldTake_61 h
    · replace h := q_i2 c6 h
      refine lv_aload_n hx hb dX2_wouldTake_16 rfl (lv_at hl 0 rfl) ?_
      refine lv_iload_n hx hb dX2_wouldTake_17 rfl (lv_at hl 1 rfl) ?_
      obtain ⟨x7, c8, h⟩ := q_o1 h
      refine q_roV F (kX2_isAlive l E h0 a0 s0 v1 x7 c8) q_cX2_isAlive q_lX2_98 hV hP ⟨by decide, by decide⟩ (q0 := 0) rfl rfl rfl rfl ⟨_, hl⟩ (rest := []) rfl (Nat.le_of_ble_eq_true rfl) dX2_wouldTake_18 ?_
      refine lv_if_eq (tgt := 60) hx hb dX2_wouldTake_21 (by decide) (fun c9 => ?_) (fun c9 => ?_)
      · replace h := q_i1 c9 h
        refine lv_iconst (v := 0) hx hb dX2_wouldTake_60 (by decide) ?_
        exact q_rZ F hr hlk (by decide) dX2_wouldTake_61 h
      · replace h := q_i2 c9 h
        refine lv_aload_n hx hb dX2_wouldTake_24 rfl (lv_at hl 0 rfl) ?_
        refine lv_iload_n hx hb dX2_wouldTake_25 rfl (lv_at hl 2 rfl) ?_
        obtain ⟨x10, c11, h⟩ := q_o1 h
        refine q_roV F (kX2_wasEaten l E h0 a0 s0 v2 x10 c11) q_cX2_wasEaten q_lX2_101 hV hP ⟨by decide, by decide⟩ (q0 := 0) rfl rfl rfl rfl ⟨_, hl⟩ (rest := []) rfl (Nat.le_of_ble_eq_true rfl) dX2_wouldTake_26 ?_
        refine lv_if_ne (tgt := 60) hx hb dX2_wouldTake_29 (by decide) (fun c12 => ?_) (fun c12 => ?_)
        · replace h := q_i2 c12 h
          refine lv_iconst (v := 0) hx hb dX2_wouldTake_60 (by decide) ?_
          exact q_rZ F hr hlk (by decide) dX2_wouldTake_61 h
        · replace h := q_i1 c12 h
          refine lv_aload_n hx hb dX2_wouldTake_32 rfl (lv_at hl 0 rfl) ?_
          refine q_get F q_K2 hP 0 rfl 2 (by decide) q_fX2_9 rfl dX2_wouldTake_33 ?_
          refine lv_iload_n hx hb dX2_wouldTake_36 rfl (lv_at hl 1 rfl) ?_
          obtain ⟨eg13, h⟩ := q_og h
          refine q_iald F hP 1 rfl eg13 dX2_wouldTake_37 ?_
          refine lv_aload_n hx hb dX2_wouldTake_38 rfl (lv_at hl 0 rfl) ?_
          refine q_get F q_K2 hP 0 rfl 3 (by decide) q_fX2_15 rfl dX2_wouldTake_39 ?_
          refine lv_iload_n hx hb dX2_wouldTake_42 rfl (lv_at hl 1 rfl) ?_
          obtain ⟨eg14, h⟩ := q_og h
          refine q_iald F hP 2 rfl eg14 dX2_wouldTake_43 ?_
          refine lv_aload_n hx hb dX2_wouldTake_44 rfl (lv_at hl 0 rfl) ?_
          refine q_get F q_K2 hP 0 rfl 8 (by decide) q_fX2_24 rfl dX2_wouldTake_45 ?_
          refine lv_iload_n hx hb dX2_wouldTake_48 rfl (lv_at hl 2 rfl) ?_
          obtain ⟨eg15, h⟩ := q_og h
          refine q_iald F hP 5 rfl eg15 dX2_wouldTake_49 ?_
          obtain ⟨x16, c17, h⟩ := q_o1 h
          refine q_roS F (kX3_stomachs l E  (s0 2 v1.toNatClampNeg) (s0 3 v1.toNatClampNeg) (s0 8 v2.toNatClampNeg) x16 c17) q_cX3_stomachs q_lX2_104 hV (fun k q h => by simp at h) ⟨by decide, by decide⟩ rfl ⟨_, hl⟩ (rest := []) rfl (Nat.le_of_ble_eq_true rfl) dX2_wouldTake_50 ?_
          refine lv_if_eq (tgt := 60) hx hb dX2_wouldTake_53 (by decide) (fun c18 => ?_) (fun c18 => ?_)
          · replace h := q_i1 c18 h
            refine lv_iconst (v := 0) hx hb dX2_wouldTake_60 (by decide) ?_
            exact q_rZ F hr hlk (by decide) dX2_wouldTake_61 h
          · replace h := q_i2 c18 h
            refine lv_iconst (v := 1) hx hb dX2_wouldTake_56 (by decide) ?_
            refine lv_goto (tgt := 61) hx hb dX2_wouldTake_57 (by decide) ?_
            exact q_rZ F hr hlk (by decide) dX2_wouldTake_61 h
def zX2_takePart (s0 : q_S) (v1 : Int32) (v2 : Int32) (v3 : Int32) : Option (q_S) := q_b1 (zX2_isEater s0 v1) fun x1 => if x1 = 0 then (some s0) else (q_gd (q_ib v1 4) (q_gd (q_ib v1 4) (q_lt (q_u s0 5 v1.toNatClampNeg ((s0 5 v1.toNatClampNeg) + v2)) fun y6 => q_gd (q_ib v1 4) (q_gd (q_ib v1 4) (q_b1 (zX3_carriedBy (y6 2 v1.toNatClampNeg) v3) fun x9 => q_gd (q_ib v1 4) (q_lt (q_u y6 4 v1.toNatClampNeg ((y6 4 v1.toNatClampNeg) + x9)) fun y12 => some y12))))))
set_option maxHeartbeats 4000000 in
set_option maxRecDepth 100000 in
theorem kX2_takePart (l : Launch) (E : q_E) (h0 : Nat) (a0 : Nat → Nat) (s0 : q_S) (v1 : Int32) (v2 : Int32) (v3 : Int32) (sz : Nat) (rs0 : q_S) (h : zX2_takePart s0 v1 v2 v3 = some rs0) : q_MU l E yX2_takePart cX2_takePart 4 none 2 [.ref h0, .int v1, .int v2, .int v3] sz (q_cV E h0 a0 s0) (q_cV E h0 a0 rs0) none := by
  refine q_MU.intro (by decide) (Nat.le_of_ble_eq_true rfl) ?_
  intro p e s m args below meth c A X hP hD hA hAl ls hl
  obtain ⟨hx, hb, hml, hr, hlk, hown, hB, hE⟩ := X
  have hown : s.vm.findClass RX2 = some m.cls := hown
  have F : q_Fx p s m c E RX2 cX2_takePart 4 := ⟨hx, hb, hml, hown, hB, hE⟩
  have hS : va_S A s.heap s.heap [] := va_S.rf
  have hl : lv_has ls 4 [(0, .ref h0), (1, .int v1), (2, .int v2), (3, .int v3)] := hl
  unfold zX2_takePart at h
  refine lv_aload_n hx hb dX2_takePart_0 rfl (lv_at hl 0 rfl) ?_
  refine lv_iload_n hx hb dX2_takePart_1 rfl (lv_at hl 1 rfl) ?_
  obtain ⟨x1, c2, h⟩ := q_o1 h
  refine q_roV F (kX2_isEater l E h0 a0 s0 v1 x1 c2) q_cX2_isEater q_lX2_91 (q_EV.go F.2.2.2.2.2 hAl hS) hP ⟨by decide, by decide⟩ (q0 := 0) rfl rfl rfl rfl ⟨_, hl⟩ (rest := []) rfl (Nat.le_of_ble_eq_true rfl) dX2_takePart_2 ?_
  refine lv_if_eq (tgt := 37) hx hb dX2_takePart_5 (by decide) (fun c3 => ?_) (fun c3 => ?_)
  · replace h := q_i1 c3 h
    cases h
    exact q_wV F hr hlk dX2_takePart_37 hP hD hS
  · replace h := q_i2 c3 h
    refine lv_aload_n hx hb dX2_takePart_8 rfl (lv_at hl 0 rfl) ?_
    refine q_get F q_K2 hP 0 rfl 5 (by decide) q_fX2_21 rfl dX2_takePart_9 ?_
    refine lv_iload_n hx hb dX2_takePart_12 rfl (lv_at hl 1 rfl) ?_
    refine lv_dup2_11 hx hb dX2_takePart_13 rfl rfl ?_
    obtain ⟨eg4, h⟩ := q_og h
    refine q_iald F hP 4 rfl eg4 dX2_takePart_14 ?_
    refine lv_iload_n hx hb dX2_takePart_15 rfl (lv_at hl 2 rfl) ?_
    refine lv_iadd hx hb dX2_takePart_16 ?_
    obtain ⟨eg5, h⟩ := q_og h
    obtain ⟨y6, ey6, h⟩ := q_ol h
    refine q_iast F hP hD hS 4 rfl eg5 (by rw [ey6]; rfl) dX2_takePart_17 (fun H locs (hP : va_P (q_D E) vwCl (q_cV E h0 a0 y6) H) hD hS => ?_)
    refine lv_aload_n hx hb dX2_takePart_18 rfl (lv_at hl 0 rfl) ?_
    refine q_get F q_K2 hP 0 rfl 4 (by decide) q_fX2_18 rfl dX2_takePart_19 ?_
    refine lv_iload_n hx hb dX2_takePart_22 rfl (lv_at hl 1 rfl) ?_
    refine lv_dup2_11 hx hb dX2_takePart_23 rfl rfl ?_
    obtain ⟨eg7, h⟩ := q_og h
    refine q_iald F hP 3 rfl eg7 dX2_takePart_24 ?_
    refine lv_aload_n hx hb dX2_takePart_25 rfl (lv_at hl 0 rfl) ?_
    refine q_get F q_K2 hP 0 rfl 2 (by decide) q_fX2_9 rfl dX2_takePart_26 ?_
    refine lv_iload_n hx hb dX2_takePart_29 rfl (lv_at hl 1 rfl) ?_
    obtain ⟨eg8, h⟩ := q_og h
    refine q_iald F hP 1 rfl eg8 dX2_takePart_30 ?_
    refine lv_iload_n hx hb dX2_takePart_31 rfl (lv_at hl 3 rfl) ?_
    obtain ⟨x9, c10, h⟩ := q_o1 h
    refine q_roS F (kX3_carriedBy l E  (y6 2 v1.toNatClampNeg) v3 x9 c10) q_cX3_carriedBy q_lX2_118 (q_EV.go F.2.2.2.2.2 hAl hS) (fun k q h => by simp at h) ⟨by decide, by decide⟩ rfl ⟨_, hl⟩ (rest := [.int (y6 4 v1.toNatClampNeg), .int v1, .ref (a0 4)]) rfl (Nat.le_of_ble_eq_true rfl) dX2_takePart_32 ?_
    refine lv_iadd hx hb dX2_takePart_35 ?_
    obtain ⟨eg11, h⟩ := q_og h
    obtain ⟨y12, ey12, h⟩ := q_ol h
    refine q_iast F hP hD hS 3 rfl eg11 (by rw [ey12]; rfl) dX2_takePart_36 (fun H locs (hP : va_P (q_D E) vwCl (q_cV E h0 a0 y12) H) hD hS => ?_)
    cases h
    exact q_wV F hr hlk dX2_takePart_37 hP hD hS
def zX2_takeWhole (s0 : q_S) (v1 : Int32) (v2 : Int32) : Option (q_S) := q_b1 (zX2_isEater s0 v1) fun x1 => if x1 = 0 then (some s0) else (q_b1 (zX2_isLoaf s0 v2) fun x4 => if x4 = 0 then (some s0) else (q_gd (q_ib v2 8) (q_gd (q_ib v2 8) (q_gd (q_ib v2 8) (q_b1 (zX2_takePart s0 v1 (s0 8 v2.toNatClampNeg) ((s0 8 v2.toNatClampNeg) + (s0 9 v2.toNatClampNeg))) fun y10 => q_gd (q_ib v1 4) (q_b1 (zX3_lessHungry (y10 3 v1.toNatClampNeg) (2 : Int32)) fun x13 => q_gd (q_ib v1 4) (q_lt (q_u y10 3 v1.toNatClampNeg x13) fun y16 => q_lt (q_u y16 7 0 ((y16 7 0) ||| ((1 : Int32) <<< (v2 &&& 31)))) fun y17 => some y17)))))))
set_option maxHeartbeats 4000000 in
set_option maxRecDepth 100000 in
theorem kX2_takeWhole (l : Launch) (E : q_E) (h0 : Nat) (a0 : Nat → Nat) (s0 : q_S) (v1 : Int32) (v2 : Int32) (sz : Nat) (rs0 : q_S) (h : zX2_takeWhole s0 v1 v2 = some rs0) : q_MU l E yX2_takeWhole cX2_takeWhole 3 none 3 [.ref h0, .int v1, .int v2] sz (q_cV E h0 a0 s0) (q_cV E h0 a0 rs0) none := by
  refine q_MU.intro (by decide) (Nat.le_of_ble_eq_true rfl) ?_
  intro p e s m args below meth c A X hP hD hA hAl ls hl
  obtain ⟨hx, hb, hml, hr, hlk, hown, hB, hE⟩ := X
  have hown : s.vm.findClass RX2 = some m.cls := hown
  have F : q_Fx p s m c E RX2 cX2_takeWhole 3 := ⟨hx, hb, hml, hown, hB, hE⟩
  have hS : va_S A s.heap s.heap [] := va_S.rf
  have hl : lv_has ls 3 [(0, .ref h0), (1, .int v1), (2, .int v2)] := hl
  unfold zX2_takeWhole at h
  refine lv_aload_n hx hb dX2_takeWhole_0 rfl (lv_at hl 0 rfl) ?_
  refine lv_iload_n hx hb dX2_takeWhole_1 rfl (lv_at hl 1 rfl) ?_
  obtain ⟨x1, c2, h⟩ := q_o1 h
  refine q_roV F (kX2_isEater l E h0 a0 s0 v1 x1 c2) q_cX2_isEater q_lX2_91 (q_EV.go F.2.2.2.2.2 hAl hS) hP ⟨by decide, by decide⟩ (q0 := 0) rfl rfl rfl rfl ⟨_, hl⟩ (rest := []) rfl (Nat.le_of_ble_eq_true rfl) dX2_takeWhole_2 ?_
  refine lv_if_eq (tgt := 16) hx hb dX2_takeWhole_5 (by decide) (fun c3 => ?_) (fun c3 => ?_)
  · replace h := q_i1 c3 h
    cases h
    exact q_wV F hr hlk dX2_takeWhole_16 hP hD hS
  · replace h := q_i2 c3 h
    refine lv_aload_n hx hb dX2_takeWhole_8 rfl (lv_at hl 0 rfl) ?_
    refine lv_iload_n hx hb dX2_takeWhole_9 rfl (lv_at hl 2 rfl) ?_
    obtain ⟨x4, c5, h⟩ := q_o1 h
    refine q_roV F (kX2_isLoaf l E h0 a0 s0 v2 x4 c5) q_cX2_isLoaf q_lX2_95 (q_EV.go F.2.2.2.2.2 hAl hS) hP ⟨by decide, by decide⟩ (q0 := 0) rfl rfl rfl rfl ⟨_, hl⟩ (rest := []) rfl (Nat.le_of_ble_eq_true rfl) dX2_takeWhole_10 ?_
    refine lv_if_ne (tgt := 17) hx hb dX2_takeWhole_13 (by decide) (fun c6 => ?_) (fun c6 => ?_)
    · replace h := q_i2 c6 h
      refine lv_aload_n hx hb dX2_takeWhole_17 rfl (lv_at hl 0 rfl) ?_
      refine lv_iload_n hx hb dX2_takeWhole_18 rfl (lv_at hl 1 rfl) ?_
      refine lv_aload_n hx hb dX2_takeWhole_19 rfl (lv_at hl 0 rfl) ?_
      refine q_get F q_K2 hP 0 rfl 8 (by decide) q_fX2_24 rfl dX2_takeWhole_20 ?_
      refine lv_iload_n hx hb dX2_takeWhole_23 rfl (lv_at hl 2 rfl) ?_
      obtain ⟨eg7, h⟩ := q_og h
      refine q_iald F hP 5 rfl eg7 dX2_takeWhole_24 ?_
      refine lv_aload_n hx hb dX2_takeWhole_25 rfl (lv_at hl 0 rfl) ?_
      refine q_get F q_K2 hP 0 rfl 8 (by decide) q_fX2_24 rfl dX2_takeWhole_26 ?_
      refine lv_iload_n hx hb dX2_takeWhole_29 rfl (lv_at hl 2 rfl) ?_
      obtain ⟨eg8, h⟩ := q_og h
      refine q_iald F hP 5 rfl eg8 dX2_takeWhole_30 ?_
      refine lv_aload_n hx hb dX2_takeWhole_31 rfl (lv_at hl 0 rfl) ?_
      refine q_get F q_K2 hP 0 rfl 9 (by decide) q_fX2_27 rfl dX2_takeWhole_32 ?_
      refine lv_iload_n hx hb dX2_takeWhole_35 rfl (lv_at hl 2 rfl) ?_
      obtain ⟨eg9, h⟩ := q_og h
      refine q_iald F hP 6 rfl eg9 dX2_takeWhole_36 ?_
      refine lv_iadd hx hb dX2_takeWhole_37 ?_
      obtain ⟨y10, c11, h⟩ := q_o1 h
      refine q_muV F (kX2_takePart l E h0 a0 s0 v1 (s0 8 v2.toNatClampNeg) ((s0 8 v2.toNatClampNeg) + (s0 9 v2.toNatClampNeg)) s.heap.size y10 c11) q_cX2_takePart q_lX2_108 (q_s_V_V_0w E h0 a0 s0 y10) hP hD hS hA hAl ⟨by decide, by decide⟩ (q0 := 0) rfl rfl rfl rfl ⟨_, hl⟩ (rest := []) rfl (Nat.le_of_ble_eq_true rfl) dX2_takeWhole_38 (fun H locs (hP : va_P (q_D E) vwCl (q_cV E h0 a0 y10) H) hD hS => ?_)
      refine lv_aload_n hx hb dX2_takeWhole_41 rfl (lv_at hl 0 rfl) ?_
      refine q_get F q_K2 hP 0 rfl 3 (by decide) q_fX2_15 rfl dX2_takeWhole_42 ?_
      refine lv_iload_n hx hb dX2_takeWhole_45 rfl (lv_at hl 1 rfl) ?_
      refine lv_aload_n hx hb dX2_takeWhole_46 rfl (lv_at hl 0 rfl) ?_
      refine q_get F q_K2 hP 0 rfl 3 (by decide) q_fX2_15 rfl dX2_takeWhole_47 ?_
      refine lv_iload_n hx hb dX2_takeWhole_50 rfl (lv_at hl 1 rfl) ?_
      obtain ⟨eg12, h⟩ := q_og h
      refine q_iald F hP 2 rfl eg12 dX2_takeWhole_51 ?_
      refine lv_iconst (v := 2) hx hb dX2_takeWhole_52 (by decide) ?_
      obtain ⟨x13, c14, h⟩ := q_o1 h
      refine q_roS F (kX3_lessHungry l E  (y10 3 v1.toNatClampNeg) (2 : Int32) x13 c14) q_cX3_lessHungry q_lX2_112 (q_EV.go F.2.2.2.2.2 hAl hS) (fun k q h => by simp at h) ⟨by decide, by decide⟩ rfl ⟨_, hl⟩ (rest := [.int v1, .ref (a0 3)]) rfl (Nat.le_of_ble_eq_true rfl) dX2_takeWhole_53 ?_
      obtain ⟨eg15, h⟩ := q_og h
      obtain ⟨y16, ey16, h⟩ := q_ol h
      refine q_iast F hP hD hS 2 rfl eg15 (by rw [ey16]; rfl) dX2_takeWhole_56 (fun H locs (hP : va_P (q_D E) vwCl (q_cV E h0 a0 y16) H) hD hS => ?_)
      refine lv_aload_n hx hb dX2_takeWhole_57 rfl (lv_at hl 0 rfl) ?_
      refine lv_dup hx hb dX2_takeWhole_58 rfl ?_
      refine q_get F q_K2 hP 0 rfl 7 (by decide) q_fX2_50 rfl dX2_takeWhole_59 ?_
      refine lv_iconst (v := 1) hx hb dX2_takeWhole_62 (by decide) ?_
      refine lv_iload_n hx hb dX2_takeWhole_63 rfl (lv_at hl 2 rfl) ?_
      refine lv_ishl hx hb dX2_takeWhole_64 ?_
      refine lv_ior hx hb dX2_takeWhole_65 ?_
      obtain ⟨y17, ey17, h⟩ := q_ol h
      refine q_put F q_K2 hP hD hS 0 rfl 7 (by decide) q_fX2_50 rfl rfl rfl (Nat.le_of_ble_eq_true rfl) (by rw [ey17]; rfl) dX2_takeWhole_66 (fun H locs (hP : va_P (q_D E) vwCl (q_cV E h0 a0 y17) H) hD hS => ?_)
      cases h
      exact q_wV F hr hlk dX2_takeWhole_69 hP hD hS
    · replace h := q_i1 c6 h
      cases h
      exact q_wV F hr hlk dX2_takeWhole_16 hP hD hS
def zX2_takeHalves (s0 : q_S) (v1 : Int32) (v2 : Int32) (v3 : Int32) : Option (q_S) := q_b1 (zX2_isEater s0 v1) fun x1 => if x1 = 0 then (some s0) else (q_b1 (zX2_isEater s0 v2) fun x4 => if x4 = 0 then (some s0) else (q_b1 (zX2_isLoaf s0 v3) fun x7 => if x7 = 0 then (some s0) else (q_gd (q_ib v3 8) (q_gd (q_ib v3 8) (q_lt ((s0 8 v3.toNatClampNeg) + (s0 9 v3.toNatClampNeg)) fun x12 => q_gd (q_ib v3 8) (q_b1 (zX3_roundedUpHalf (s0 8 v3.toNatClampNeg)) fun x14 => q_b1 (zX3_roundedUpHalf x12) fun x16 => q_b1 (zX2_takePart s0 v1 x14 x16) fun y18 => q_gd (q_ib v3 8) (q_b1 (zX2_takePart y18 v2 ((y18 8 v3.toNatClampNeg) - x14) (x12 - x16)) fun y21 => q_gd (q_ib v1 4) (q_b1 (zX3_lessHungry (y21 3 v1.toNatClampNeg) (1 : Int32)) fun x24 => q_gd (q_ib v1 4) (q_lt (q_u y21 3 v1.toNatClampNeg x24) fun y27 => q_gd (q_ib v2 4) (q_b1 (zX3_lessHungry (y27 3 v2.toNatClampNeg) (1 : Int32)) fun x29 => q_gd (q_ib v2 4) (q_lt (q_u y27 3 v2.toNatClampNeg x29) fun y32 => q_lt (q_u y32 7 0 ((y32 7 0) ||| ((1 : Int32) <<< (v3 &&& 31)))) fun y33 => some y33)))))))))))
set_option maxHeartbeats 4000000 in
set_option maxRecDepth 100000 in
theorem kX2_takeHalves (l : Launch) (E : q_E) (h0 : Nat) (a0 : Nat → Nat) (s0 : q_S) (v1 : Int32) (v2 : Int32) (v3 : Int32) (sz : Nat) (rs0 : q_S) (h : zX2_takeHalves s0 v1 v2 v3 = some rs0) : q_MU l E yX2_takeHalves cX2_takeHalves 7 none 3 [.ref h0, .int v1, .int v2, .int v3] sz (q_cV E h0 a0 s0) (q_cV E h0 a0 rs0) none := by
  refine q_MU.intro (by decide) (Nat.le_of_ble_eq_true rfl) ?_
  intro p e s m args below meth c A X hP hD hA hAl ls hl
  obtain ⟨hx, hb, hml, hr, hlk, hown, hB, hE⟩ := X
  have hown : s.vm.findClass RX2 = some m.cls := hown
  have F : q_Fx p s m c E RX2 cX2_takeHalves 7 := ⟨hx, hb, hml, hown, hB, hE⟩
  have hS : va_S A s.heap s.heap [] := va_S.rf
  have hl : lv_has ls 7 [(0, .ref h0), (1, .int v1), (2, .int v2), (3, .int v3)] := hl
  unfold zX2_takeHalves at h
  refine lv_aload_n hx hb dX2_takeHalves_0 rfl (lv_at hl 0 rfl) ?_
  refine lv_iload_n hx hb dX2_takeHalves_1 rfl (lv_at hl 1 rfl) ?_
  obtain ⟨x1, c2, h⟩ := q_o1 h
  refine q_roV F (kX2_isEater l E h0 a0 s0 v1 x1 c2) q_cX2_isEater q_lX2_91 (q_EV.go F.2.2.2.2.2 hAl hS) hP ⟨by decide, by decide⟩ (q0 := 0) rfl rfl rfl rfl ⟨_, hl⟩ (rest := []) rfl (Nat.le_of_ble_eq_true rfl) dX2_takeHalves_2 ?_
  refine lv_if_eq (tgt := 24) hx hb dX2_takeHalves_5 (by decide) (fun c3 => ?_) (fun c3 => ?_)
  · replace h := q_i1 c3 h
    cases h
    exact q_wV F hr hlk dX2_takeHalves_24 hP hD hS
  · replace h := q_i2 c3 h
    refine lv_aload_n hx hb dX2_takeHalves_8 rfl (lv_at hl 0 rfl) ?_
    refine lv_iload_n hx hb dX2_takeHalves_9 rfl (lv_at hl 2 rfl) ?_
    obtain ⟨x4, c5, h⟩ := q_o1 h
    refine q_roV F (kX2_isEater l E h0 a0 s0 v2 x4 c5) q_cX2_isEater q_lX2_91 (q_EV.go F.2.2.2.2.2 hAl hS) hP ⟨by decide, by decide⟩ (q0 := 0) rfl rfl rfl rfl ⟨_, hl⟩ (rest := []) rfl (Nat.le_of_ble_eq_true rfl) dX2_takeHalves_10 ?_
    refine lv_if_eq (tgt := 24) hx hb dX2_takeHalves_13 (by decide) (fun c6 => ?_) (fun c6 => ?_)
    · replace h := q_i1 c6 h
      cases h
      exact q_wV F hr hlk dX2_takeHalves_24 hP hD hS
    · replace h := q_i2 c6 h
      refine lv_aload_n hx hb dX2_takeHalves_16 rfl (lv_at hl 0 rfl) ?_
      refine lv_iload_n hx hb dX2_takeHalves_17 rfl (lv_at hl 3 rfl) ?_
      obtain ⟨x7, c8, h⟩ := q_o1 h
      refine q_roV F (kX2_isLoaf l E h0 a0 s0 v3 x7 c8) q_cX2_isLoaf q_lX2_95 (q_EV.go F.2.2.2.2.2 hAl hS) hP ⟨by decide, by decide⟩ (q0 := 0) rfl rfl rfl rfl ⟨_, hl⟩ (rest := []) rfl (Nat.le_of_ble_eq_true rfl) dX2_takeHalves_18 ?_
      refine lv_if_ne (tgt := 25) hx hb dX2_takeHalves_21 (by decide) (fun c9 => ?_) (fun c9 => ?_)
      · replace h := q_i2 c9 h
        refine lv_aload_n hx hb dX2_takeHalves_25 rfl (lv_at hl 0 rfl) ?_
        refine q_get F q_K2 hP 0 rfl 8 (by decide) q_fX2_24 rfl dX2_takeHalves_26 ?_
        refine lv_iload_n hx hb dX2_takeHalves_29 rfl (lv_at hl 3 rfl) ?_
        obtain ⟨eg10, h⟩ := q_og h
        refine q_iald F hP 5 rfl eg10 dX2_takeHalves_30 ?_
        refine lv_aload_n hx hb dX2_takeHalves_31 rfl (lv_at hl 0 rfl) ?_
        refine q_get F q_K2 hP 0 rfl 9 (by decide) q_fX2_27 rfl dX2_takeHalves_32 ?_
        refine lv_iload_n hx hb dX2_takeHalves_35 rfl (lv_at hl 3 rfl) ?_
        obtain ⟨eg11, h⟩ := q_og h
        refine q_iald F hP 6 rfl eg11 dX2_takeHalves_36 ?_
        refine lv_iadd hx hb dX2_takeHalves_37 ?_
        obtain ⟨x12, ex12, h⟩ := q_ol h
        refine q_top ex12 ?_
        refine lv_istore (lv' := [(4, .int x12), (0, .ref h0), (1, .int v1), (2, .int v2), (3, .int v3)]) hx hb dX2_takeHalves_38 hl (by decide) rfl (fun ls hl => ?_)
        refine lv_aload_n hx hb dX2_takeHalves_40 rfl (lv_at hl 1 rfl) ?_
        refine q_get F q_K2 hP 0 rfl 8 (by decide) q_fX2_24 rfl dX2_takeHalves_41 ?_
        refine lv_iload_n hx hb dX2_takeHalves_44 rfl (lv_at hl 4 rfl) ?_
        obtain ⟨eg13, h⟩ := q_og h
        refine q_iald F hP 5 rfl eg13 dX2_takeHalves_45 ?_
        obtain ⟨x14, c15, h⟩ := q_o1 h
        refine q_roS F (kX3_roundedUpHalf l E  (s0 8 v3.toNatClampNeg) x14 c15) q_cX3_roundedUpHalf q_lX2_115 (q_EV.go F.2.2.2.2.2 hAl hS) (fun k q h => by simp at h) ⟨by decide, by decide⟩ rfl ⟨_, hl⟩ (rest := []) rfl (Nat.le_of_ble_eq_true rfl) dX2_takeHalves_46 ?_
        refine lv_istore (lv' := [(5, .int x14), (4, .int x12), (0, .ref h0), (1, .int v1), (2, .int v2), (3, .int v3)]) hx hb dX2_takeHalves_49 hl (by decide) rfl (fun ls hl => ?_)
        refine lv_iload hx hb dX2_takeHalves_51 (lv_at hl 1 rfl) ?_
        obtain ⟨x16, c17, h⟩ := q_o1 h
        refine q_roS F (kX3_roundedUpHalf l E  x12 x16 c17) q_cX3_roundedUpHalf q_lX2_115 (q_EV.go F.2.2.2.2.2 hAl hS) (fun k q h => by simp at h) ⟨by decide, by decide⟩ rfl ⟨_, hl⟩ (rest := []) rfl (Nat.le_of_ble_eq_true rfl) dX2_takeHalves_53 ?_
        refine lv_istore (lv' := [(6, .int x16), (5, .int x14), (4, .int x12), (0, .ref h0), (1, .int v1), (2, .int v2), (3, .int v3)]) hx hb dX2_takeHalves_56 hl (by decide) rfl (fun ls hl => ?_)
        refine lv_aload_n hx hb dX2_takeHalves_58 rfl (lv_at hl 3 rfl) ?_
        refine lv_iload_n hx hb dX2_takeHalves_59 rfl (lv_at hl 4 rfl) ?_
        refine lv_iload hx hb dX2_takeHalves_60 (lv_at hl 1 rfl) ?_
        refine lv_iload hx hb dX2_takeHalves_62 (lv_at hl 0 rfl) ?_
        obtain ⟨y18, c19, h⟩ := q_o1 h
        refine q_muV F (kX2_takePart l E h0 a0 s0 v1 x14 x16 s.heap.size y18 c19) q_cX2_takePart q_lX2_108 (q_s_V_V_0w E h0 a0 s0 y18) hP hD hS hA hAl ⟨by decide, by decide⟩ (q0 := 0) rfl rfl rfl rfl ⟨_, hl⟩ (rest := []) rfl (Nat.le_of_ble_eq_true rfl) dX2_takeHalves_64 (fun H locs (hP : va_P (q_D E) vwCl (q_cV E h0 a0 y18) H) hD hS => ?_)
        refine lv_aload_n hx hb dX2_takeHalves_67 rfl (lv_at hl 3 rfl) ?_
        refine lv_iload_n hx hb dX2_takeHalves_68 rfl (lv_at hl 5 rfl) ?_
        refine lv_aload_n hx hb dX2_takeHalves_69 rfl (lv_at hl 3 rfl) ?_
        refine q_get F q_K2 hP 0 rfl 8 (by decide) q_fX2_24 rfl dX2_takeHalves_70 ?_
        refine lv_iload_n hx hb dX2_takeHalves_73 rfl (lv_at hl 6 rfl) ?_
        obtain ⟨eg20, h⟩ := q_og h
        refine q_iald F hP 5 rfl eg20 dX2_takeHalves_74 ?_
        refine lv_iload hx hb dX2_takeHalves_75 (lv_at hl 1 rfl) ?_
        refine lv_isub hx hb dX2_takeHalves_77 ?_
        refine lv_iload hx hb dX2_takeHalves_78 (lv_at hl 2 rfl) ?_
        refine lv_iload hx hb dX2_takeHalves_80 (lv_at hl 0 rfl) ?_
        refine lv_isub hx hb dX2_takeHalves_82 ?_
        obtain ⟨y21, c22, h⟩ := q_o1 h
        refine q_muV F (kX2_takePart l E h0 a0 y18 v2 ((y18 8 v3.toNatClampNeg) - x14) (x12 - x16) H.size y21 c22) q_cX2_takePart q_lX2_108 (q_s_V_V_0w E h0 a0 y18 y21) hP hD hS hA hAl ⟨by decide, by decide⟩ (q0 := 0) rfl rfl rfl rfl ⟨_, hl⟩ (rest := []) rfl (Nat.le_of_ble_eq_true rfl) dX2_takeHalves_83 (fun H locs (hP : va_P (q_D E) vwCl (q_cV E h0 a0 y21) H) hD hS => ?_)
        refine lv_aload_n hx hb dX2_takeHalves_86 rfl (lv_at hl 3 rfl) ?_
        refine q_get F q_K2 hP 0 rfl 3 (by decide) q_fX2_15 rfl dX2_takeHalves_87 ?_
        refine lv_iload_n hx hb dX2_takeHalves_90 rfl (lv_at hl 4 rfl) ?_
        refine lv_aload_n hx hb dX2_takeHalves_91 rfl (lv_at hl 3 rfl) ?_
        refine q_get F q_K2 hP 0 rfl 3 (by decide) q_fX2_15 rfl dX2_takeHalves_92 ?_
        refine lv_iload_n hx hb dX2_takeHalves_95 rfl (lv_at hl 4 rfl) ?_
        obtain ⟨eg23, h⟩ := q_og h
        refine q_iald F hP 2 rfl eg23 dX2_takeHalves_96 ?_
        refine lv_iconst (v := 1) hx hb dX2_takeHalves_97 (by decide) ?_
        obtain ⟨x24, c25, h⟩ := q_o1 h
        refine q_roS F (kX3_lessHungry l E  (y21 3 v1.toNatClampNeg) (1 : Int32) x24 c25) q_cX3_lessHungry q_lX2_112 (q_EV.go F.2.2.2.2.2 hAl hS) (fun k q h => by simp at h) ⟨by decide, by decide⟩ rfl ⟨_, hl⟩ (rest := [.int v1, .ref (a0 3)]) rfl (Nat.le_of_ble_eq_true rfl) dX2_takeHalves_98 ?_
        obtain ⟨eg26, h⟩ := q_og h
        obtain ⟨y27, ey27, h⟩ := q_ol h
        refine q_iast F hP hD hS 2 rfl eg26 (by rw [ey27]; rfl) dX2_takeHalves_101 (fun H locs (hP : va_P (q_D E) vwCl (q_cV E h0 a0 y27) H) hD hS => ?_)
        refine lv_aload_n hx hb dX2_takeHalves_102 rfl (lv_at hl 3 rfl) ?_
        refine q_get F q_K2 hP 0 rfl 3 (by decide) q_fX2_15 rfl dX2_takeHalves_103 ?_
        refine lv_iload_n hx hb dX2_takeHalves_106 rfl (lv_at hl 5 rfl) ?_
        refine lv_aload_n hx hb dX2_takeHalves_107 rfl (lv_at hl 3 rfl) ?_
        refine q_get F q_K2 hP 0 rfl 3 (by decide) q_fX2_15 rfl dX2_takeHalves_108 ?_
        refine lv_iload_n hx hb dX2_takeHalves_111 rfl (lv_at hl 5 rfl) ?_
        obtain ⟨eg28, h⟩ := q_og h
        refine q_iald F hP 2 rfl eg28 dX2_takeHalves_112 ?_
        refine lv_iconst (v := 1) hx hb dX2_takeHalves_113 (by decide) ?_
        obtain ⟨x29, c30, h⟩ := q_o1 h
        refine q_roS F (kX3_lessHungry l E  (y27 3 v2.toNatClampNeg) (1 : Int32) x29 c30) q_cX3_lessHungry q_lX2_112 (q_EV.go F.2.2.2.2.2 hAl hS) (fun k q h => by simp at h) ⟨by decide, by decide⟩ rfl ⟨_, hl⟩ (rest := [.int v2, .ref (a0 3)]) rfl (Nat.le_of_ble_eq_true rfl) dX2_takeHalves_114 ?_
        obtain ⟨eg31, h⟩ := q_og h
        obtain ⟨y32, ey32, h⟩ := q_ol h
        refine q_iast F hP hD hS 2 rfl eg31 (by rw [ey32]; rfl) dX2_takeHalves_117 (fun H locs (hP : va_P (q_D E) vwCl (q_cV E h0 a0 y32) H) hD hS => ?_)
        refine lv_aload_n hx hb dX2_takeHalves_118 rfl (lv_at hl 3 rfl) ?_
        refine lv_dup hx hb dX2_takeHalves_119 rfl ?_
        refine q_get F q_K2 hP 0 rfl 7 (by decide) q_fX2_50 rfl dX2_takeHalves_120 ?_
        refine lv_iconst (v := 1) hx hb dX2_takeHalves_123 (by decide) ?_
        refine lv_iload_n hx hb dX2_takeHalves_124 rfl (lv_at hl 6 rfl) ?_
        refine lv_ishl hx hb dX2_takeHalves_125 ?_
        refine lv_ior hx hb dX2_takeHalves_126 ?_
        obtain ⟨y33, ey33, h⟩ := q_ol h
        refine q_put F q_K2 hP hD hS 0 rfl 7 (by decide) q_fX2_50 rfl rfl rfl (Nat.le_of_ble_eq_true rfl) (by rw [ey33]; rfl) dX2_takeHalves_127 (fun H locs (hP : va_P (q_D E) vwCl (q_cV E h0 a0 y33) H) hD hS => ?_)
        cases h
        exact q_wV F hr hlk dX2_takeHalves_130 hP hD hS
      · replace h := q_i1 c9 h
        cases h
        exact q_wV F hr hlk dX2_takeHalves_24 hP hD hS
def zX2_giveBack (s0 : q_S) (v1 : Int32) (v2 : Int32) (v3 : Int32) : Option (q_S) := q_b1 (zX2_isEater s0 v1) fun x1 => if x1 = 0 then (some s0) else (q_b1 (zX2_isLoaf s0 v2) fun x4 => if x4 = 0 then (some s0) else (q_gd (q_ib v1 4) (q_gd (q_ib v2 8) (q_gd (q_ib v1 4) (q_lt (q_u s0 5 v1.toNatClampNeg ((s0 5 v1.toNatClampNeg) - (s0 8 v2.toNatClampNeg))) fun y10 => q_gd (q_ib v1 4) (q_gd (q_ib v1 4) (q_gd (q_ib v2 8) (q_gd (q_ib v2 8) (q_b1 (zX3_carriedBy (y10 2 v1.toNatClampNeg) ((y10 8 v2.toNatClampNeg) + (y10 9 v2.toNatClampNeg))) fun x15 => q_gd (q_ib v1 4) (q_lt (q_u y10 4 v1.toNatClampNeg ((y10 4 v1.toNatClampNeg) - x15)) fun y18 => q_gd (q_ib v1 4) (q_lt (q_u y18 3 v1.toNatClampNeg v3) fun y20 => q_lt (q_u y20 7 0 ((y20 7 0) &&& (((1 : Int32) <<< (v2 &&& 31)) ^^^ (-1 : Int32)))) fun y21 => some y21)))))))))))
set_option maxHeartbeats 4000000 in
set_option maxRecDepth 100000 in
theorem kX2_giveBack (l : Launch) (E : q_E) (h0 : Nat) (a0 : Nat → Nat) (s0 : q_S) (v1 : Int32) (v2 : Int32) (v3 : Int32) (sz : Nat) (rs0 : q_S) (h : zX2_giveBack s0 v1 v2 v3 = some rs0) : q_MU l E yX2_giveBack cX2_giveBack 4 none 2 [.ref h0, .int v1, .int v2, .int v3] sz (q_cV E h0 a0 s0) (q_cV E h0 a0 rs0) none := by
  refine q_MU.intro (by decide) (Nat.le_of_ble_eq_true rfl) ?_
  intro p e s m args below meth c A X hP hD hA hAl ls hl
  obtain ⟨hx, hb, hml, hr, hlk, hown, hB, hE⟩ := X
  have hown : s.vm.findClass RX2 = some m.cls := hown
  have F : q_Fx p s m c E RX2 cX2_giveBack 4 := ⟨hx, hb, hml, hown, hB, hE⟩
  have hS : va_S A s.heap s.heap [] := va_S.rf
  have hl : lv_has ls 4 [(0, .ref h0), (1, .int v1), (2, .int v2), (3, .int v3)] := hl
  unfold zX2_giveBack at h
  refine lv_aload_n hx hb dX2_giveBack_0 rfl (lv_at hl 0 rfl) ?_
  refine lv_iload_n hx hb dX2_giveBack_1 rfl (lv_at hl 1 rfl) ?_
  obtain ⟨x1, c2, h⟩ := q_o1 h
  refine q_roV F (kX2_isEater l E h0 a0 s0 v1 x1 c2) q_cX2_isEater q_lX2_91 (q_EV.go F.2.2.2.2.2 hAl hS) hP ⟨by decide, by decide⟩ (q0 := 0) rfl rfl rfl rfl ⟨_, hl⟩ (rest := []) rfl (Nat.le_of_ble_eq_true rfl) dX2_giveBack_2 ?_
  refine lv_if_eq (tgt := 16) hx hb dX2_giveBack_5 (by decide) (fun c3 => ?_) (fun c3 => ?_)
  · replace h := q_i1 c3 h
    cases h
    exact q_wV F hr hlk dX2_giveBack_16 hP hD hS
  · replace h := q_i2 c3 h
    refine lv_aload_n hx hb dX2_giveBack_8 rfl (lv_at hl 0 rfl) ?_
    refine lv_iload_n hx hb dX2_giveBack_9 rfl (lv_at hl 2 rfl) ?_
    obtain ⟨x4, c5, h⟩ := q_o1 h
    refine q_roV F (kX2_isLoaf l E h0 a0 s0 v2 x4 c5) q_cX2_isLoaf q_lX2_95 (q_EV.go F.2.2.2.2.2 hAl hS) hP ⟨by decide, by decide⟩ (q0 := 0) rfl rfl rfl rfl ⟨_, hl⟩ (rest := []) rfl (Nat.le_of_ble_eq_true rfl) dX2_giveBack_10 ?_
    refine lv_if_ne (tgt := 17) hx hb dX2_giveBack_13 (by decide) (fun c6 => ?_) (fun c6 => ?_)
    · replace h := q_i2 c6 h
      refine lv_aload_n hx hb dX2_giveBack_17 rfl (lv_at hl 0 rfl) ?_
      refine q_get F q_K2 hP 0 rfl 5 (by decide) q_fX2_21 rfl dX2_giveBack_18 ?_
      refine lv_iload_n hx hb dX2_giveBack_21 rfl (lv_at hl 1 rfl) ?_
      refine lv_dup2_11 hx hb dX2_giveBack_22 rfl rfl ?_
      obtain ⟨eg7, h⟩ := q_og h
      refine q_iald F hP 4 rfl eg7 dX2_giveBack_23 ?_
      refine lv_aload_n hx hb dX2_giveBack_24 rfl (lv_at hl 0 rfl) ?_
      refine q_get F q_K2 hP 0 rfl 8 (by decide) q_fX2_24 rfl dX2_giveBack_25 ?_
      refine lv_iload_n hx hb dX2_giveBack_28 rfl (lv_at hl 2 rfl) ?_
      obtain ⟨eg8, h⟩ := q_og h
      refine q_iald F hP 5 rfl eg8 dX2_giveBack_29 ?_
      refine lv_isub hx hb dX2_giveBack_30 ?_
      obtain ⟨eg9, h⟩ := q_og h
      obtain ⟨y10, ey10, h⟩ := q_ol h
      refine q_iast F hP hD hS 4 rfl eg9 (by rw [ey10]; rfl) dX2_giveBack_31 (fun H locs (hP : va_P (q_D E) vwCl (q_cV E h0 a0 y10) H) hD hS => ?_)
      refine lv_aload_n hx hb dX2_giveBack_32 rfl (lv_at hl 0 rfl) ?_
      refine q_get F q_K2 hP 0 rfl 4 (by decide) q_fX2_18 rfl dX2_giveBack_33 ?_
      refine lv_iload_n hx hb dX2_giveBack_36 rfl (lv_at hl 1 rfl) ?_
      refine lv_dup2_11 hx hb dX2_giveBack_37 rfl rfl ?_
      obtain ⟨eg11, h⟩ := q_og h
      refine q_iald F hP 3 rfl eg11 dX2_giveBack_38 ?_
      refine lv_aload_n hx hb dX2_giveBack_39 rfl (lv_at hl 0 rfl) ?_
      refine q_get F q_K2 hP 0 rfl 2 (by decide) q_fX2_9 rfl dX2_giveBack_40 ?_
      refine lv_iload_n hx hb dX2_giveBack_43 rfl (lv_at hl 1 rfl) ?_
      obtain ⟨eg12, h⟩ := q_og h
      refine q_iald F hP 1 rfl eg12 dX2_giveBack_44 ?_
      refine lv_aload_n hx hb dX2_giveBack_45 rfl (lv_at hl 0 rfl) ?_
      refine q_get F q_K2 hP 0 rfl 8 (by decide) q_fX2_24 rfl dX2_giveBack_46 ?_
      refine lv_iload_n hx hb dX2_giveBack_49 rfl (lv_at hl 2 rfl) ?_
      obtain ⟨eg13, h⟩ := q_og h
      refine q_iald F hP 5 rfl eg13 dX2_giveBack_50 ?_
      refine lv_aload_n hx hb dX2_giveBack_51 rfl (lv_at hl 0 rfl) ?_
      refine q_get F q_K2 hP 0 rfl 9 (by decide) q_fX2_27 rfl dX2_giveBack_52 ?_
      refine lv_iload_n hx hb dX2_giveBack_55 rfl (lv_at hl 2 rfl) ?_
      obtain ⟨eg14, h⟩ := q_og h
      refine q_iald F hP 6 rfl eg14 dX2_giveBack_56 ?_
      refine lv_iadd hx hb dX2_giveBack_57 ?_
      obtain ⟨x15, c16, h⟩ := q_o1 h
      refine q_roS F (kX3_carriedBy l E  (y10 2 v1.toNatClampNeg) ((y10 8 v2.toNatClampNeg) + (y10 9 v2.toNatClampNeg)) x15 c16) q_cX3_carriedBy q_lX2_118 (q_EV.go F.2.2.2.2.2 hAl hS) (fun k q h => by simp at h) ⟨by decide, by decide⟩ rfl ⟨_, hl⟩ (rest := [.int (y10 4 v1.toNatClampNeg), .int v1, .ref (a0 4)]) rfl (Nat.le_of_ble_eq_true rfl) dX2_giveBack_58 ?_
      refine lv_isub hx hb dX2_giveBack_61 ?_
      obtain ⟨eg17, h⟩ := q_og h
      obtain ⟨y18, ey18, h⟩ := q_ol h
      refine q_iast F hP hD hS 3 rfl eg17 (by rw [ey18]; rfl) dX2_giveBack_62 (fun H locs (hP : va_P (q_D E) vwCl (q_cV E h0 a0 y18) H) hD hS => ?_)
      refine lv_aload_n hx hb dX2_giveBack_63 rfl (lv_at hl 0 rfl) ?_
      refine q_get F q_K2 hP 0 rfl 3 (by decide) q_fX2_15 rfl dX2_giveBack_64 ?_
      refine lv_iload_n hx hb dX2_giveBack_67 rfl (lv_at hl 1 rfl) ?_
      refine lv_iload_n hx hb dX2_giveBack_68 rfl (lv_at hl 3 rfl) ?_
      obtain ⟨eg19, h⟩ := q_og h
      obtain ⟨y20, ey20, h⟩ := q_ol h
      refine q_iast F hP hD hS 2 rfl eg19 (by rw [ey20]; rfl) dX2_giveBack_69 (fun H locs (hP : va_P (q_D E) vwCl (q_cV E h0 a0 y20) H) hD hS => ?_)
      refine lv_aload_n hx hb dX2_giveBack_70 rfl (lv_at hl 0 rfl) ?_
      refine lv_dup hx hb dX2_giveBack_71 rfl ?_
      refine q_get F q_K2 hP 0 rfl 7 (by decide) q_fX2_50 rfl dX2_giveBack_72 ?_
      refine lv_iconst (v := 1) hx hb dX2_giveBack_75 (by decide) ?_
      refine lv_iload_n hx hb dX2_giveBack_76 rfl (lv_at hl 2 rfl) ?_
      refine lv_ishl hx hb dX2_giveBack_77 ?_
      refine lv_iconst (v := (-1)) hx hb dX2_giveBack_78 (by decide) ?_
      refine lv_ixor hx hb dX2_giveBack_79 ?_
      refine lv_iand hx hb dX2_giveBack_80 ?_
      obtain ⟨y21, ey21, h⟩ := q_ol h
      refine q_put F q_K2 hP hD hS 0 rfl 7 (by decide) q_fX2_50 rfl rfl rfl (Nat.le_of_ble_eq_true rfl) (by rw [ey21]; rfl) dX2_giveBack_81 (fun H locs (hP : va_P (q_D E) vwCl (q_cV E h0 a0 y21) H) hD hS => ?_)
      cases h
      exact q_wV F hr hlk dX2_giveBack_84 hP hD hS
    · replace h := q_i1 c6 h
      cases h
      exact q_wV F hr hlk dX2_giveBack_16 hP hD hS
def jX2_passWinter_2 (k2 : q_S → Int32 → Option (q_S)) (s0 : q_S) (v1 : Int32) : Option (q_S) := if (4 : Int32) ≤ v1 then (q_lt (q_u s0 10 0 ((s0 10 0) + (1 : Int32))) fun y2 => some y2) else (q_b1 (zX2_isEater s0 v1) fun x3 => if x3 = 0 then (q_lt (v1 + 1) fun x6 => k2 s0 x6) else (q_b1 (zX2_isAlive s0 v1) fun x7 => if x7 = 0 then (q_lt (v1 + 1) fun x10 => k2 s0 x10) else (q_gd (q_ib v1 4) (q_gd (q_ib v1 4) (q_lt (q_u s0 3 v1.toNatClampNeg (if (9 : Int32) < ((s0 3 v1.toNatClampNeg) + (3 : Int32)) then (9 : Int32) else ((s0 3 v1.toNatClampNeg) + (3 : Int32)))) fun y13 => q_gd (q_ib v1 4) (if (y13 2 v1.toNatClampNeg) = (4 : Int32) then (q_gd (q_ib v1 4) (q_lt (q_u y13 4 v1.toNatClampNeg (0 : Int32)) fun y18 => q_lt (v1 + 1) fun x19 => k2 y18 x19)) else (q_lt (v1 + 1) fun x16 => k2 y13 x16)))))))
def zX2_passWinter_2  : Nat → q_S → Int32 → Option (q_S)
  | 0, _, _ => none
  | n + 1, s0, v1 => jX2_passWinter_2  (zX2_passWinter_2  n) s0 v1
theorem zX2_passWinter_2_s  (n : Nat) (s0 : q_S) (v1 : Int32) : zX2_passWinter_2  (n + 1) s0 v1 = jX2_passWinter_2  (zX2_passWinter_2  n) s0 v1 := rfl
def zX2_passWinter (s0 : q_S) : Option (q_S) := zX2_passWinter_2  70000 s0 (0 : Int32)
set_option maxHeartbeats 4000000 in
set_option maxRecDepth 100000 in
theorem kX2_passWinter (l : Launch) (E : q_E) (h0 : Nat) (a0 : Nat → Nat) (s0 : q_S)  (sz : Nat) (rs0 : q_S) (h : zX2_passWinter s0 = some rs0) : q_MU l E yX2_passWinter cX2_passWinter 2 none 3 [.ref h0] sz (q_cV E h0 a0 s0) (q_cV E h0 a0 rs0) none := by
  refine q_MU.intro (by decide) (Nat.le_of_ble_eq_true rfl) ?_
  intro p e s m args below meth c A X hP hD hA hAl ls hl
  obtain ⟨hx, hb, hml, hr, hlk, hown, hB, hE⟩ := X
  have hown : s.vm.findClass RX2 = some m.cls := hown
  have F : q_Fx p s m c E RX2 cX2_passWinter 2 := ⟨hx, hb, hml, hown, hB, hE⟩
  have hS : va_S A s.heap s.heap [] := va_S.rf
  have hl : lv_has ls 2 [(0, .ref h0)] := hl
  have K2 : ∀ (n2_ : Nat), ∀ (v1 : Int32) (s0 : q_S), ∀ (H : Heap) (locs : List Loc), va_P (q_D E) vwCl (q_cV E h0 a0 s0) H → va_D A (q_cV E h0 a0 s0) → va_S A s.heap H locs → ∀ ls : Array Slot, lv_has ls 2 [(0, .ref h0), (1, .int v1)] → zX2_passWinter_2  n2_ s0 v1 = some rs0 → W p l e (q_rm 3) s m args below meth c H locs 0 0 (MQ below (q_muQ E A (q_cV E h0 a0 rs0) none) args s 0 0 A) (F0 m 2 ls []) := by
    intro n2_
    induction n2_ with
    | zero => intro v1 s0 H locs hP hD hS ls hl h; exact q_nn h
    | succ n2_ ih2 =>
      intro v1 s0 H locs hP hD hS ls hl h
      rw [zX2_passWinter_2_s] at h
      unfold jX2_passWinter_2 at h
      refine lv_iload_n hx hb dX2_passWinter_2 rfl (lv_at hl 1 rfl) ?_
      refine lv_iconst (v := 4) hx hb dX2_passWinter_3 (by decide) ?_
      refine lv_icmp_ge (tgt := 65) hx hb dX2_passWinter_4 (by decide) (fun c1 => ?_) (fun c1 => ?_)
      · replace h := q_i1 c1 h
        refine lv_aload_n hx hb dX2_passWinter_65 rfl (lv_at hl 0 rfl) ?_
        refine lv_dup hx hb dX2_passWinter_66 rfl ?_
        refine q_get F q_K2 hP 0 rfl 10 (by decide) q_fX2_68 rfl dX2_passWinter_67 ?_
        refine lv_iconst (v := 1) hx hb dX2_passWinter_70 (by decide) ?_
        refine lv_iadd hx hb dX2_passWinter_71 ?_
        obtain ⟨y2, ey2, h⟩ := q_ol h
        refine q_put F q_K2 hP hD hS 0 rfl 10 (by decide) q_fX2_68 rfl rfl rfl (Nat.le_of_ble_eq_true rfl) (by rw [ey2]; rfl) dX2_passWinter_72 (fun H locs (hP : va_P (q_D E) vwCl (q_cV E h0 a0 y2) H) hD hS => ?_)
        cases h
        exact q_wV F hr hlk dX2_passWinter_75 hP hD hS
      · replace h := q_i2 c1 h
        refine lv_aload_n hx hb dX2_passWinter_7 rfl (lv_at hl 0 rfl) ?_
        refine lv_iload_n hx hb dX2_passWinter_8 rfl (lv_at hl 1 rfl) ?_
        obtain ⟨x3, c4, h⟩ := q_o1 h
        refine q_roV F (kX2_isEater l E h0 a0 s0 v1 x3 c4) q_cX2_isEater q_lX2_91 (q_EV.go F.2.2.2.2.2 hAl hS) hP ⟨by decide, by decide⟩ (q0 := 0) rfl rfl rfl rfl ⟨_, hl⟩ (rest := []) rfl (Nat.le_of_ble_eq_true rfl) dX2_passWinter_9 ?_
        refine lv_if_eq (tgt := 59) hx hb dX2_passWinter_12 (by decide) (fun c5 => ?_) (fun c5 => ?_)
        · replace h := q_i1 c5 h
          obtain ⟨x6, ex6, h⟩ := q_ol h
          refine lv_iinc (v := x6) (lv' := [(1, .int x6), (0, .ref h0)]) hx hb dX2_passWinter_59 hl (k := 1) rfl (by rw [ex6]; rfl) (by decide) rfl (fun ls hl => ?_)
          refine lv_goto (tgt := 2) hx hb dX2_passWinter_62 (by decide) ?_
          exact ih2 x6 s0 H _ hP hD hS ls (lv_sub hl [1, 0] rfl) h
        · replace h := q_i2 c5 h
          refine lv_aload_n hx hb dX2_passWinter_15 rfl (lv_at hl 0 rfl) ?_
          refine lv_iload_n hx hb dX2_passWinter_16 rfl (lv_at hl 1 rfl) ?_
          obtain ⟨x7, c8, h⟩ := q_o1 h
          refine q_roV F (kX2_isAlive l E h0 a0 s0 v1 x7 c8) q_cX2_isAlive q_lX2_98 (q_EV.go F.2.2.2.2.2 hAl hS) hP ⟨by decide, by decide⟩ (q0 := 0) rfl rfl rfl rfl ⟨_, hl⟩ (rest := []) rfl (Nat.le_of_ble_eq_true rfl) dX2_passWinter_17 ?_
          refine lv_if_eq (tgt := 59) hx hb dX2_passWinter_20 (by decide) (fun c9 => ?_) (fun c9 => ?_)
          · replace h := q_i1 c9 h
            obtain ⟨x10, ex10, h⟩ := q_ol h
            refine lv_iinc (v := x10) (lv' := [(1, .int x10), (0, .ref h0)]) hx hb dX2_passWinter_59 hl (k := 1) rfl (by rw [ex10]; rfl) (by decide) rfl (fun ls hl => ?_)
            refine lv_goto (tgt := 2) hx hb dX2_passWinter_62 (by decide) ?_
            exact ih2 x10 s0 H _ hP hD hS ls (lv_sub hl [1, 0] rfl) h
          · replace h := q_i2 c9 h
            refine lv_aload_n hx hb dX2_passWinter_23 rfl (lv_at hl 0 rfl) ?_
            refine q_get F q_K2 hP 0 rfl 3 (by decide) q_fX2_15 rfl dX2_passWinter_24 ?_
            refine lv_iload_n hx hb dX2_passWinter_27 rfl (lv_at hl 1 rfl) ?_
            refine lv_aload_n hx hb dX2_passWinter_28 rfl (lv_at hl 0 rfl) ?_
            refine q_get F q_K2 hP 0 rfl 3 (by decide) q_fX2_15 rfl dX2_passWinter_29 ?_
            refine lv_iload_n hx hb dX2_passWinter_32 rfl (lv_at hl 1 rfl) ?_
            obtain ⟨eg11, h⟩ := q_og h
            refine q_iald F hP 2 rfl eg11 dX2_passWinter_33 ?_
            refine lv_iconst (v := 3) hx hb dX2_passWinter_34 (by decide) ?_
            refine lv_iadd hx hb dX2_passWinter_35 ?_
            refine lv_bipush (v := 9) hx hb dX2_passWinter_36 (by decide) ?_
            refine q_min F q_mX2_59 (by decide) ⟨_, hl⟩ (Nat.le_of_ble_eq_true rfl) dX2_passWinter_38 ?_
            obtain ⟨eg12, h⟩ := q_og h
            obtain ⟨y13, ey13, h⟩ := q_ol h
            refine q_iast F hP hD hS 2 rfl eg12 (by rw [ey13]; rfl) dX2_passWinter_41 (fun H locs (hP : va_P (q_D E) vwCl (q_cV E h0 a0 y13) H) hD hS => ?_)
            refine lv_aload_n hx hb dX2_passWinter_42 rfl (lv_at hl 0 rfl) ?_
            refine q_get F q_K2 hP 0 rfl 2 (by decide) q_fX2_9 rfl dX2_passWinter_43 ?_
            refine lv_iload_n hx hb dX2_passWinter_46 rfl (lv_at hl 1 rfl) ?_
            obtain ⟨eg14, h⟩ := q_og h
            refine q_iald F hP 1 rfl eg14 dX2_passWinter_47 ?_
            refine lv_iconst (v := 4) hx hb dX2_passWinter_48 (by decide) ?_
            refine lv_icmp_ne (tgt := 59) hx hb dX2_passWinter_49 (by decide) (fun c15 => ?_) (fun c15 => ?_)
            · replace h := q_i2 c15 h
              obtain ⟨x16, ex16, h⟩ := q_ol h
              refine lv_iinc (v := x16) (lv' := [(1, .int x16), (0, .ref h0)]) hx hb dX2_passWinter_59 hl (k := 1) rfl (by rw [ex16]; rfl) (by decide) rfl (fun ls hl => ?_)
              refine lv_goto (tgt := 2) hx hb dX2_passWinter_62 (by decide) ?_
              exact ih2 x16 y13 H _ hP hD hS ls (lv_sub hl [1, 0] rfl) h
            · replace h := q_i1 c15 h
              refine lv_aload_n hx hb dX2_passWinter_52 rfl (lv_at hl 0 rfl) ?_
              refine q_get F q_K2 hP 0 rfl 4 (by decide) q_fX2_18 rfl dX2_passWinter_53 ?_
              refine lv_iload_n hx hb dX2_passWinter_56 rfl (lv_at hl 1 rfl) ?_
              refine lv_iconst (v := 0) hx hb dX2_passWinter_57 (by decide) ?_
              obtain ⟨eg17, h⟩ := q_og h
              obtain ⟨y18, ey18, h⟩ := q_ol h
              refine q_iast F hP hD hS 3 rfl eg17 (by rw [ey18]; rfl) dX2_passWinter_58 (fun H locs (hP : va_P (q_D E) vwCl (q_cV E h0 a0 y18) H) hD hS => ?_)
              obtain ⟨x19, ex19, h⟩ := q_ol h
              refine lv_iinc (v := x19) (lv' := [(1, .int x19), (0, .ref h0)]) hx hb dX2_passWinter_59 hl (k := 1) rfl (by rw [ex19]; rfl) (by decide) rfl (fun ls hl => ?_)
              refine lv_goto (tgt := 2) hx hb dX2_passWinter_62 (by decide) ?_
              exact ih2 x19 y18 H _ hP hD hS ls (lv_sub hl [1, 0] rfl) h
  unfold zX2_passWinter at h
  refine lv_iconst (v := 0) hx hb dX2_passWinter_0 (by decide) ?_
  refine lv_istore_n (lv' := [(1, .int (0 : Int32)), (0, .ref h0)]) hx hb dX2_passWinter_1 rfl hl (by decide) rfl (fun ls hl => ?_)
  exact K2 70000 (0 : Int32) s0 _ _ hP hD hS ls (lv_sub hl [1, 0] rfl) h
def zX2_makeLoafOf (s0 : q_S) (v1 : Int32) : Option (Int32 × q_S) := q_lt (s0 6 0) fun x1 => q_b1 (zX2_isEater s0 v1) fun x2 => if x2 = 0 then (some ((-1 : Int32), s0)) else (if x1 < 0 then (some ((-1 : Int32), s0)) else (if x1 < (8 : Int32) then (q_gd (q_ib v1 4) (q_gd (q_ib x1 8) (q_lt (q_u s0 8 x1.toNatClampNeg (if (9 : Int32) < (s0 4 v1.toNatClampNeg) then (9 : Int32) else (s0 4 v1.toNatClampNeg))) fun y9 => q_gd (q_ib v1 4) (q_gd (q_ib x1 8) (q_gd (q_ib x1 8) (q_lt (q_u y9 9 x1.toNatClampNeg ((y9 4 v1.toNatClampNeg) - (y9 8 x1.toNatClampNeg))) fun y13 => q_lt (q_u y13 6 0 ((y13 6 0) + (1 : Int32))) fun y14 => q_gd (q_ib v1 4) (q_lt (q_u y14 4 v1.toNatClampNeg (0 : Int32)) fun y16 => q_lt (q_u y16 1 0 ((y16 1 0) &&& (((1 : Int32) <<< (v1 &&& 31)) ^^^ (-1 : Int32)))) fun y17 => some (x1, y17)))))))) else (some ((-1 : Int32), s0))))
set_option maxHeartbeats 4000000 in
set_option maxRecDepth 100000 in
theorem kX2_makeLoafOf (l : Launch) (E : q_E) (h0 : Nat) (a0 : Nat → Nat) (s0 : q_S) (v1 : Int32) (sz : Nat) (r : Int32) (rs0 : q_S) (h : zX2_makeLoafOf s0 v1 = some (r, rs0)) : q_MU l E yX2_makeLoafOf cX2_makeLoafOf 3 (some .int) 2 [.ref h0, .int v1] sz (q_cV E h0 a0 s0) (q_cV E h0 a0 rs0) (some (.int r)) := by
  refine q_MU.intro (by decide) (Nat.le_of_ble_eq_true rfl) ?_
  intro p e s m args below meth c A X hP hD hA hAl ls hl
  obtain ⟨hx, hb, hml, hr, hlk, hown, hB, hE⟩ := X
  have hown : s.vm.findClass RX2 = some m.cls := hown
  have F : q_Fx p s m c E RX2 cX2_makeLoafOf 3 := ⟨hx, hb, hml, hown, hB, hE⟩
  have hS : va_S A s.heap s.heap [] := va_S.rf
  have hl : lv_has ls 3 [(0, .ref h0), (1, .int v1)] := hl
  unfold zX2_makeLoafOf at h
  refine lv_aload_n hx hb dX2_makeLoafOf_0 rfl (lv_at hl 0 rfl) ?_
  refine q_get F q_K2 hP 0 rfl 6 (by decide) q_fX2_40 rfl dX2_makeLoafOf_1 ?_
  obtain ⟨x1, ex1, h⟩ := q_ol h
  refine q_top ex1 ?_
  refine lv_istore_n (lv' := [(2, .int x1), (0, .ref h0), (1, .int v1)]) hx hb dX2_makeLoafOf_4 rfl hl (by decide) rfl (fun ls hl => ?_)
  refine lv_aload_n hx hb dX2_makeLoafOf_5 rfl (lv_at hl 1 rfl) ?_
  refine lv_iload_n hx hb dX2_makeLoafOf_6 rfl (lv_at hl 2 rfl) ?_
  obtain ⟨x2, c3, h⟩ := q_o1 h
  refine q_roV F (kX2_isEater l E h0 a0 s0 v1 x2 c3) q_cX2_isEater q_lX2_91 (q_EV.go F.2.2.2.2.2 hAl hS) hP ⟨by decide, by decide⟩ (q0 := 0) rfl rfl rfl rfl ⟨_, hl⟩ (rest := []) rfl (Nat.le_of_ble_eq_true rfl) dX2_makeLoafOf_7 ?_
  refine lv_if_eq (tgt := 23) hx hb dX2_makeLoafOf_10 (by decide) (fun c4 => ?_) (fun c4 => ?_)
  · replace h := q_i1 c4 h
    refine lv_iconst (v := (-1)) hx hb dX2_makeLoafOf_23 (by decide) ?_
    cases h
    exact q_wI F hr hlk dX2_makeLoafOf_24 hP hD hS
  · replace h := q_i2 c4 h
    refine lv_iload_n hx hb dX2_makeLoafOf_13 rfl (lv_at hl 0 rfl) ?_
    refine lv_if_lt (tgt := 23) hx hb dX2_makeLoafOf_14 (by decide) (fun c5 => ?_) (fun c5 => ?_)
    · replace h := q_i1 c5 h
      refine lv_iconst (v := (-1)) hx hb dX2_makeLoafOf_23 (by decide) ?_
      cases h
      exact q_wI F hr hlk dX2_makeLoafOf_24 hP hD hS
    · replace h := q_i2 c5 h
      refine lv_iload_n hx hb dX2_makeLoafOf_17 rfl (lv_at hl 0 rfl) ?_
      refine lv_bipush (v := 8) hx hb dX2_makeLoafOf_18 (by decide) ?_
      refine lv_icmp_lt (tgt := 25) hx hb dX2_makeLoafOf_20 (by decide) (fun c6 => ?_) (fun c6 => ?_)
      · replace h := q_i1 c6 h
        refine lv_aload_n hx hb dX2_makeLoafOf_25 rfl (lv_at hl 1 rfl) ?_
        refine q_get F q_K2 hP 0 rfl 8 (by decide) q_fX2_24 rfl dX2_makeLoafOf_26 ?_
        refine lv_iload_n hx hb dX2_makeLoafOf_29 rfl (lv_at hl 0 rfl) ?_
        refine lv_aload_n hx hb dX2_makeLoafOf_30 rfl (lv_at hl 1 rfl) ?_
        refine q_get F q_K2 hP 0 rfl 4 (by decide) q_fX2_18 rfl dX2_makeLoafOf_31 ?_
        refine lv_iload_n hx hb dX2_makeLoafOf_34 rfl (lv_at hl 2 rfl) ?_
        obtain ⟨eg7, h⟩ := q_og h
        refine q_iald F hP 3 rfl eg7 dX2_makeLoafOf_35 ?_
        refine lv_bipush (v := 9) hx hb dX2_makeLoafOf_36 (by decide) ?_
        refine q_min F q_mX2_59 (by decide) ⟨_, hl⟩ (Nat.le_of_ble_eq_true rfl) dX2_makeLoafOf_38 ?_
        obtain ⟨eg8, h⟩ := q_og h
        obtain ⟨y9, ey9, h⟩ := q_ol h
        refine q_iast F hP hD hS 5 rfl eg8 (by rw [ey9]; rfl) dX2_makeLoafOf_41 (fun H locs (hP : va_P (q_D E) vwCl (q_cV E h0 a0 y9) H) hD hS => ?_)
        refine lv_aload_n hx hb dX2_makeLoafOf_42 rfl (lv_at hl 1 rfl) ?_
        refine q_get F q_K2 hP 0 rfl 9 (by decide) q_fX2_27 rfl dX2_makeLoafOf_43 ?_
        refine lv_iload_n hx hb dX2_makeLoafOf_46 rfl (lv_at hl 0 rfl) ?_
        refine lv_aload_n hx hb dX2_makeLoafOf_47 rfl (lv_at hl 1 rfl) ?_
        refine q_get F q_K2 hP 0 rfl 4 (by decide) q_fX2_18 rfl dX2_makeLoafOf_48 ?_
        refine lv_iload_n hx hb dX2_makeLoafOf_51 rfl (lv_at hl 2 rfl) ?_
        obtain ⟨eg10, h⟩ := q_og h
        refine q_iald F hP 3 rfl eg10 dX2_makeLoafOf_52 ?_
        refine lv_aload_n hx hb dX2_makeLoafOf_53 rfl (lv_at hl 1 rfl) ?_
        refine q_get F q_K2 hP 0 rfl 8 (by decide) q_fX2_24 rfl dX2_makeLoafOf_54 ?_
        refine lv_iload_n hx hb dX2_makeLoafOf_57 rfl (lv_at hl 0 rfl) ?_
        obtain ⟨eg11, h⟩ := q_og h
        refine q_iald F hP 5 rfl eg11 dX2_makeLoafOf_58 ?_
        refine lv_isub hx hb dX2_makeLoafOf_59 ?_
        obtain ⟨eg12, h⟩ := q_og h
        obtain ⟨y13, ey13, h⟩ := q_ol h
        refine q_iast F hP hD hS 6 rfl eg12 (by rw [ey13]; rfl) dX2_makeLoafOf_60 (fun H locs (hP : va_P (q_D E) vwCl (q_cV E h0 a0 y13) H) hD hS => ?_)
        refine lv_aload_n hx hb dX2_makeLoafOf_61 rfl (lv_at hl 1 rfl) ?_
        refine lv_dup hx hb dX2_makeLoafOf_62 rfl ?_
        refine q_get F q_K2 hP 0 rfl 6 (by decide) q_fX2_40 rfl dX2_makeLoafOf_63 ?_
        refine lv_iconst (v := 1) hx hb dX2_makeLoafOf_66 (by decide) ?_
        refine lv_iadd hx hb dX2_makeLoafOf_67 ?_
        obtain ⟨y14, ey14, h⟩ := q_ol h
        refine q_put F q_K2 hP hD hS 0 rfl 6 (by decide) q_fX2_40 rfl rfl rfl (Nat.le_of_ble_eq_true rfl) (by rw [ey14]; rfl) dX2_makeLoafOf_68 (fun H locs (hP : va_P (q_D E) vwCl (q_cV E h0 a0 y14) H) hD hS => ?_)
        refine lv_aload_n hx hb dX2_makeLoafOf_71 rfl (lv_at hl 1 rfl) ?_
        refine q_get F q_K2 hP 0 rfl 4 (by decide) q_fX2_18 rfl dX2_makeLoafOf_72 ?_
        refine lv_iload_n hx hb dX2_makeLoafOf_75 rfl (lv_at hl 2 rfl) ?_
        refine lv_iconst (v := 0) hx hb dX2_makeLoafOf_76 (by decide) ?_
        obtain ⟨eg15, h⟩ := q_og h
        obtain ⟨y16, ey16, h⟩ := q_ol h
        refine q_iast F hP hD hS 3 rfl eg15 (by rw [ey16]; rfl) dX2_makeLoafOf_77 (fun H locs (hP : va_P (q_D E) vwCl (q_cV E h0 a0 y16) H) hD hS => ?_)
        refine lv_aload_n hx hb dX2_makeLoafOf_78 rfl (lv_at hl 1 rfl) ?_
        refine lv_dup hx hb dX2_makeLoafOf_79 rfl ?_
        refine q_get F q_K2 hP 0 rfl 1 (by decide) q_fX2_43 rfl dX2_makeLoafOf_80 ?_
        refine lv_iconst (v := 1) hx hb dX2_makeLoafOf_83 (by decide) ?_
        refine lv_iload_n hx hb dX2_makeLoafOf_84 rfl (lv_at hl 2 rfl) ?_
        refine lv_ishl hx hb dX2_makeLoafOf_85 ?_
        refine lv_iconst (v := (-1)) hx hb dX2_makeLoafOf_86 (by decide) ?_
        refine lv_ixor hx hb dX2_makeLoafOf_87 ?_
        refine lv_iand hx hb dX2_makeLoafOf_88 ?_
        obtain ⟨y17, ey17, h⟩ := q_ol h
        refine q_put F q_K2 hP hD hS 0 rfl 1 (by decide) q_fX2_43 rfl rfl rfl (Nat.le_of_ble_eq_true rfl) (by rw [ey17]; rfl) dX2_makeLoafOf_89 (fun H locs (hP : va_P (q_D E) vwCl (q_cV E h0 a0 y17) H) hD hS => ?_)
        refine lv_iload_n hx hb dX2_makeLoafOf_92 rfl (lv_at hl 0 rfl) ?_
        cases h
        exact q_wI F hr hlk dX2_makeLoafOf_93 hP hD hS
      · replace h := q_i2 c6 h
        refine lv_iconst (v := (-1)) hx hb dX2_makeLoafOf_23 (by decide) ?_
        cases h
        exact q_wI F hr hlk dX2_makeLoafOf_24 hP hD hS
def jX2_takenNow_4 (s0 : q_S) (v1 : Int32) (k4 : Int32 → Int32 → Option (Int32)) (v2 : Int32) (v3 : Int32) : Option (Int32) := if (8 : Int32) ≤ v3 then (some v2) else (q_b1 (zX2_wouldTake s0 v1 v3) fun x2 => if x2 = 0 then (q_lt (v3 + 1) fun x5 => k4 v2 x5) else (q_lt (v2 ||| ((1 : Int32) <<< (v3 &&& 31))) fun x6 => q_lt (v3 + 1) fun x7 => k4 x6 x7))
def zX2_takenNow_4 (s0 : q_S) (v1 : Int32) : Nat → Int32 → Int32 → Option (Int32)
  | 0, _, _ => none
  | n + 1, v2, v3 => jX2_takenNow_4 s0 v1 (zX2_takenNow_4 s0 v1 n) v2 v3
theorem zX2_takenNow_4_s (s0 : q_S) (v1 : Int32) (n : Nat) (v2 : Int32) (v3 : Int32) : zX2_takenNow_4 s0 v1 (n + 1) v2 v3 = jX2_takenNow_4 s0 v1 (zX2_takenNow_4 s0 v1 n) v2 v3 := rfl
def zX2_takenNow (s0 : q_S) (v1 : Int32) : Option (Int32) := zX2_takenNow_4 s0 v1 70000 (0 : Int32) (0 : Int32)
set_option maxHeartbeats 4000000 in
set_option maxRecDepth 100000 in
theorem kX2_takenNow (l : Launch) (E : q_E) (h0 : Nat) (a0 : Nat → Nat) (s0 : q_S) (v1 : Int32) (r : Int32) (h : zX2_takenNow s0 v1 = some r) : q_RO l E yX2_takenNow cX2_takenNow 4 (some .int) 4 [.ref h0, .int v1] (q_cV E h0 a0 s0) (.int r) := by
  refine q_RO.intro (by decide) (Nat.le_of_ble_eq_true rfl) ?_
  intro p e s m args below meth c X hP ls hl
  obtain ⟨hx, hb, hml, hr, hlk, hown, hB, hE⟩ := X
  have hown : s.vm.findClass RX2 = some m.cls := hown
  have F : q_Fx p s m c E RX2 cX2_takenNow 4 := ⟨hx, hb, hml, hown, hB, hE⟩
  have hV := q_EV.here hE
  have hl : lv_has ls 4 [(0, .ref h0), (1, .int v1)] := hl
  have K4 : ∀ (n4_ : Nat), ∀ (v1 : Int32) (v2 : Int32) (v3 : Int32), ∀ ls : Array Slot, lv_has ls 4 [(0, .ref h0), (1, .int v1), (2, .int v2), (3, .int v3)] → zX2_takenNow_4 s0 v1 n4_ v2 v3 = some r → W p l e (q_rm 4) s m args below meth c s.heap [] 0 0 (MQ below (q_roQ (.int r)) args s 0 0 q_no) (F0 m 4 ls []) := by
    intro n4_
    induction n4_ with
    | zero => intro v1 v2 v3 ls hl h; exact q_nn h
    | succ n4_ ih4 =>
      intro v1 v2 v3 ls hl h
      rw [zX2_takenNow_4_s] at h
      unfold jX2_takenNow_4 at h
      refine lv_iload_n hx hb dX2_takenNow_4 rfl (lv_at hl 3 rfl) ?_
      refine lv_bipush (v := 8) hx hb dX2_takenNow_5 (by decide) ?_
      refine lv_icmp_ge (tgt := 31) hx hb dX2_takenNow_7 (by decide) (fun c1 => ?_) (fun c1 => ?_)
      · replace h := q_i1 c1 h
        refine lv_iload_n hx hb dX2_takenNow_31 rfl (lv_at hl 2 rfl) ?_
        exact q_rI F hr hlk dX2_takenNow_32 h
      · replace h := q_i2 c1 h
        refine lv_aload_n hx hb dX2_takenNow_10 rfl (lv_at hl 0 rfl) ?_
        refine lv_iload_n hx hb dX2_takenNow_11 rfl (lv_at hl 1 rfl) ?_
        refine lv_iload_n hx hb dX2_takenNow_12 rfl (lv_at hl 3 rfl) ?_
        obtain ⟨x2, c3, h⟩ := q_o1 h
        refine q_roV F (kX2_wouldTake l E h0 a0 s0 v1 v3 x2 c3) q_cX2_wouldTake q_lX2_121 hV hP ⟨by decide, by decide⟩ (q0 := 0) rfl rfl rfl rfl ⟨_, hl⟩ (rest := []) rfl (Nat.le_of_ble_eq_true rfl) dX2_takenNow_13 ?_
        refine lv_if_eq (tgt := 25) hx hb dX2_takenNow_16 (by decide) (fun c4 => ?_) (fun c4 => ?_)
        · replace h := q_i1 c4 h
          obtain ⟨x5, ex5, h⟩ := q_ol h
          refine lv_iinc (v := x5) (lv' := [(3, .int x5), (0, .ref h0), (1, .int v1), (2, .int v2)]) hx hb dX2_takenNow_25 hl (k := 3) rfl (by rw [ex5]; rfl) (by decide) rfl (fun ls hl => ?_)
          refine lv_goto (tgt := 4) hx hb dX2_takenNow_28 (by decide) ?_
          exact ih4 v1 v2 x5 ls (lv_sub hl [1, 2, 3, 0] rfl) h
        · replace h := q_i2 c4 h
          refine lv_iload_n hx hb dX2_takenNow_19 rfl (lv_at hl 2 rfl) ?_
          refine lv_iconst (v := 1) hx hb dX2_takenNow_20 (by decide) ?_
          refine lv_iload_n hx hb dX2_takenNow_21 rfl (lv_at hl 3 rfl) ?_
          refine lv_ishl hx hb dX2_takenNow_22 ?_
          refine lv_ior hx hb dX2_takenNow_23 ?_
          obtain ⟨x6, ex6, h⟩ := q_ol h
          refine q_top ex6 ?_
          refine lv_istore_n (lv' := [(2, .int x6), (0, .ref h0), (1, .int v1), (3, .int v3)]) hx hb dX2_takenNow_24 rfl hl (by decide) rfl (fun ls hl => ?_)
          obtain ⟨x7, ex7, h⟩ := q_ol h
          refine lv_iinc (v := x7) (lv' := [(3, .int x7), (2, .int x6), (0, .ref h0), (1, .int v1)]) hx hb dX2_takenNow_25 hl (k := 3) rfl (by rw [ex7]; rfl) (by decide) rfl (fun ls hl => ?_)
          refine lv_goto (tgt := 4) hx hb dX2_takenNow_28 (by decide) ?_
          exact ih4 v1 x6 x7 ls (lv_sub hl [2, 3, 1, 0] rfl) h
  unfold zX2_takenNow at h
  refine lv_iconst (v := 0) hx hb dX2_takenNow_0 (by decide) ?_
  refine lv_istore_n (lv' := [(2, .int (0 : Int32)), (0, .ref h0), (1, .int v1)]) hx hb dX2_takenNow_1 rfl hl (by decide) rfl (fun ls hl => ?_)
  refine lv_iconst (v := 0) hx hb dX2_takenNow_2 (by decide) ?_
  refine lv_istore_n (lv' := [(3, .int (0 : Int32)), (2, .int (0 : Int32)), (0, .ref h0), (1, .int v1)]) hx hb dX2_takenNow_3 rfl hl (by decide) rfl (fun ls hl => ?_)
  exact K4 70000 v1 (0 : Int32) (0 : Int32) ls (lv_sub hl [2, 3, 1, 0] rfl) h
def jX2_deedsOf_4 (s0 : q_S) (v1 : Int32) (k4 : Int32 → Int32 → Option (Int32)) (v2 : Int32) (v3 : Int32) : Option (Int32) := if (8 : Int32) ≤ v3 then (some v2) else (q_b1 (zX2_isLoaf s0 v3) fun x2 => if x2 = 0 then (q_lt (v3 + 1) fun x5 => k4 v2 x5) else (q_b1 (zX3_hasBit v1 v3) fun x6 => if x6 = 0 then (q_lt (v3 + 1) fun x9 => k4 v2 x9) else (q_gd (q_ib v3 8) (q_lt (v2 + (s0 8 v3.toNatClampNeg)) fun x11 => q_lt (v3 + 1) fun x12 => k4 x11 x12))))
def zX2_deedsOf_4 (s0 : q_S) (v1 : Int32) : Nat → Int32 → Int32 → Option (Int32)
  | 0, _, _ => none
  | n + 1, v2, v3 => jX2_deedsOf_4 s0 v1 (zX2_deedsOf_4 s0 v1 n) v2 v3
theorem zX2_deedsOf_4_s (s0 : q_S) (v1 : Int32) (n : Nat) (v2 : Int32) (v3 : Int32) : zX2_deedsOf_4 s0 v1 (n + 1) v2 v3 = jX2_deedsOf_4 s0 v1 (zX2_deedsOf_4 s0 v1 n) v2 v3 := rfl
def zX2_deedsOf (s0 : q_S) (v1 : Int32) : Option (Int32) := zX2_deedsOf_4 s0 v1 70000 (0 : Int32) (0 : Int32)
set_option maxHeartbeats 4000000 in
set_option maxRecDepth 100000 in
theorem kX2_deedsOf (l : Launch) (E : q_E) (h0 : Nat) (a0 : Nat → Nat) (s0 : q_S) (v1 : Int32) (r : Int32) (h : zX2_deedsOf s0 v1 = some r) : q_RO l E yX2_deedsOf cX2_deedsOf 4 (some .int) 2 [.ref h0, .int v1] (q_cV E h0 a0 s0) (.int r) := by
  refine q_RO.intro (by decide) (Nat.le_of_ble_eq_true rfl) ?_
  intro p e s m args below meth c X hP ls hl
  obtain ⟨hx, hb, hml, hr, hlk, hown, hB, hE⟩ := X
  have hown : s.vm.findClass RX2 = some m.cls := hown
  have F : q_Fx p s m c E RX2 cX2_deedsOf 4 := ⟨hx, hb, hml, hown, hB, hE⟩
  have hV := q_EV.here hE
  have hl : lv_has ls 4 [(0, .ref h0), (1, .int v1)] := hl
  have K4 : ∀ (n4_ : Nat), ∀ (v1 : Int32) (v2 : Int32) (v3 : Int32), ∀ ls : Array Slot, lv_has ls 4 [(0, .ref h0), (1, .int v1), (2, .int v2), (3, .int v3)] → zX2_deedsOf_4 s0 v1 n4_ v2 v3 = some r → W p l e (q_rm 2) s m args below meth c s.heap [] 0 0 (MQ below (q_roQ (.int r)) args s 0 0 q_no) (F0 m 4 ls []) := by
    intro n4_
    induction n4_ with
    | zero => intro v1 v2 v3 ls hl h; exact q_nn h
    | succ n4_ ih4 =>
      intro v1 v2 v3 ls hl h
      rw [zX2_deedsOf_4_s] at h
      unfold jX2_deedsOf_4 at h
      refine lv_iload_n hx hb dX2_deedsOf_4 rfl (lv_at hl 3 rfl) ?_
      refine lv_bipush (v := 8) hx hb dX2_deedsOf_5 (by decide) ?_
      refine lv_icmp_ge (tgt := 41) hx hb dX2_deedsOf_7 (by decide) (fun c1 => ?_) (fun c1 => ?_)
      · replace h := q_i1 c1 h
        refine lv_iload_n hx hb dX2_deedsOf_41 rfl (lv_at hl 2 rfl) ?_
        exact q_rI F hr hlk dX2_deedsOf_42 h
      · replace h := q_i2 c1 h
        refine lv_aload_n hx hb dX2_deedsOf_10 rfl (lv_at hl 0 rfl) ?_
        refine lv_iload_n hx hb dX2_deedsOf_11 rfl (lv_at hl 3 rfl) ?_
        obtain ⟨x2, c3, h⟩ := q_o1 h
        refine q_roV F (kX2_isLoaf l E h0 a0 s0 v3 x2 c3) q_cX2_isLoaf q_lX2_95 hV hP ⟨by decide, by decide⟩ (q0 := 0) rfl rfl rfl rfl ⟨_, hl⟩ (rest := []) rfl (Nat.le_of_ble_eq_true rfl) dX2_deedsOf_12 ?_
        refine lv_if_eq (tgt := 35) hx hb dX2_deedsOf_15 (by decide) (fun c4 => ?_) (fun c4 => ?_)
        · replace h := q_i1 c4 h
          obtain ⟨x5, ex5, h⟩ := q_ol h
          refine lv_iinc (v := x5) (lv' := [(3, .int x5), (0, .ref h0), (1, .int v1), (2, .int v2)]) hx hb dX2_deedsOf_35 hl (k := 3) rfl (by rw [ex5]; rfl) (by decide) rfl (fun ls hl => ?_)
          refine lv_goto (tgt := 4) hx hb dX2_deedsOf_38 (by decide) ?_
          exact ih4 v1 v2 x5 ls (lv_sub hl [1, 2, 3, 0] rfl) h
        · replace h := q_i2 c4 h
          refine lv_iload_n hx hb dX2_deedsOf_18 rfl (lv_at hl 1 rfl) ?_
          refine lv_iload_n hx hb dX2_deedsOf_19 rfl (lv_at hl 3 rfl) ?_
          obtain ⟨x6, c7, h⟩ := q_o1 h
          refine q_roS F (kX3_hasBit l E  v1 v3 x6 c7) q_cX3_hasBit q_lX2_46 hV (fun k q h => by simp at h) ⟨by decide, by decide⟩ rfl ⟨_, hl⟩ (rest := []) rfl (Nat.le_of_ble_eq_true rfl) dX2_deedsOf_20 ?_
          refine lv_if_eq (tgt := 35) hx hb dX2_deedsOf_23 (by decide) (fun c8 => ?_) (fun c8 => ?_)
          · replace h := q_i1 c8 h
            obtain ⟨x9, ex9, h⟩ := q_ol h
            refine lv_iinc (v := x9) (lv' := [(3, .int x9), (0, .ref h0), (1, .int v1), (2, .int v2)]) hx hb dX2_deedsOf_35 hl (k := 3) rfl (by rw [ex9]; rfl) (by decide) rfl (fun ls hl => ?_)
            refine lv_goto (tgt := 4) hx hb dX2_deedsOf_38 (by decide) ?_
            exact ih4 v1 v2 x9 ls (lv_sub hl [1, 2, 3, 0] rfl) h
          · replace h := q_i2 c8 h
            refine lv_iload_n hx hb dX2_deedsOf_26 rfl (lv_at hl 2 rfl) ?_
            refine lv_aload_n hx hb dX2_deedsOf_27 rfl (lv_at hl 0 rfl) ?_
            refine q_get F q_K2 hP 0 rfl 8 (by decide) q_fX2_24 rfl dX2_deedsOf_28 ?_
            refine lv_iload_n hx hb dX2_deedsOf_31 rfl (lv_at hl 3 rfl) ?_
            obtain ⟨eg10, h⟩ := q_og h
            refine q_iald F hP 5 rfl eg10 dX2_deedsOf_32 ?_
            refine lv_iadd hx hb dX2_deedsOf_33 ?_
            obtain ⟨x11, ex11, h⟩ := q_ol h
            refine q_top ex11 ?_
            refine lv_istore_n (lv' := [(2, .int x11), (0, .ref h0), (1, .int v1), (3, .int v3)]) hx hb dX2_deedsOf_34 rfl hl (by decide) rfl (fun ls hl => ?_)
            obtain ⟨x12, ex12, h⟩ := q_ol h
            refine lv_iinc (v := x12) (lv' := [(3, .int x12), (2, .int x11), (0, .ref h0), (1, .int v1)]) hx hb dX2_deedsOf_35 hl (k := 3) rfl (by rw [ex12]; rfl) (by decide) rfl (fun ls hl => ?_)
            refine lv_goto (tgt := 4) hx hb dX2_deedsOf_38 (by decide) ?_
            exact ih4 v1 x11 x12 ls (lv_sub hl [2, 3, 1, 0] rfl) h
  unfold zX2_deedsOf at h
  refine lv_iconst (v := 0) hx hb dX2_deedsOf_0 (by decide) ?_
  refine lv_istore_n (lv' := [(2, .int (0 : Int32)), (0, .ref h0), (1, .int v1)]) hx hb dX2_deedsOf_1 rfl hl (by decide) rfl (fun ls hl => ?_)
  refine lv_iconst (v := 0) hx hb dX2_deedsOf_2 (by decide) ?_
  refine lv_istore_n (lv' := [(3, .int (0 : Int32)), (2, .int (0 : Int32)), (0, .ref h0), (1, .int v1)]) hx hb dX2_deedsOf_3 rfl hl (by decide) rfl (fun ls hl => ?_)
  exact K4 70000 v1 (0 : Int32) (0 : Int32) ls (lv_sub hl [2, 3, 1, 0] rfl) h
def jX2_canTakeAll_20 (s0 : q_S) (v1 : Int32) (v2 : Int32) (k20 : Int32 → Int32 → Option (Int32)) (v3 : Int32) (v4 : Int32) : Option (Int32) := if (8 : Int32) ≤ v4 then (some (1 : Int32)) else (q_b1 (zX2_isLoaf s0 v4) fun x2 => if x2 = 0 then (q_lt (v4 + 1) fun x5 => k20 v3 x5) else (q_b1 (zX3_hasBit v2 v4) fun x6 => if x6 = 0 then (q_lt (v4 + 1) fun x9 => k20 v3 x9) else (q_gd (q_ib v1 4) (q_gd (q_ib v4 8) (q_b1 (zX3_stomachs (s0 2 v1.toNatClampNeg) v3 (s0 8 v4.toNatClampNeg)) fun x12 => if x12 = 0 then (some (0 : Int32)) else (q_b1 (zX3_lessHungry v3 (2 : Int32)) fun x15 => q_lt (v4 + 1) fun x17 => k20 x15 x17))))))
def zX2_canTakeAll_20 (s0 : q_S) (v1 : Int32) (v2 : Int32) : Nat → Int32 → Int32 → Option (Int32)
  | 0, _, _ => none
  | n + 1, v3, v4 => jX2_canTakeAll_20 s0 v1 v2 (zX2_canTakeAll_20 s0 v1 v2 n) v3 v4
theorem zX2_canTakeAll_20_s (s0 : q_S) (v1 : Int32) (v2 : Int32) (n : Nat) (v3 : Int32) (v4 : Int32) : zX2_canTakeAll_20 s0 v1 v2 (n + 1) v3 v4 = jX2_canTakeAll_20 s0 v1 v2 (zX2_canTakeAll_20 s0 v1 v2 n) v3 v4 := rfl
def zX2_canTakeAll (s0 : q_S) (v1 : Int32) (v2 : Int32) : Option (Int32) := q_b1 (zX2_isEater s0 v1) fun x18 => if x18 = 0 then (some (0 : Int32)) else (q_gd (q_ib v1 4) (q_lt (s0 3 v1.toNatClampNeg) fun x22 => zX2_canTakeAll_20 s0 v1 v2 70000 x22 (0 : Int32)))
set_option maxHeartbeats 4000000 in
set_option maxRecDepth 100000 in
theorem kX2_canTakeAll (l : Launch) (E : q_E) (h0 : Nat) (a0 : Nat → Nat) (s0 : q_S) (v1 : Int32) (v2 : Int32) (r : Int32) (h : zX2_canTakeAll s0 v1 v2 = some r) : q_RO l E yX2_canTakeAll cX2_canTakeAll 5 (some .boolean) 3 [.ref h0, .int v1, .int v2] (q_cV E h0 a0 s0) (.int r) := by
  refine q_RO.intro (by decide) (Nat.le_of_ble_eq_true rfl) ?_
  intro p e s m args below meth c X hP ls hl
  obtain ⟨hx, hb, hml, hr, hlk, hown, hB, hE⟩ := X
  have hown : s.vm.findClass RX2 = some m.cls := hown
  have F : q_Fx p s m c E RX2 cX2_canTakeAll 5 := ⟨hx, hb, hml, hown, hB, hE⟩
  have hV := q_EV.here hE
  have hl : lv_has ls 5 [(0, .ref h0), (1, .int v1), (2, .int v2)] := hl
  have K20 : ∀ (n20_ : Nat), ∀ (v1 : Int32) (v2 : Int32) (v3 : Int32) (v4 : Int32), ∀ ls : Array Slot, lv_has ls 5 [(0, .ref h0), (1, .int v1), (2, .int v2), (3, .int v3), (4, .int v4)] → zX2_canTakeAll_20 s0 v1 v2 n20_ v3 v4 = some r → W p l e (q_rm 3) s m args below meth c s.heap [] 0 0 (MQ below (q_roQ (.int r)) args s 0 0 q_no) (F0 m 20 ls []) := by
    intro n20_
    induction n20_ with
    | zero => intro v1 v2 v3 v4 ls hl h; exact q_nn h
    | succ n20_ ih20 =>
      intro v1 v2 v3 v4 ls hl h
      rw [zX2_canTakeAll_20_s] at h
      unfold jX2_canTakeAll_20 at h
      refine lv_iload hx hb dX2_canTakeAll_20 (lv_at hl 4 rfl) ?_
      refine lv_bipush (v := 8) hx hb dX2_canTakeAll_22 (by decide) ?_
      refine lv_icmp_ge (tgt := 79) hx hb dX2_canTakeAll_24 (by decide) (fun c1 => ?_) (fun c1 => ?_)
      · replace h := q_i1 c1 h
        refine lv_iconst (v := 1) hx hb dX2_canTakeAll_79 (by decide) ?_
        exact q_rZ F hr hlk (by decide) dX2_canTakeAll_80 h
      · replace h := q_i2 c1 h
        refine lv_aload_n hx hb dX2_canTakeAll_27 rfl (lv_at hl 0 rfl) ?_
        refine lv_iload hx hb dX2_canTakeAll_28 (lv_at hl 4 rfl) ?_
        obtain ⟨x2, c3, h⟩ := q_o1 h
        refine q_roV F (kX2_isLoaf l E h0 a0 s0 v4 x2 c3) q_cX2_isLoaf q_lX2_95 hV hP ⟨by decide, by decide⟩ (q0 := 0) rfl rfl rfl rfl ⟨_, hl⟩ (rest := []) rfl (Nat.le_of_ble_eq_true rfl) dX2_canTakeAll_30 ?_
        refine lv_if_eq (tgt := 73) hx hb dX2_canTakeAll_33 (by decide) (fun c4 => ?_) (fun c4 => ?_)
        · replace h := q_i1 c4 h
          obtain ⟨x5, ex5, h⟩ := q_ol h
          refine lv_iinc (v := x5) (lv' := [(4, .int x5), (0, .ref h0), (1, .int v1), (2, .int v2), (3, .int v3)]) hx hb dX2_canTakeAll_73 hl (k := 4) rfl (by rw [ex5]; rfl) (by decide) rfl (fun ls hl => ?_)
          refine lv_goto (tgt := 20) hx hb dX2_canTakeAll_76 (by decide) ?_
          exact ih20 v1 v2 v3 x5 ls (lv_sub hl [1, 2, 3, 4, 0] rfl) h
        · replace h := q_i2 c4 h
          refine lv_iload_n hx hb dX2_canTakeAll_36 rfl (lv_at hl 2 rfl) ?_
          refine lv_iload hx hb dX2_canTakeAll_37 (lv_at hl 4 rfl) ?_
          obtain ⟨x6, c7, h⟩ := q_o1 h
          refine q_roS F (kX3_hasBit l E  v2 v4 x6 c7) q_cX3_hasBit q_lX2_46 hV (fun k q h => by simp at h) ⟨by decide, by decide⟩ rfl ⟨_, hl⟩ (rest := []) rfl (Nat.le_of_ble_eq_true rfl) dX2_canTakeAll_39 ?_
          refine lv_if_eq (tgt := 73) hx hb dX2_canTakeAll_42 (by decide) (fun c8 => ?_) (fun c8 => ?_)
          · replace h := q_i1 c8 h
            obtain ⟨x9, ex9, h⟩ := q_ol h
            refine lv_iinc (v := x9) (lv' := [(4, .int x9), (0, .ref h0), (1, .int v1), (2, .int v2), (3, .int v3)]) hx hb dX2_canTakeAll_73 hl (k := 4) rfl (by rw [ex9]; rfl) (by decide) rfl (fun ls hl => ?_)
            refine lv_goto (tgt := 20) hx hb dX2_canTakeAll_76 (by decide) ?_
            exact ih20 v1 v2 v3 x9 ls (lv_sub hl [1, 2, 3, 4, 0] rfl) h
          · replace h := q_i2 c8 h
            refine lv_aload_n hx hb dX2_canTakeAll_45 rfl (lv_at hl 0 rfl) ?_
            refine q_get F q_K2 hP 0 rfl 2 (by decide) q_fX2_9 rfl dX2_canTakeAll_46 ?_
            refine lv_iload_n hx hb dX2_canTakeAll_49 rfl (lv_at hl 1 rfl) ?_
            obtain ⟨eg10, h⟩ := q_og h
            refine q_iald F hP 1 rfl eg10 dX2_canTakeAll_50 ?_
            refine lv_iload_n hx hb dX2_canTakeAll_51 rfl (lv_at hl 3 rfl) ?_
            refine lv_aload_n hx hb dX2_canTakeAll_52 rfl (lv_at hl 0 rfl) ?_
            refine q_get F q_K2 hP 0 rfl 8 (by decide) q_fX2_24 rfl dX2_canTakeAll_53 ?_
            refine lv_iload hx hb dX2_canTakeAll_56 (lv_at hl 4 rfl) ?_
            obtain ⟨eg11, h⟩ := q_og h
            refine q_iald F hP 5 rfl eg11 dX2_canTakeAll_58 ?_
            obtain ⟨x12, c13, h⟩ := q_o1 h
            refine q_roS F (kX3_stomachs l E  (s0 2 v1.toNatClampNeg) v3 (s0 8 v4.toNatClampNeg) x12 c13) q_cX3_stomachs q_lX2_104 hV (fun k q h => by simp at h) ⟨by decide, by decide⟩ rfl ⟨_, hl⟩ (rest := []) rfl (Nat.le_of_ble_eq_true rfl) dX2_canTakeAll_59 ?_
            refine lv_if_ne (tgt := 67) hx hb dX2_canTakeAll_62 (by decide) (fun c14 => ?_) (fun c14 => ?_)
            · replace h := q_i2 c14 h
              refine lv_iload_n hx hb dX2_canTakeAll_67 rfl (lv_at hl 3 rfl) ?_
              refine lv_iconst (v := 2) hx hb dX2_canTakeAll_68 (by decide) ?_
              obtain ⟨x15, c16, h⟩ := q_o1 h
              refine q_roS F (kX3_lessHungry l E  v3 (2 : Int32) x15 c16) q_cX3_lessHungry q_lX2_112 hV (fun k q h => by simp at h) ⟨by decide, by decide⟩ rfl ⟨_, hl⟩ (rest := []) rfl (Nat.le_of_ble_eq_true rfl) dX2_canTakeAll_69 ?_
              refine lv_istore_n (lv' := [(3, .int x15), (0, .ref h0), (1, .int v1), (2, .int v2), (4, .int v4)]) hx hb dX2_canTakeAll_72 rfl hl (by decide) rfl (fun ls hl => ?_)
              obtain ⟨x17, ex17, h⟩ := q_ol h
              refine lv_iinc (v := x17) (lv' := [(4, .int x17), (3, .int x15), (0, .ref h0), (1, .int v1), (2, .int v2)]) hx hb dX2_canTakeAll_73 hl (k := 4) rfl (by rw [ex17]; rfl) (by decide) rfl (fun ls hl => ?_)
              refine lv_goto (tgt := 20) hx hb dX2_canTakeAll_76 (by decide) ?_
              exact ih20 v1 v2 x15 x17 ls (lv_sub hl [2, 3, 4, 1, 0] rfl) h
            · replace h := q_i1 c14 h
              refine lv_iconst (v := 0) hx hb dX2_canTakeAll_65 (by decide) ?_
              exact q_rZ F hr hlk (by decide) dX2_canTakeAll_66 h
  unfold zX2_canTakeAll at h
  refine lv_aload_n hx hb dX2_canTakeAll_0 rfl (lv_at hl 0 rfl) ?_
  refine lv_iload_n hx hb dX2_canTakeAll_1 rfl (lv_at hl 1 rfl) ?_
  obtain ⟨x18, c19, h⟩ := q_o1 h
  refine q_roV F (kX2_isEater l E h0 a0 s0 v1 x18 c19) q_cX2_isEater q_lX2_91 hV hP ⟨by decide, by decide⟩ (q0 := 0) rfl rfl rfl rfl ⟨_, hl⟩ (rest := []) rfl (Nat.le_of_ble_eq_true rfl) dX2_canTakeAll_2 ?_
  refine lv_if_ne (tgt := 10) hx hb dX2_canTakeAll_5 (by decide) (fun c20 => ?_) (fun c20 => ?_)
  · replace h := q_i2 c20 h
    refine lv_aload_n hx hb dX2_canTakeAll_10 rfl (lv_at hl 0 rfl) ?_
    refine q_get F q_K2 hP 0 rfl 3 (by decide) q_fX2_15 rfl dX2_canTakeAll_11 ?_
    refine lv_iload_n hx hb dX2_canTakeAll_14 rfl (lv_at hl 1 rfl) ?_
    obtain ⟨eg21, h⟩ := q_og h
    refine q_iald F hP 2 rfl eg21 dX2_canTakeAll_15 ?_
    obtain ⟨x22, ex22, h⟩ := q_ol h
    refine q_top ex22 ?_
    refine lv_istore_n (lv' := [(3, .int x22), (0, .ref h0), (1, .int v1), (2, .int v2)]) hx hb dX2_canTakeAll_16 rfl hl (by decide) rfl (fun ls hl => ?_)
    refine lv_iconst (v := 0) hx hb dX2_canTakeAll_17 (by decide) ?_
    refine lv_istore (lv' := [(4, .int (0 : Int32)), (3, .int x22), (0, .ref h0), (1, .int v1), (2, .int v2)]) hx hb dX2_canTakeAll_18 hl (by decide) rfl (fun ls hl => ?_)
    exact K20 70000 v1 v2 x22 (0 : Int32) ls (lv_sub hl [2, 3, 4, 1, 0] rfl) h
  · replace h := q_i1 c20 h
    refine lv_iconst (v := 0) hx hb dX2_canTakeAll_8 (by decide) ?_
    exact q_rZ F hr hlk (by decide) dX2_canTakeAll_9 h
def jX2_bestFed_14 (s0 : q_S) (v1 : Int32) (v2 : Int32) (k14 : Int32 → Int32 → Int32 → Option (Int32)) (v3 : Int32) (v4 : Int32) (v5 : Int32) : Option (Int32) := if v2 < v5 then (some v3) else (if (v5 &&& (v2 ^^^ (-1 : Int32))) = 0 then (q_b1 (zX2_deedsOf s0 v5) fun x4 => if x4 ≤ v4 then (q_lt (v5 + 1) fun x7 => k14 v3 v4 x7) else (q_b1 (zX2_canTakeAll s0 v1 v5) fun x8 => if x8 = 0 then (q_lt (v5 + 1) fun x11 => k14 v3 v4 x11) else (q_b1 (zX2_deedsOf s0 v5) fun x12 => q_lt (v5 + 1) fun x14 => k14 v5 x12 x14))) else (q_lt (v5 + 1) fun x3 => k14 v3 v4 x3))
def zX2_bestFed_14 (s0 : q_S) (v1 : Int32) (v2 : Int32) : Nat → Int32 → Int32 → Int32 → Option (Int32)
  | 0, _, _, _ => none
  | n + 1, v3, v4, v5 => jX2_bestFed_14 s0 v1 v2 (zX2_bestFed_14 s0 v1 v2 n) v3 v4 v5
theorem zX2_bestFed_14_s (s0 : q_S) (v1 : Int32) (v2 : Int32) (n : Nat) (v3 : Int32) (v4 : Int32) (v5 : Int32) : zX2_bestFed_14 s0 v1 v2 (n + 1) v3 v4 v5 = jX2_bestFed_14 s0 v1 v2 (zX2_bestFed_14 s0 v1 v2 n) v3 v4 v5 := rfl
def zX2_bestFed (s0 : q_S) (v1 : Int32) : Option (Int32) := q_b1 (zX2_takenNow s0 v1) fun x15 => zX2_bestFed_14 s0 v1 x15 70000 (0 : Int32) (0 : Int32) (1 : Int32)
set_option maxHeartbeats 4000000 in
set_option maxRecDepth 100000 in
theorem kX2_bestFed (l : Launch) (E : q_E) (h0 : Nat) (a0 : Nat → Nat) (s0 : q_S) (v1 : Int32) (r : Int32) (h : zX2_bestFed s0 v1 = some r) : q_RO l E yX2_bestFed cX2_bestFed 6 (some .int) 5 [.ref h0, .int v1] (q_cV E h0 a0 s0) (.int r) := by
  refine q_RO.intro (by decide) (Nat.le_of_ble_eq_true rfl) ?_
  intro p e s m args below meth c X hP ls hl
  obtain ⟨hx, hb, hml, hr, hlk, hown, hB, hE⟩ := X
  have hown : s.vm.findClass RX2 = some m.cls := hown
  have F : q_Fx p s m c E RX2 cX2_bestFed 6 := ⟨hx, hb, hml, hown, hB, hE⟩
  have hV := q_EV.here hE
  have hl : lv_has ls 6 [(0, .ref h0), (1, .int v1)] := hl
  have K14 : ∀ (n14_ : Nat), ∀ (v1 : Int32) (v2 : Int32) (v3 : Int32) (v4 : Int32) (v5 : Int32), ∀ ls : Array Slot, lv_has ls 6 [(0, .ref h0), (1, .int v1), (2, .int v2), (3, .int v3), (4, .int v4), (5, .int v5)] → zX2_bestFed_14 s0 v1 v2 n14_ v3 v4 v5 = some r → W p l e (q_rm 5) s m args below meth c s.heap [] 0 0 (MQ below (q_roQ (.int r)) args s 0 0 q_no) (F0 m 14 ls []) := by
    intro n14_
    induction n14_ with
    | zero => intro v1 v2 v3 v4 v5 ls hl h; exact q_nn h
    | succ n14_ ih14 =>
      intro v1 v2 v3 v4 v5 ls hl h
      rw [zX2_bestFed_14_s] at h
      unfold jX2_bestFed_14 at h
      refine lv_iload hx hb dX2_bestFed_14 (lv_at hl 5 rfl) ?_
      refine lv_iload_n hx hb dX2_bestFed_16 rfl (lv_at hl 2 rfl) ?_
      refine lv_icmp_gt (tgt := 67) hx hb dX2_bestFed_17 (by decide) (fun c1 => ?_) (fun c1 => ?_)
      · replace h := q_i1 c1 h
        refine lv_iload_n hx hb dX2_bestFed_67 rfl (lv_at hl 3 rfl) ?_
        exact q_rI F hr hlk dX2_bestFed_68 h
      · replace h := q_i2 c1 h
        refine lv_iload hx hb dX2_bestFed_20 (lv_at hl 5 rfl) ?_
        refine lv_iload_n hx hb dX2_bestFed_22 rfl (lv_at hl 2 rfl) ?_
        refine lv_iconst (v := (-1)) hx hb dX2_bestFed_23 (by decide) ?_
        refine lv_ixor hx hb dX2_bestFed_24 ?_
        refine lv_iand hx hb dX2_bestFed_25 ?_
        refine lv_if_ne (tgt := 61) hx hb dX2_bestFed_26 (by decide) (fun c2 => ?_) (fun c2 => ?_)
        · replace h := q_i2 c2 h
          obtain ⟨x3, ex3, h⟩ := q_ol h
          refine lv_iinc (v := x3) (lv' := [(5, .int x3), (0, .ref h0), (1, .int v1), (2, .int v2), (3, .int v3), (4, .int v4)]) hx hb dX2_bestFed_61 hl (k := 5) rfl (by rw [ex3]; rfl) (by decide) rfl (fun ls hl => ?_)
          refine lv_goto (tgt := 14) hx hb dX2_bestFed_64 (by decide) ?_
          exact ih14 v1 v2 v3 v4 x3 ls (lv_sub hl [1, 2, 3, 4, 5, 0] rfl) h
        · replace h := q_i1 c2 h
          refine lv_aload_n hx hb dX2_bestFed_29 rfl (lv_at hl 0 rfl) ?_
          refine lv_iload hx hb dX2_bestFed_30 (lv_at hl 5 rfl) ?_
          obtain ⟨x4, c5, h⟩ := q_o1 h
          refine q_roV F (kX2_deedsOf l E h0 a0 s0 v5 x4 c5) q_cX2_deedsOf q_lX2_127 hV hP ⟨by decide, by decide⟩ (q0 := 0) rfl rfl rfl rfl ⟨_, hl⟩ (rest := []) rfl (Nat.le_of_ble_eq_true rfl) dX2_bestFed_32 ?_
          refine lv_iload hx hb dX2_bestFed_35 (lv_at hl 4 rfl) ?_
          refine lv_icmp_le (tgt := 61) hx hb dX2_bestFed_37 (by decide) (fun c6 => ?_) (fun c6 => ?_)
          · replace h := q_i1 c6 h
            obtain ⟨x7, ex7, h⟩ := q_ol h
            refine lv_iinc (v := x7) (lv' := [(5, .int x7), (0, .ref h0), (1, .int v1), (2, .int v2), (3, .int v3), (4, .int v4)]) hx hb dX2_bestFed_61 hl (k := 5) rfl (by rw [ex7]; rfl) (by decide) rfl (fun ls hl => ?_)
            refine lv_goto (tgt := 14) hx hb dX2_bestFed_64 (by decide) ?_
            exact ih14 v1 v2 v3 v4 x7 ls (lv_sub hl [1, 2, 3, 4, 5, 0] rfl) h
          · replace h := q_i2 c6 h
            refine lv_aload_n hx hb dX2_bestFed_40 rfl (lv_at hl 0 rfl) ?_
            refine lv_iload_n hx hb dX2_bestFed_41 rfl (lv_at hl 1 rfl) ?_
            refine lv_iload hx hb dX2_bestFed_42 (lv_at hl 5 rfl) ?_
            obtain ⟨x8, c9, h⟩ := q_o1 h
            refine q_roV F (kX2_canTakeAll l E h0 a0 s0 v1 v5 x8 c9) q_cX2_canTakeAll q_lX2_130 hV hP ⟨by decide, by decide⟩ (q0 := 0) rfl rfl rfl rfl ⟨_, hl⟩ (rest := []) rfl (Nat.le_of_ble_eq_true rfl) dX2_bestFed_44 ?_
            refine lv_if_eq (tgt := 61) hx hb dX2_bestFed_47 (by decide) (fun c10 => ?_) (fun c10 => ?_)
            · replace h := q_i1 c10 h
              obtain ⟨x11, ex11, h⟩ := q_ol h
              refine lv_iinc (v := x11) (lv' := [(5, .int x11), (0, .ref h0), (1, .int v1), (2, .int v2), (3, .int v3), (4, .int v4)]) hx hb dX2_bestFed_61 hl (k := 5) rfl (by rw [ex11]; rfl) (by decide) rfl (fun ls hl => ?_)
              refine lv_goto (tgt := 14) hx hb dX2_bestFed_64 (by decide) ?_
              exact ih14 v1 v2 v3 v4 x11 ls (lv_sub hl [1, 2, 3, 4, 5, 0] rfl) h
            · replace h := q_i2 c10 h
              refine lv_iload hx hb dX2_bestFed_50 (lv_at hl 5 rfl) ?_
              refine lv_istore_n (lv' := [(3, .int v5), (0, .ref h0), (1, .int v1), (2, .int v2), (4, .int v4), (5, .int v5)]) hx hb dX2_bestFed_52 rfl hl (by decide) rfl (fun ls hl => ?_)
              refine lv_aload_n hx hb dX2_bestFed_53 rfl (lv_at hl 1 rfl) ?_
              refine lv_iload hx hb dX2_bestFed_54 (lv_at hl 5 rfl) ?_
              obtain ⟨x12, c13, h⟩ := q_o1 h
              refine q_roV F (kX2_deedsOf l E h0 a0 s0 v5 x12 c13) q_cX2_deedsOf q_lX2_127 hV hP ⟨by decide, by decide⟩ (q0 := 0) rfl rfl rfl rfl ⟨_, hl⟩ (rest := []) rfl (Nat.le_of_ble_eq_true rfl) dX2_bestFed_56 ?_
              refine lv_istore (lv' := [(4, .int x12), (3, .int v5), (0, .ref h0), (1, .int v1), (2, .int v2), (5, .int v5)]) hx hb dX2_bestFed_59 hl (by decide) rfl (fun ls hl => ?_)
              obtain ⟨x14, ex14, h⟩ := q_ol h
              refine lv_iinc (v := x14) (lv' := [(5, .int x14), (4, .int x12), (3, .int v5), (0, .ref h0), (1, .int v1), (2, .int v2)]) hx hb dX2_bestFed_61 hl (k := 5) rfl (by rw [ex14]; rfl) (by decide) rfl (fun ls hl => ?_)
              refine lv_goto (tgt := 14) hx hb dX2_bestFed_64 (by decide) ?_
              exact ih14 v1 v2 v5 x12 x14 ls (lv_sub hl [3, 4, 5, 2, 1, 0] rfl) h
  unfold zX2_bestFed at h
  refine lv_aload_n hx hb dX2_bestFed_0 rfl (lv_at hl 0 rfl) ?_
  refine lv_iload_n hx hb dX2_bestFed_1 rfl (lv_at hl 1 rfl) ?_
  obtain ⟨x15, c16, h⟩ := q_o1 h
  refine q_roV F (kX2_takenNow l E h0 a0 s0 v1 x15 c16) q_cX2_takenNow q_lX2_124 hV hP ⟨by decide, by decide⟩ (q0 := 0) rfl rfl rfl rfl ⟨_, hl⟩ (rest := []) rfl (Nat.le_of_ble_eq_true rfl) dX2_bestFed_2 ?_
  refine lv_istore_n (lv' := [(2, .int x15), (0, .ref h0), (1, .int v1)]) hx hb dX2_bestFed_5 rfl hl (by decide) rfl (fun ls hl => ?_)
  refine lv_iconst (v := 0) hx hb dX2_bestFed_6 (by decide) ?_
  refine lv_istore_n (lv' := [(3, .int (0 : Int32)), (2, .int x15), (0, .ref h0), (1, .int v1)]) hx hb dX2_bestFed_7 rfl hl (by decide) rfl (fun ls hl => ?_)
  refine lv_iconst (v := 0) hx hb dX2_bestFed_8 (by decide) ?_
  refine lv_istore (lv' := [(4, .int (0 : Int32)), (3, .int (0 : Int32)), (2, .int x15), (0, .ref h0), (1, .int v1)]) hx hb dX2_bestFed_9 hl (by decide) rfl (fun ls hl => ?_)
  refine lv_iconst (v := 1) hx hb dX2_bestFed_11 (by decide) ?_
  refine lv_istore (lv' := [(5, .int (1 : Int32)), (4, .int (0 : Int32)), (3, .int (0 : Int32)), (2, .int x15), (0, .ref h0), (1, .int v1)]) hx hb dX2_bestFed_12 hl (by decide) rfl (fun ls hl => ?_)
  exact K14 70000 v1 x15 (0 : Int32) (0 : Int32) (1 : Int32) ls (lv_sub hl [4, 5, 3, 2, 1, 0] rfl) h
def zX2_addSaid_68 (s0 : q_S) (t1 : Int32) : Option (q_S) := q_lt (q_u s0 14 0 t1) fun y1 => q_lt (q_u y1 11 0 ((y1 11 0) + (1 : Int32))) fun y2 => some y2
def zX2_addSaid (s0 : q_S) (v1 : Int32) (v2 : Int32) (v3 : Int32) : Option (q_S) := if (s0 11 0) < 0 then (some s0) else (if (6 : Int32) ≤ (s0 11 0) then (some s0) else (q_gd (q_ib (s0 11 0) 6) (q_lt (q_u s0 12 (s0 11 0).toNatClampNeg v1) fun y6 => q_gd (q_ib (y6 11 0) 6) (q_lt (q_u y6 13 (y6 11 0).toNatClampNeg v2) fun y8 => if v3 = 0 then (zX2_addSaid_68 y8 ((y8 14 0) &&& (((1 : Int32) <<< ((y8 11 0) &&& 31)) ^^^ (-1 : Int32)))) else (zX2_addSaid_68 y8 ((y8 14 0) ||| ((1 : Int32) <<< ((y8 11 0) &&& 31))))))))
set_option maxHeartbeats 4000000 in
set_option maxRecDepth 100000 in
theorem kX2_addSaid (l : Launch) (E : q_E) (h0 : Nat) (a0 : Nat → Nat) (s0 : q_S) (v1 : Int32) (v2 : Int32) (v3 : Int32) (sz : Nat) (rs0 : q_S) (h : zX2_addSaid s0 v1 v2 v3 = some rs0) : q_MU l E yX2_addSaid cX2_addSaid 4 none 1 [.ref h0, .int v1, .int v2, .int v3] sz (q_cV E h0 a0 s0) (q_cV E h0 a0 rs0) none := by
  refine q_MU.intro (by decide) (Nat.le_of_ble_eq_true rfl) ?_
  intro p e s m args below meth c A X hP hD hA hAl ls hl
  obtain ⟨hx, hb, hml, hr, hlk, hown, hB, hE⟩ := X
  have hown : s.vm.findClass RX2 = some m.cls := hown
  have F : q_Fx p s m c E RX2 cX2_addSaid 4 := ⟨hx, hb, hml, hown, hB, hE⟩
  have hS : va_S A s.heap s.heap [] := va_S.rf
  have hl : lv_has ls 4 [(0, .ref h0), (1, .int v1), (2, .int v2), (3, .int v3)] := hl
  have K68 : ∀ (t1 : Int32) (s0 : q_S), ∀ (H : Heap) (locs : List Loc), va_P (q_D E) vwCl (q_cV E h0 a0 s0) H → va_D A (q_cV E h0 a0 s0) → va_S A s.heap H locs → ∀ ls : Array Slot, lv_has ls 4 [(0, .ref h0)] → zX2_addSaid_68 s0 t1 = some rs0 → W p l e (q_rm 1) s m args below meth c H locs 0 0 (MQ below (q_muQ E A (q_cV E h0 a0 rs0) none) args s 0 0 A) (F0 m 68 ls [.int t1, .ref h0]) := by
    intro t1 s0 H locs hP hD hS ls hl h
    unfold zX2_addSaid_68 at h
    obtain ⟨y1, ey1, h⟩ := q_ol h
    refine q_put F q_K2 hP hD hS 0 rfl 14 (by decide) q_fX2_88 rfl rfl rfl (Nat.le_of_ble_eq_true rfl) (by rw [ey1]; rfl) dX2_addSaid_68 (fun H locs (hP : va_P (q_D E) vwCl (q_cV E h0 a0 y1) H) hD hS => ?_)
    refine lv_aload_n hx hb dX2_addSaid_71 rfl (lv_at hl 0 rfl) ?_
    refine lv_dup hx hb dX2_addSaid_72 rfl ?_
    refine q_get F q_K2 hP 0 rfl 11 (by decide) q_fX2_71 rfl dX2_addSaid_73 ?_
    refine lv_iconst (v := 1) hx hb dX2_addSaid_76 (by decide) ?_
    refine lv_iadd hx hb dX2_addSaid_77 ?_
    obtain ⟨y2, ey2, h⟩ := q_ol h
    refine q_put F q_K2 hP hD hS 0 rfl 11 (by decide) q_fX2_71 rfl rfl rfl (Nat.le_of_ble_eq_true rfl) (by rw [ey2]; rfl) dX2_addSaid_78 (fun H locs (hP : va_P (q_D E) vwCl (q_cV E h0 a0 y2) H) hD hS => ?_)
    cases h
    exact q_wV F hr hlk dX2_addSaid_81 hP hD hS
  unfold zX2_addSaid at h
  refine lv_aload_n hx hb dX2_addSaid_0 rfl (lv_at hl 0 rfl) ?_
  refine q_get F q_K2 hP 0 rfl 11 (by decide) q_fX2_71 rfl dX2_addSaid_1 ?_
  refine lv_if_lt (tgt := 81) hx hb dX2_addSaid_4 (by decide) (fun c3 => ?_) (fun c3 => ?_)
  · replace h := q_i1 c3 h
    cases h
    exact q_wV F hr hlk dX2_addSaid_81 hP hD hS
  · replace h := q_i2 c3 h
    refine lv_aload_n hx hb dX2_addSaid_7 rfl (lv_at hl 0 rfl) ?_
    refine q_get F q_K2 hP 0 rfl 11 (by decide) q_fX2_71 rfl dX2_addSaid_8 ?_
    refine lv_bipush (v := 6) hx hb dX2_addSaid_11 (by decide) ?_
    refine lv_icmp_ge (tgt := 81) hx hb dX2_addSaid_13 (by decide) (fun c4 => ?_) (fun c4 => ?_)
    · replace h := q_i1 c4 h
      cases h
      exact q_wV F hr hlk dX2_addSaid_81 hP hD hS
    · replace h := q_i2 c4 h
      refine lv_aload_n hx hb dX2_addSaid_16 rfl (lv_at hl 0 rfl) ?_
      refine q_get F q_K2 hP 0 rfl 12 (by decide) q_fX2_30 rfl dX2_addSaid_17 ?_
      refine lv_aload_n hx hb dX2_addSaid_20 rfl (lv_at hl 0 rfl) ?_
      refine q_get F q_K2 hP 0 rfl 11 (by decide) q_fX2_71 rfl dX2_addSaid_21 ?_
      refine lv_iload_n hx hb dX2_addSaid_24 rfl (lv_at hl 1 rfl) ?_
      obtain ⟨eg5, h⟩ := q_og h
      obtain ⟨y6, ey6, h⟩ := q_ol h
      refine q_iast F hP hD hS 7 rfl eg5 (by rw [ey6]; rfl) dX2_addSaid_25 (fun H locs (hP : va_P (q_D E) vwCl (q_cV E h0 a0 y6) H) hD hS => ?_)
      refine lv_aload_n hx hb dX2_addSaid_26 rfl (lv_at hl 0 rfl) ?_
      refine q_get F q_K2 hP 0 rfl 13 (by decide) q_fX2_33 rfl dX2_addSaid_27 ?_
      refine lv_aload_n hx hb dX2_addSaid_30 rfl (lv_at hl 0 rfl) ?_
      refine q_get F q_K2 hP 0 rfl 11 (by decide) q_fX2_71 rfl dX2_addSaid_31 ?_
      refine lv_iload_n hx hb dX2_addSaid_34 rfl (lv_at hl 2 rfl) ?_
      obtain ⟨eg7, h⟩ := q_og h
      obtain ⟨y8, ey8, h⟩ := q_ol h
      refine q_iast F hP hD hS 8 rfl eg7 (by rw [ey8]; rfl) dX2_addSaid_35 (fun H locs (hP : va_P (q_D E) vwCl (q_cV E h0 a0 y8) H) hD hS => ?_)
      refine lv_aload_n hx hb dX2_addSaid_36 rfl (lv_at hl 0 rfl) ?_
      refine lv_iload_n hx hb dX2_addSaid_37 rfl (lv_at hl 3 rfl) ?_
      refine lv_if_eq (tgt := 55) hx hb dX2_addSaid_38 (by decide) (fun c9 => ?_) (fun c9 => ?_)
      · replace h := q_i1 c9 h
        refine lv_aload_n hx hb dX2_addSaid_55 rfl (lv_at hl 0 rfl) ?_
        refine q_get F q_K2 hP 0 rfl 14 (by decide) q_fX2_88 rfl dX2_addSaid_56 ?_
        refine lv_iconst (v := 1) hx hb dX2_addSaid_59 (by decide) ?_
        refine lv_aload_n hx hb dX2_addSaid_60 rfl (lv_at hl 0 rfl) ?_
        refine q_get F q_K2 hP 0 rfl 11 (by decide) q_fX2_71 rfl dX2_addSaid_61 ?_
        refine lv_ishl hx hb dX2_addSaid_64 ?_
        refine lv_iconst (v := (-1)) hx hb dX2_addSaid_65 (by decide) ?_
        refine lv_ixor hx hb dX2_addSaid_66 ?_
        refine lv_iand hx hb dX2_addSaid_67 ?_
        exact K68 ((y8 14 0) &&& (((1 : Int32) <<< ((y8 11 0) &&& 31)) ^^^ (-1 : Int32))) y8 H _ hP hD hS ls (lv_sub hl [0] rfl) h
      · replace h := q_i2 c9 h
        refine lv_aload_n hx hb dX2_addSaid_41 rfl (lv_at hl 0 rfl) ?_
        refine q_get F q_K2 hP 0 rfl 14 (by decide) q_fX2_88 rfl dX2_addSaid_42 ?_
        refine lv_iconst (v := 1) hx hb dX2_addSaid_45 (by decide) ?_
        refine lv_aload_n hx hb dX2_addSaid_46 rfl (lv_at hl 0 rfl) ?_
        refine q_get F q_K2 hP 0 rfl 11 (by decide) q_fX2_71 rfl dX2_addSaid_47 ?_
        refine lv_ishl hx hb dX2_addSaid_50 ?_
        refine lv_ior hx hb dX2_addSaid_51 ?_
        refine lv_goto (tgt := 68) hx hb dX2_addSaid_52 (by decide) ?_
        exact K68 ((y8 14 0) ||| ((1 : Int32) <<< ((y8 11 0) &&& 31))) y8 H _ hP hD hS ls (lv_sub hl [0] rfl) h
def zX2_carriedOf_57 (k6 : Int32 → Int32 → Option (Int32)) (v5 : Int32) (t0 : Int32) (t1 : Int32) (t2 : Int32) : Option (Int32) := q_lt (t0 + (t1 + t2)) fun x1 => q_lt (v5 + 1) fun x2 => k6 x1 x2
def jX2_carriedOf_6 (s0 : q_S) (v1 : Int32) (v2 : Int32) (v3 : Int32) (k6 : Int32 → Int32 → Option (Int32)) (v4 : Int32) (v5 : Int32) : Option (Int32) := if (8 : Int32) ≤ v5 then (some v4) else (q_b1 (zX2_isLoaf s0 v5) fun x4 => if x4 = 0 then (q_lt (v5 + 1) fun x7 => k6 v4 x7) else (q_b1 (zX3_hasBit v1 v5) fun x8 => if x8 = 0 then (q_lt (v5 + 1) fun x11 => k6 v4 x11) else (q_gd (q_ib v5 8) (if v5 = v2 then (zX2_carriedOf_57 k6 v5 v4 (s0 8 v5.toNatClampNeg) v3) else (q_gd (q_ib v5 8) (zX2_carriedOf_57 k6 v5 v4 (s0 8 v5.toNatClampNeg) (s0 9 v5.toNatClampNeg)))))))
def zX2_carriedOf_6 (s0 : q_S) (v1 : Int32) (v2 : Int32) (v3 : Int32) : Nat → Int32 → Int32 → Option (Int32)
  | 0, _, _ => none
  | n + 1, v4, v5 => jX2_carriedOf_6 s0 v1 v2 v3 (zX2_carriedOf_6 s0 v1 v2 v3 n) v4 v5
theorem zX2_carriedOf_6_s (s0 : q_S) (v1 : Int32) (v2 : Int32) (v3 : Int32) (n : Nat) (v4 : Int32) (v5 : Int32) : zX2_carriedOf_6 s0 v1 v2 v3 (n + 1) v4 v5 = jX2_carriedOf_6 s0 v1 v2 v3 (zX2_carriedOf_6 s0 v1 v2 v3 n) v4 v5 := rfl
def zX2_carriedOf (s0 : q_S) (v1 : Int32) (v2 : Int32) (v3 : Int32) : Option (Int32) := zX2_carriedOf_6 s0 v1 v2 v3 70000 (0 : Int32) (0 : Int32)
set_option maxHeartbeats 4000000 in
set_option maxRecDepth 100000 in
theorem kX2_carriedOf (l : Launch) (E : q_E) (h0 : Nat) (a0 : Nat → Nat) (s0 : q_S) (v1 : Int32) (v2 : Int32) (v3 : Int32) (r : Int32) (h : zX2_carriedOf s0 v1 v2 v3 = some r) : q_RO l E yX2_carriedOf cX2_carriedOf 6 (some .int) 2 [.ref h0, .int v1, .int v2, .int v3] (q_cV E h0 a0 s0) (.int r) := by
  refine q_RO.intro (by decide) (Nat.le_of_ble_eq_true rfl) ?_
  intro p e s m args below meth c X hP ls hl
  obtain ⟨hx, hb, hml, hr, hlk, hown, hB, hE⟩ := X
  have hown : s.vm.findClass RX2 = some m.cls := hown
  have F : q_Fx p s m c E RX2 cX2_carriedOf 6 := ⟨hx, hb, hml, hown, hB, hE⟩
  have hV := q_EV.here hE
  have hl : lv_has ls 6 [(0, .ref h0), (1, .int v1), (2, .int v2), (3, .int v3)] := hl
  have K6 : ∀ (n6_ : Nat), ∀ (v1 : Int32) (v2 : Int32) (v3 : Int32) (v4 : Int32) (v5 : Int32), ∀ ls : Array Slot, lv_has ls 6 [(0, .ref h0), (1, .int v1), (2, .int v2), (3, .int v3), (4, .int v4), (5, .int v5)] → zX2_carriedOf_6 s0 v1 v2 v3 n6_ v4 v5 = some r → W p l e (q_rm 2) s m args below meth c s.heap [] 0 0 (MQ below (q_roQ (.int r)) args s 0 0 q_no) (F0 m 6 ls []) := by
    intro n6_
    induction n6_ with
    | zero => intro v1 v2 v3 v4 v5 ls hl h; exact q_nn h
    | succ n6_ ih6 =>
      have K57 : ∀ (v1 : Int32) (v2 : Int32) (v3 : Int32) (v5 : Int32) (t0 : Int32) (t1 : Int32) (t2 : Int32), ∀ ls : Array Slot, lv_has ls 6 [(0, .ref h0), (1, .int v1), (2, .int v2), (3, .int v3), (5, .int v5)] → zX2_carriedOf_57 (zX2_carriedOf_6 s0 v1 v2 v3 n6_) v5 t0 t1 t2 = some r → W p l e (q_rm 2) s m args below meth c s.heap [] 0 0 (MQ below (q_roQ (.int r)) args s 0 0 q_no) (F0 m 57 ls [.int t2, .int t1, .int t0]) := by
        intro v1 v2 v3 v5 t0 t1 t2 ls hl h
        unfold zX2_carriedOf_57 at h
        refine lv_iadd hx hb dX2_carriedOf_57 ?_
        refine lv_iadd hx hb dX2_carriedOf_58 ?_
        obtain ⟨x1, ex1, h⟩ := q_ol h
        refine q_top ex1 ?_
        refine lv_istore (lv' := [(4, .int x1), (0, .ref h0), (1, .int v1), (2, .int v2), (3, .int v3), (5, .int v5)]) hx hb dX2_carriedOf_59 hl (by decide) rfl (fun ls hl => ?_)
        obtain ⟨x2, ex2, h⟩ := q_ol h
        refine lv_iinc (v := x2) (lv' := [(5, .int x2), (4, .int x1), (0, .ref h0), (1, .int v1), (2, .int v2), (3, .int v3)]) hx hb dX2_carriedOf_61 hl (k := 5) rfl (by rw [ex2]; rfl) (by decide) rfl (fun ls hl => ?_)
        refine lv_goto (tgt := 6) hx hb dX2_carriedOf_64 (by decide) ?_
        exact ih6 v1 v2 v3 x1 x2 ls (lv_sub hl [2, 3, 4, 5, 1, 0] rfl) h
      intro v1 v2 v3 v4 v5 ls hl h
      rw [zX2_carriedOf_6_s] at h
      unfold jX2_carriedOf_6 at h
      refine lv_iload hx hb dX2_carriedOf_6 (lv_at hl 5 rfl) ?_
      refine lv_bipush (v := 8) hx hb dX2_carriedOf_8 (by decide) ?_
      refine lv_icmp_ge (tgt := 67) hx hb dX2_carriedOf_10 (by decide) (fun c3 => ?_) (fun c3 => ?_)
      · replace h := q_i1 c3 h
        refine lv_iload hx hb dX2_carriedOf_67 (lv_at hl 4 rfl) ?_
        exact q_rI F hr hlk dX2_carriedOf_69 h
      · replace h := q_i2 c3 h
        refine lv_aload_n hx hb dX2_carriedOf_13 rfl (lv_at hl 0 rfl) ?_
        refine lv_iload hx hb dX2_carriedOf_14 (lv_at hl 5 rfl) ?_
        obtain ⟨x4, c5, h⟩ := q_o1 h
        refine q_roV F (kX2_isLoaf l E h0 a0 s0 v5 x4 c5) q_cX2_isLoaf q_lX2_95 hV hP ⟨by decide, by decide⟩ (q0 := 0) rfl rfl rfl rfl ⟨_, hl⟩ (rest := []) rfl (Nat.le_of_ble_eq_true rfl) dX2_carriedOf_16 ?_
        refine lv_if_eq (tgt := 61) hx hb dX2_carriedOf_19 (by decide) (fun c6 => ?_) (fun c6 => ?_)
        · replace h := q_i1 c6 h
          obtain ⟨x7, ex7, h⟩ := q_ol h
          refine lv_iinc (v := x7) (lv' := [(5, .int x7), (0, .ref h0), (1, .int v1), (2, .int v2), (3, .int v3), (4, .int v4)]) hx hb dX2_carriedOf_61 hl (k := 5) rfl (by rw [ex7]; rfl) (by decide) rfl (fun ls hl => ?_)
          refine lv_goto (tgt := 6) hx hb dX2_carriedOf_64 (by decide) ?_
          exact ih6 v1 v2 v3 v4 x7 ls (lv_sub hl [1, 2, 3, 4, 5, 0] rfl) h
        · replace h := q_i2 c6 h
          refine lv_iload_n hx hb dX2_carriedOf_22 rfl (lv_at hl 1 rfl) ?_
          refine lv_iload hx hb dX2_carriedOf_23 (lv_at hl 5 rfl) ?_
          obtain ⟨x8, c9, h⟩ := q_o1 h
          refine q_roS F (kX3_hasBit l E  v1 v5 x8 c9) q_cX3_hasBit q_lX2_46 hV (fun k q h => by simp at h) ⟨by decide, by decide⟩ rfl ⟨_, hl⟩ (rest := []) rfl (Nat.le_of_ble_eq_true rfl) dX2_carriedOf_25 ?_
          refine lv_if_eq (tgt := 61) hx hb dX2_carriedOf_28 (by decide) (fun c10 => ?_) (fun c10 => ?_)
          · replace h := q_i1 c10 h
            obtain ⟨x11, ex11, h⟩ := q_ol h
            refine lv_iinc (v := x11) (lv' := [(5, .int x11), (0, .ref h0), (1, .int v1), (2, .int v2), (3, .int v3), (4, .int v4)]) hx hb dX2_carriedOf_61 hl (k := 5) rfl (by rw [ex11]; rfl) (by decide) rfl (fun ls hl => ?_)
            refine lv_goto (tgt := 6) hx hb dX2_carriedOf_64 (by decide) ?_
            exact ih6 v1 v2 v3 v4 x11 ls (lv_sub hl [1, 2, 3, 4, 5, 0] rfl) h
          · replace h := q_i2 c10 h
            refine lv_iload hx hb dX2_carriedOf_31 (lv_at hl 4 rfl) ?_
            refine lv_aload_n hx hb dX2_carriedOf_33 rfl (lv_at hl 0 rfl) ?_
            refine q_get F q_K2 hP 0 rfl 8 (by decide) q_fX2_24 rfl dX2_carriedOf_34 ?_
            refine lv_iload hx hb dX2_carriedOf_37 (lv_at hl 5 rfl) ?_
            obtain ⟨eg12, h⟩ := q_og h
            refine q_iald F hP 5 rfl eg12 dX2_carriedOf_39 ?_
            refine lv_iload hx hb dX2_carriedOf_40 (lv_at hl 5 rfl) ?_
            refine lv_iload_n hx hb dX2_carriedOf_42 rfl (lv_at hl 2 rfl) ?_
            refine lv_icmp_ne (tgt := 50) hx hb dX2_carriedOf_43 (by decide) (fun c13 => ?_) (fun c13 => ?_)
            · replace h := q_i2 c13 h
              refine lv_aload_n hx hb dX2_carriedOf_50 rfl (lv_at hl 0 rfl) ?_
              refine q_get F q_K2 hP 0 rfl 9 (by decide) q_fX2_27 rfl dX2_carriedOf_51 ?_
              refine lv_iload hx hb dX2_carriedOf_54 (lv_at hl 5 rfl) ?_
              obtain ⟨eg14, h⟩ := q_og h
              refine q_iald F hP 6 rfl eg14 dX2_carriedOf_56 ?_
              exact K57 v1 v2 v3 v5 v4 (s0 8 v5.toNatClampNeg) (s0 9 v5.toNatClampNeg) ls (lv_sub hl [0, 1, 2, 3, 5] rfl) h
            · replace h := q_i1 c13 h
              refine lv_iload_n hx hb dX2_carriedOf_46 rfl (lv_at hl 3 rfl) ?_
              refine lv_goto (tgt := 57) hx hb dX2_carriedOf_47 (by decide) ?_
              exact K57 v1 v2 v3 v5 v4 (s0 8 v5.toNatClampNeg) v3 ls (lv_sub hl [0, 1, 2, 3, 5] rfl) h
  unfold zX2_carriedOf at h
  refine lv_iconst (v := 0) hx hb dX2_carriedOf_0 (by decide) ?_
  refine lv_istore (lv' := [(4, .int (0 : Int32)), (0, .ref h0), (1, .int v1), (2, .int v2), (3, .int v3)]) hx hb dX2_carriedOf_1 hl (by decide) rfl (fun ls hl => ?_)
  refine lv_iconst (v := 0) hx hb dX2_carriedOf_3 (by decide) ?_
  refine lv_istore (lv' := [(5, .int (0 : Int32)), (4, .int (0 : Int32)), (0, .ref h0), (1, .int v1), (2, .int v2), (3, .int v3)]) hx hb dX2_carriedOf_4 hl (by decide) rfl (fun ls hl => ?_)
  exact K6 70000 v1 v2 v3 (0 : Int32) (0 : Int32) ls (lv_sub hl [2, 3, 4, 5, 1, 0] rfl) h
def zX2_allSaidHolds_42 (k2 : Int32 → Option (Int32)) (s0 : q_S) (v3 : Int32) (t0 : Int32) : Option (Int32) := q_b1 (zX3_hasBit (s0 14 0) v3) fun x1 => if t0 = x1 then (q_lt (v3 + 1) fun x4 => k2 x4) else (some (0 : Int32))
def jX2_allSaidHolds_2 (s0 : q_S) (v1 : Int32) (v2 : Int32) (k2 : Int32 → Option (Int32)) (v3 : Int32) : Option (Int32) := if (s0 11 0) ≤ v3 then (some (1 : Int32)) else (if (6 : Int32) ≤ v3 then (some (1 : Int32)) else (q_gd (q_ib v3 6) (q_b1 (zX2_carriedOf s0 (s0 12 v3.toNatClampNeg) v1 v2) fun x8 => q_gd (q_ib v3 6) (if x8 ≤ (s0 13 v3.toNatClampNeg) then (zX2_allSaidHolds_42 k2 s0 v3 (0 : Int32)) else (zX2_allSaidHolds_42 k2 s0 v3 (1 : Int32))))))
def zX2_allSaidHolds_2 (s0 : q_S) (v1 : Int32) (v2 : Int32) : Nat → Int32 → Option (Int32)
  | 0, _ => none
  | n + 1, v3 => jX2_allSaidHolds_2 s0 v1 v2 (zX2_allSaidHolds_2 s0 v1 v2 n) v3
theorem zX2_allSaidHolds_2_s (s0 : q_S) (v1 : Int32) (v2 : Int32) (n : Nat) (v3 : Int32) : zX2_allSaidHolds_2 s0 v1 v2 (n + 1) v3 = jX2_allSaidHolds_2 s0 v1 v2 (zX2_allSaidHolds_2 s0 v1 v2 n) v3 := rfl
def zX2_allSaidHolds (s0 : q_S) (v1 : Int32) (v2 : Int32) : Option (Int32) := zX2_allSaidHolds_2 s0 v1 v2 70000 (0 : Int32)
set_option maxHeartbeats 4000000 in
set_option maxRecDepth 100000 in
theorem kX2_allSaidHolds (l : Launch) (E : q_E) (h0 : Nat) (a0 : Nat → Nat) (s0 : q_S) (v1 : Int32) (v2 : Int32) (r : Int32) (h : zX2_allSaidHolds s0 v1 v2 = some r) : q_RO l E yX2_allSaidHolds cX2_allSaidHolds 5 (some .boolean) 3 [.ref h0, .int v1, .int v2] (q_cV E h0 a0 s0) (.int r) := by
  refine q_RO.intro (by decide) (Nat.le_of_ble_eq_true rfl) ?_
  intro p e s m args below meth c X hP ls hl
  obtain ⟨hx, hb, hml, hr, hlk, hown, hB, hE⟩ := X
  have hown : s.vm.findClass RX2 = some m.cls := hown
  have F : q_Fx p s m c E RX2 cX2_allSaidHolds 5 := ⟨hx, hb, hml, hown, hB, hE⟩
  have hV := q_EV.here hE
  have hl : lv_has ls 5 [(0, .ref h0), (1, .int v1), (2, .int v2)] := hl
  have K2 : ∀ (n2_ : Nat), ∀ (v1 : Int32) (v2 : Int32) (v3 : Int32), ∀ ls : Array Slot, lv_has ls 5 [(0, .ref h0), (1, .int v1), (2, .int v2), (3, .int v3)] → zX2_allSaidHolds_2 s0 v1 v2 n2_ v3 = some r → W p l e (q_rm 3) s m args below meth c s.heap [] 0 0 (MQ below (q_roQ (.int r)) args s 0 0 q_no) (F0 m 2 ls []) := by
    intro n2_
    induction n2_ with
    | zero => intro v1 v2 v3 ls hl h; exact q_nn h
    | succ n2_ ih2 =>
      have K42 : ∀ (v1 : Int32) (v2 : Int32) (v3 : Int32) (t0 : Int32), ∀ ls : Array Slot, lv_has ls 5 [(0, .ref h0), (1, .int v1), (2, .int v2), (3, .int v3)] → zX2_allSaidHolds_42 (zX2_allSaidHolds_2 s0 v1 v2 n2_) s0 v3 t0 = some r → W p l e (q_rm 3) s m args below meth c s.heap [] 0 0 (MQ below (q_roQ (.int r)) args s 0 0 q_no) (F0 m 42 ls [.int t0]) := by
        intro v1 v2 v3 t0 ls hl h
        unfold zX2_allSaidHolds_42 at h
        refine lv_istore (lv' := [(4, .int t0), (0, .ref h0), (1, .int v1), (2, .int v2), (3, .int v3)]) hx hb dX2_allSaidHolds_42 hl (by decide) rfl (fun ls hl => ?_)
        refine lv_iload hx hb dX2_allSaidHolds_44 (lv_at hl 0 rfl) ?_
        refine lv_aload_n hx hb dX2_allSaidHolds_46 rfl (lv_at hl 1 rfl) ?_
        refine q_get F q_K2 hP 0 rfl 14 (by decide) q_fX2_88 rfl dX2_allSaidHolds_47 ?_
        refine lv_iload_n hx hb dX2_allSaidHolds_50 rfl (lv_at hl 4 rfl) ?_
        obtain ⟨x1, c2, h⟩ := q_o1 h
        refine q_roS F (kX3_hasBit l E  (s0 14 0) v3 x1 c2) q_cX3_hasBit q_lX2_46 hV (fun k q h => by simp at h) ⟨by decide, by decide⟩ rfl ⟨_, hl⟩ (rest := [.int t0]) rfl (Nat.le_of_ble_eq_true rfl) dX2_allSaidHolds_51 ?_
        refine lv_icmp_eq (tgt := 59) hx hb dX2_allSaidHolds_54 (by decide) (fun c3 => ?_) (fun c3 => ?_)
        · replace h := q_i1 c3 h
          obtain ⟨x4, ex4, h⟩ := q_ol h
          refine lv_iinc (v := x4) (lv' := [(3, .int x4), (4, .int t0), (0, .ref h0), (1, .int v1), (2, .int v2)]) hx hb dX2_allSaidHolds_59 hl (k := 4) rfl (by rw [ex4]; rfl) (by decide) rfl (fun ls hl => ?_)
          refine lv_goto (tgt := 2) hx hb dX2_allSaidHolds_62 (by decide) ?_
          exact ih2 v1 v2 x4 ls (lv_sub hl [2, 3, 4, 0] rfl) h
        · replace h := q_i2 c3 h
          refine lv_iconst (v := 0) hx hb dX2_allSaidHolds_57 (by decide) ?_
          exact q_rZ F hr hlk (by decide) dX2_allSaidHolds_58 h
      intro v1 v2 v3 ls hl h
      rw [zX2_allSaidHolds_2_s] at h
      unfold jX2_allSaidHolds_2 at h
      refine lv_iload_n hx hb dX2_allSaidHolds_2 rfl (lv_at hl 3 rfl) ?_
      refine lv_aload_n hx hb dX2_allSaidHolds_3 rfl (lv_at hl 0 rfl) ?_
      refine q_get F q_K2 hP 0 rfl 11 (by decide) q_fX2_71 rfl dX2_allSaidHolds_4 ?_
      refine lv_icmp_ge (tgt := 65) hx hb dX2_allSaidHolds_7 (by decide) (fun c5 => ?_) (fun c5 => ?_)
      · replace h := q_i1 c5 h
        refine lv_iconst (v := 1) hx hb dX2_allSaidHolds_65 (by decide) ?_
        exact q_rZ F hr hlk (by decide) dX2_allSaidHolds_66 h
      · replace h := q_i2 c5 h
        refine lv_iload_n hx hb dX2_allSaidHolds_10 rfl (lv_at hl 3 rfl) ?_
        refine lv_bipush (v := 6) hx hb dX2_allSaidHolds_11 (by decide) ?_
        refine lv_icmp_ge (tgt := 65) hx hb dX2_allSaidHolds_13 (by decide) (fun c6 => ?_) (fun c6 => ?_)
        · replace h := q_i1 c6 h
          refine lv_iconst (v := 1) hx hb dX2_allSaidHolds_65 (by decide) ?_
          exact q_rZ F hr hlk (by decide) dX2_allSaidHolds_66 h
        · replace h := q_i2 c6 h
          refine lv_aload_n hx hb dX2_allSaidHolds_16 rfl (lv_at hl 0 rfl) ?_
          refine lv_aload_n hx hb dX2_allSaidHolds_17 rfl (lv_at hl 0 rfl) ?_
          refine q_get F q_K2 hP 0 rfl 12 (by decide) q_fX2_30 rfl dX2_allSaidHolds_18 ?_
          refine lv_iload_n hx hb dX2_allSaidHolds_21 rfl (lv_at hl 3 rfl) ?_
          obtain ⟨eg7, h⟩ := q_og h
          refine q_iald F hP 7 rfl eg7 dX2_allSaidHolds_22 ?_
          refine lv_iload_n hx hb dX2_allSaidHolds_23 rfl (lv_at hl 1 rfl) ?_
          refine lv_iload_n hx hb dX2_allSaidHolds_24 rfl (lv_at hl 2 rfl) ?_
          obtain ⟨x8, c9, h⟩ := q_o1 h
          refine q_roV F (kX2_carriedOf l E h0 a0 s0 (s0 12 v3.toNatClampNeg) v1 v2 x8 c9) q_cX2_carriedOf q_lX2_136 hV hP ⟨by decide, by decide⟩ (q0 := 0) rfl rfl rfl rfl ⟨_, hl⟩ (rest := []) rfl (Nat.le_of_ble_eq_true rfl) dX2_allSaidHolds_25 ?_
          refine lv_aload_n hx hb dX2_allSaidHolds_28 rfl (lv_at hl 0 rfl) ?_
          refine q_get F q_K2 hP 0 rfl 13 (by decide) q_fX2_33 rfl dX2_allSaidHolds_29 ?_
          refine lv_iload_n hx hb dX2_allSaidHolds_32 rfl (lv_at hl 3 rfl) ?_
          obtain ⟨eg10, h⟩ := q_og h
          refine q_iald F hP 8 rfl eg10 dX2_allSaidHolds_33 ?_
          refine lv_icmp_le (tgt := 41) hx hb dX2_allSaidHolds_34 (by decide) (fun c11 => ?_) (fun c11 => ?_)
          · replace h := q_i1 c11 h
            refine lv_iconst (v := 0) hx hb dX2_allSaidHolds_41 (by decide) ?_
            exact K42 v1 v2 v3 (0 : Int32) ls (lv_sub hl [0, 1, 2, 3] rfl) h
          · replace h := q_i2 c11 h
            refine lv_iconst (v := 1) hx hb dX2_allSaidHolds_37 (by decide) ?_
            refine lv_goto (tgt := 42) hx hb dX2_allSaidHolds_38 (by decide) ?_
            exact K42 v1 v2 v3 (1 : Int32) ls (lv_sub hl [0, 1, 2, 3] rfl) h
  unfold zX2_allSaidHolds at h
  refine lv_iconst (v := 0) hx hb dX2_allSaidHolds_0 (by decide) ?_
  refine lv_istore_n (lv' := [(3, .int (0 : Int32)), (0, .ref h0), (1, .int v1), (2, .int v2)]) hx hb dX2_allSaidHolds_1 rfl hl (by decide) rfl (fun ls hl => ?_)
  exact K2 70000 v1 v2 (0 : Int32) ls (lv_sub hl [1, 2, 3, 0] rfl) h
def jX2_bakedInto_4 (s0 : q_S) (v1 : Int32) (k4 : Int32 → Int32 → Option (Int32)) (v2 : Int32) (v3 : Int32) : Option (Int32) := if (9 : Int32) < v3 then (some v2) else (q_b1 (zX2_allSaidHolds s0 v1 v3) fun x2 => if x2 = 0 then (q_lt (v3 + 1) fun x5 => k4 v2 x5) else (q_lt (v2 ||| ((1 : Int32) <<< (v3 &&& 31))) fun x6 => q_lt (v3 + 1) fun x7 => k4 x6 x7))
def zX2_bakedInto_4 (s0 : q_S) (v1 : Int32) : Nat → Int32 → Int32 → Option (Int32)
  | 0, _, _ => none
  | n + 1, v2, v3 => jX2_bakedInto_4 s0 v1 (zX2_bakedInto_4 s0 v1 n) v2 v3
theorem zX2_bakedInto_4_s (s0 : q_S) (v1 : Int32) (n : Nat) (v2 : Int32) (v3 : Int32) : zX2_bakedInto_4 s0 v1 (n + 1) v2 v3 = jX2_bakedInto_4 s0 v1 (zX2_bakedInto_4 s0 v1 n) v2 v3 := rfl
def zX2_bakedInto (s0 : q_S) (v1 : Int32) : Option (Int32) := zX2_bakedInto_4 s0 v1 70000 (0 : Int32) (0 : Int32)
set_option maxHeartbeats 4000000 in
set_option maxRecDepth 100000 in
theorem kX2_bakedInto (l : Launch) (E : q_E) (h0 : Nat) (a0 : Nat → Nat) (s0 : q_S) (v1 : Int32) (r : Int32) (h : zX2_bakedInto s0 v1 = some r) : q_RO l E yX2_bakedInto cX2_bakedInto 4 (some .int) 4 [.ref h0, .int v1] (q_cV E h0 a0 s0) (.int r) := by
  refine q_RO.intro (by decide) (Nat.le_of_ble_eq_true rfl) ?_
  intro p e s m args below meth c X hP ls hl
  obtain ⟨hx, hb, hml, hr, hlk, hown, hB, hE⟩ := X
  have hown : s.vm.findClass RX2 = some m.cls := hown
  have F : q_Fx p s m c E RX2 cX2_bakedInto 4 := ⟨hx, hb, hml, hown, hB, hE⟩
  have hV := q_EV.here hE
  have hl : lv_has ls 4 [(0, .ref h0), (1, .int v1)] := hl
  have K4 : ∀ (n4_ : Nat), ∀ (v1 : Int32) (v2 : Int32) (v3 : Int32), ∀ ls : Array Slot, lv_has ls 4 [(0, .ref h0), (1, .int v1), (2, .int v2), (3, .int v3)] → zX2_bakedInto_4 s0 v1 n4_ v2 v3 = some r → W p l e (q_rm 4) s m args below meth c s.heap [] 0 0 (MQ below (q_roQ (.int r)) args s 0 0 q_no) (F0 m 4 ls []) := by
    intro n4_
    induction n4_ with
    | zero => intro v1 v2 v3 ls hl h; exact q_nn h
    | succ n4_ ih4 =>
      intro v1 v2 v3 ls hl h
      rw [zX2_bakedInto_4_s] at h
      unfold jX2_bakedInto_4 at h
      refine lv_iload_n hx hb dX2_bakedInto_4 rfl (lv_at hl 3 rfl) ?_
      refine lv_bipush (v := 9) hx hb dX2_bakedInto_5 (by decide) ?_
      refine lv_icmp_gt (tgt := 31) hx hb dX2_bakedInto_7 (by decide) (fun c1 => ?_) (fun c1 => ?_)
      · replace h := q_i1 c1 h
        refine lv_iload_n hx hb dX2_bakedInto_31 rfl (lv_at hl 2 rfl) ?_
        exact q_rI F hr hlk dX2_bakedInto_32 h
      · replace h := q_i2 c1 h
        refine lv_aload_n hx hb dX2_bakedInto_10 rfl (lv_at hl 0 rfl) ?_
        refine lv_iload_n hx hb dX2_bakedInto_11 rfl (lv_at hl 1 rfl) ?_
        refine lv_iload_n hx hb dX2_bakedInto_12 rfl (lv_at hl 3 rfl) ?_
        obtain ⟨x2, c3, h⟩ := q_o1 h
        refine q_roV F (kX2_allSaidHolds l E h0 a0 s0 v1 v3 x2 c3) q_cX2_allSaidHolds q_lX2_133 hV hP ⟨by decide, by decide⟩ (q0 := 0) rfl rfl rfl rfl ⟨_, hl⟩ (rest := []) rfl (Nat.le_of_ble_eq_true rfl) dX2_bakedInto_13 ?_
        refine lv_if_eq (tgt := 25) hx hb dX2_bakedInto_16 (by decide) (fun c4 => ?_) (fun c4 => ?_)
        · replace h := q_i1 c4 h
          obtain ⟨x5, ex5, h⟩ := q_ol h
          refine lv_iinc (v := x5) (lv' := [(3, .int x5), (0, .ref h0), (1, .int v1), (2, .int v2)]) hx hb dX2_bakedInto_25 hl (k := 3) rfl (by rw [ex5]; rfl) (by decide) rfl (fun ls hl => ?_)
          refine lv_goto (tgt := 4) hx hb dX2_bakedInto_28 (by decide) ?_
          exact ih4 v1 v2 x5 ls (lv_sub hl [1, 2, 3, 0] rfl) h
        · replace h := q_i2 c4 h
          refine lv_iload_n hx hb dX2_bakedInto_19 rfl (lv_at hl 2 rfl) ?_
          refine lv_iconst (v := 1) hx hb dX2_bakedInto_20 (by decide) ?_
          refine lv_iload_n hx hb dX2_bakedInto_21 rfl (lv_at hl 3 rfl) ?_
          refine lv_ishl hx hb dX2_bakedInto_22 ?_
          refine lv_ior hx hb dX2_bakedInto_23 ?_
          obtain ⟨x6, ex6, h⟩ := q_ol h
          refine q_top ex6 ?_
          refine lv_istore_n (lv' := [(2, .int x6), (0, .ref h0), (1, .int v1), (3, .int v3)]) hx hb dX2_bakedInto_24 rfl hl (by decide) rfl (fun ls hl => ?_)
          obtain ⟨x7, ex7, h⟩ := q_ol h
          refine lv_iinc (v := x7) (lv' := [(3, .int x7), (2, .int x6), (0, .ref h0), (1, .int v1)]) hx hb dX2_bakedInto_25 hl (k := 3) rfl (by rw [ex7]; rfl) (by decide) rfl (fun ls hl => ?_)
          refine lv_goto (tgt := 4) hx hb dX2_bakedInto_28 (by decide) ?_
          exact ih4 v1 x6 x7 ls (lv_sub hl [2, 3, 1, 0] rfl) h
  unfold zX2_bakedInto at h
  refine lv_iconst (v := 0) hx hb dX2_bakedInto_0 (by decide) ?_
  refine lv_istore_n (lv' := [(2, .int (0 : Int32)), (0, .ref h0), (1, .int v1)]) hx hb dX2_bakedInto_1 rfl hl (by decide) rfl (fun ls hl => ?_)
  refine lv_iconst (v := 0) hx hb dX2_bakedInto_2 (by decide) ?_
  refine lv_istore_n (lv' := [(3, .int (0 : Int32)), (2, .int (0 : Int32)), (0, .ref h0), (1, .int v1)]) hx hb dX2_bakedInto_3 rfl hl (by decide) rfl (fun ls hl => ?_)
  exact K4 70000 v1 (0 : Int32) (0 : Int32) ls (lv_sub hl [2, 3, 1, 0] rfl) h
def jX3_tryLoavesFrom_51 (rc : q_S → q_S → Int32 → Int32 → Option (q_S × q_S)) (v0 : Int32) (v1 : Int32) (k51 : q_S → q_S → Int32 → Option (q_S × q_S)) (s0 : q_S) (s1 : q_S) (v4 : Int32) : Option (q_S × q_S) := if (4 : Int32) ≤ v4 then (some (s0, s1)) else (q_b1 (zX2_wouldTake s0 v4 v0) fun x2 => if x2 = 0 then (q_lt (v4 + 1) fun x5 => k51 s0 s1 x5) else (q_gd (q_ib v4 4) (q_lt (s0 3 v4.toNatClampNeg) fun x7 => q_b1 (zX2_takeWhole s0 v4 v0) fun y8 => q_gd (q_ib v0 8) (q_lt (q_u s1 0 v0.toNatClampNeg v4) fun y11 => q_gd (q_ib v4 4) (q_b2 (rc y8 y11 (v0 + (1 : Int32)) (if v1 < (y8 4 v4.toNatClampNeg) then (y8 4 v4.toNatClampNeg) else v1)) fun y13 y14 => q_b1 (zX2_giveBack y13 v4 v0 x7) fun y16 => q_lt (v4 + 1) fun x18 => k51 y16 y14 x18)))))
def zX3_tryLoavesFrom_51 (rc : q_S → q_S → Int32 → Int32 → Option (q_S × q_S)) (v0 : Int32) (v1 : Int32) : Nat → q_S → q_S → Int32 → Option (q_S × q_S)
  | 0, _, _, _ => none
  | n + 1, s0, s1, v4 => jX3_tryLoavesFrom_51 rc v0 v1 (zX3_tryLoavesFrom_51 rc v0 v1 n) s0 s1 v4
theorem zX3_tryLoavesFrom_51_s (rc : q_S → q_S → Int32 → Int32 → Option (q_S × q_S)) (v0 : Int32) (v1 : Int32) (n : Nat) (s0 : q_S) (s1 : q_S) (v4 : Int32) : zX3_tryLoavesFrom_51 rc v0 v1 (n + 1) s0 s1 v4 = jX3_tryLoavesFrom_51 rc v0 v1 (zX3_tryLoavesFrom_51 rc v0 v1 n) s0 s1 v4 := rfl
def zX3_tryLoavesFrom_16 (rc : q_S → q_S → Int32 → Int32 → Option (q_S × q_S)) (s0 : q_S) (s1 : q_S) (v0 : Int32) (v1 : Int32) : Option (q_S × q_S) := q_b1 (zX2_isLoaf s0 v0) fun x19 => if x19 = 0 then (q_b1 (zX1_keep s1 v1) fun y28 => some (s0, y28)) else (q_b1 (zX2_wasEaten s0 v0) fun x22 => if x22 = 0 then (zX3_tryLoavesFrom_51 rc v0 v1 70000 s0 s1 (0 : Int32)) else (q_b2 (rc s0 s1 (v0 + (1 : Int32)) v1) fun y25 y26 => some (y25, y26)))
def jX3_tryLoavesFrom (rc : q_S → q_S → Int32 → Int32 → Option (q_S × q_S)) (s0 : q_S) (s1 : q_S) (v0 : Int32) (v1 : Int32) : Option (q_S × q_S) := if (s1 3 0) = 0 then (zX3_tryLoavesFrom_16 rc s0 s1 v0 v1) else (if v1 < (s1 2 0) then (zX3_tryLoavesFrom_16 rc s0 s1 v0 v1) else (some (s0, s1)))
def zX3_tryLoavesFrom : Nat → q_S → q_S → Int32 → Int32 → Option (q_S × q_S)
  | 0, _, _, _, _ => none
  | n + 1, s0, s1, v0, v1 => jX3_tryLoavesFrom (zX3_tryLoavesFrom n) s0 s1 v0 v1
theorem zX3_tryLoavesFrom_s (n : Nat) (s0 : q_S) (s1 : q_S) (v0 : Int32) (v1 : Int32) : zX3_tryLoavesFrom (n + 1) s0 s1 v0 v1 = jX3_tryLoavesFrom (zX3_tryLoavesFrom n) s0 s1 v0 v1 := rfl
set_option maxHeartbeats 4000000 in
set_option maxRecDepth 100000 in
theorem kX3_tryLoavesFrom (l : Launch) (E : q_E) (h0 : Nat) (a0 : Nat → Nat) (h1 : Nat) (a1 : Nat → Nat) : ∀ (fu : Nat) (s0 : q_S) (s1 : q_S) (v0 : Int32) (v1 : Int32) (sz : Nat) (rs0 : q_S) (rs1 : q_S) (h : zX3_tryLoavesFrom fu s0 s1 v0 v1 = some (rs0, rs1)), q_MU l E yX3_tryLoavesFrom cX3_tryLoavesFrom 6 none (4 + fu) [.int v0, .int v1, .ref h0, .ref h1] sz ((q_cV E h0 a0 s0) ++ (q_cL E h1 a1 s1)) ((q_cV E h0 a0 rs0) ++ (q_cL E h1 a1 rs1)) none := by
  intro fu
  induction fu with
  | zero => intro s0 s1 v0 v1 sz rs0 rs1 h; exact q_nn h
  | succ fu ihR =>
    intro s0 s1 v0 v1 sz rs0 rs1 h
    rw [zX3_tryLoavesFrom_s] at h
    refine q_MU.intro (by decide) (Nat.le_of_ble_eq_true rfl) ?_
    intro p e s m args below meth c A X hP hD hA hAl ls hl
    obtain ⟨hx, hb, hml, hr, hlk, hown, hB, hE⟩ := X
    have hown : s.vm.findClass RX3 = some m.cls := hown
    have F : q_Fx p s m c E RX3 cX3_tryLoavesFrom 6 := ⟨hx, hb, hml, hown, hB, hE⟩
    have hS : va_S A s.heap s.heap [] := va_S.rf
    have hl : lv_has ls 6 [(0, .int v0), (1, .int v1), (2, .ref h0), (3, .ref h1)] := hl
    have K51 : ∀ (n51_ : Nat), ∀ (v0 : Int32) (v1 : Int32) (v4 : Int32) (s0 : q_S) (s1 : q_S), ∀ (H : Heap) (locs : List Loc), va_P (q_D E) vwCl ((q_cV E h0 a0 s0) ++ (q_cL E h1 a1 s1)) H → va_D A ((q_cV E h0 a0 s0) ++ (q_cL E h1 a1 s1)) → va_S A s.heap H locs → ∀ ls : Array Slot, lv_has ls 6 [(0, .int v0), (1, .int v1), (2, .ref h0), (3, .ref h1), (4, .int v4)] → zX3_tryLoavesFrom_51 (zX3_tryLoavesFrom fu) v0 v1 n51_ s0 s1 v4 = some (rs0, rs1) → W p l e (q_rm (4 + (fu + 1))) s m args below meth c H locs 0 0 (MQ below (q_muQ E A ((q_cV E h0 a0 rs0) ++ (q_cL E h1 a1 rs1)) none) args s 0 0 A) (F0 m 51 ls []) := by
      intro n51_
      induction n51_ with
      | zero => intro v0 v1 v4 s0 s1 H locs hP hD hS ls hl h; exact q_nn h
      | succ n51_ ih51 =>
        intro v0 v1 v4 s0 s1 H locs hP hD hS ls hl h
        rw [zX3_tryLoavesFrom_51_s] at h
        unfold jX3_tryLoavesFrom_51 at h
        refine lv_iload hx hb dX3_tryLoavesFrom_51 (lv_at hl 4 rfl) ?_
        refine lv_iconst (v := 4) hx hb dX3_tryLoavesFrom_53 (by decide) ?_
        refine lv_icmp_ge (tgt := 125) hx hb dX3_tryLoavesFrom_54 (by decide) (fun c1 => ?_) (fun c1 => ?_)
        · replace h := q_i1 c1 h
          cases h
          exact q_wV F hr hlk dX3_tryLoavesFrom_125 hP hD hS
        · replace h := q_i2 c1 h
          refine lv_aload_n hx hb dX3_tryLoavesFrom_57 rfl (lv_at hl 2 rfl) ?_
          refine lv_iload hx hb dX3_tryLoavesFrom_58 (lv_at hl 4 rfl) ?_
          refine lv_iload_n hx hb dX3_tryLoavesFrom_60 rfl (lv_at hl 0 rfl) ?_
          obtain ⟨x2, c3, h⟩ := q_o1 h
          refine q_roV F (kX2_wouldTake l E h0 a0 s0 v4 v0 x2 c3) q_cX2_wouldTake q_lX3_87 (q_EV.go F.2.2.2.2.2 hAl hS) ((q_s_VL_V_0 E h0 a0 h1 a1 s0 s1).P hP) ⟨by omega, by decide⟩ (q0 := 0) rfl rfl rfl rfl ⟨_, hl⟩ (rest := []) rfl (Nat.le_of_ble_eq_true rfl) dX3_tryLoavesFrom_61 ?_
          refine lv_if_eq (tgt := 119) hx hb dX3_tryLoavesFrom_64 (by decide) (fun c4 => ?_) (fun c4 => ?_)
          · replace h := q_i1 c4 h
            obtain ⟨x5, ex5, h⟩ := q_ol h
            refine lv_iinc (v := x5) (lv' := [(4, .int x5), (0, .int v0), (1, .int v1), (2, .ref h0), (3, .ref h1)]) hx hb dX3_tryLoavesFrom_119 hl (k := 4) rfl (by rw [ex5]; rfl) (by decide) rfl (fun ls hl => ?_)
            refine lv_goto (tgt := 51) hx hb dX3_tryLoavesFrom_122 (by decide) ?_
            exact ih51 v0 v1 x5 s0 s1 H _ hP hD hS ls (lv_sub hl [1, 2, 3, 4, 0] rfl) h
          · replace h := q_i2 c4 h
            refine lv_aload_n hx hb dX3_tryLoavesFrom_67 rfl (lv_at hl 2 rfl) ?_
            refine q_get F q_K2 hP 0 rfl 3 (by decide) q_fX3_184 rfl dX3_tryLoavesFrom_68 ?_
            refine lv_iload hx hb dX3_tryLoavesFrom_71 (lv_at hl 4 rfl) ?_
            obtain ⟨eg6, h⟩ := q_og h
            refine q_iald F hP 2 rfl eg6 dX3_tryLoavesFrom_73 ?_
            obtain ⟨x7, ex7, h⟩ := q_ol h
            refine q_top ex7 ?_
            refine lv_istore (lv' := [(5, .int x7), (0, .int v0), (1, .int v1), (2, .ref h0), (3, .ref h1), (4, .int v4)]) hx hb dX3_tryLoavesFrom_74 hl (by decide) rfl (fun ls hl => ?_)
            refine lv_aload_n hx hb dX3_tryLoavesFrom_76 rfl (lv_at hl 3 rfl) ?_
            refine lv_iload hx hb dX3_tryLoavesFrom_77 (lv_at hl 5 rfl) ?_
            refine lv_iload_n hx hb dX3_tryLoavesFrom_79 rfl (lv_at hl 1 rfl) ?_
            obtain ⟨y8, c9, h⟩ := q_o1 h
            refine q_muV F (kX2_takeWhole l E h0 a0 s0 v4 v0 H.size y8 c9) q_cX2_takeWhole q_lX3_90 (q_s_VL_V_0w E h0 a0 h1 a1 s0 s1 y8) hP hD hS hA hAl ⟨by omega, by decide⟩ (q0 := 0) rfl rfl rfl rfl ⟨_, hl⟩ (rest := []) rfl (Nat.le_of_ble_eq_true rfl) dX3_tryLoavesFrom_80 (fun H locs (hP : va_P (q_D E) vwCl ((q_cV E h0 a0 y8) ++ (q_cL E h1 a1 s1)) H) hD hS => ?_)
            refine lv_aload_n hx hb dX3_tryLoavesFrom_83 rfl (lv_at hl 4 rfl) ?_
            refine q_get F q_K1 hP 9 rfl 0 (by decide) q_fX3_228 rfl dX3_tryLoavesFrom_84 ?_
            refine lv_iload_n hx hb dX3_tryLoavesFrom_87 rfl (lv_at hl 1 rfl) ?_
            refine lv_iload hx hb dX3_tryLoavesFrom_88 (lv_at hl 5 rfl) ?_
            obtain ⟨eg10, h⟩ := q_og h
            obtain ⟨y11, ey11, h⟩ := q_ol h
            refine q_iast F hP hD hS 10 rfl eg10 (by rw [ey11]; rfl) dX3_tryLoavesFrom_90 (fun H locs (hP : va_P (q_D E) vwCl ((q_cV E h0 a0 y8) ++ (q_cL E h1 a1 y11)) H) hD hS => ?_)
            refine lv_iload_n hx hb dX3_tryLoavesFrom_91 rfl (lv_at hl 1 rfl) ?_
            refine lv_iconst (v := 1) hx hb dX3_tryLoavesFrom_92 (by decide) ?_
            refine lv_iadd hx hb dX3_tryLoavesFrom_93 ?_
            refine lv_iload_n hx hb dX3_tryLoavesFrom_94 rfl (lv_at hl 2 rfl) ?_
            refine lv_aload_n hx hb dX3_tryLoavesFrom_95 rfl (lv_at hl 3 rfl) ?_
            refine q_get F q_K2 hP 0 rfl 4 (by decide) q_fX3_94 rfl dX3_tryLoavesFrom_96 ?_
            refine lv_iload hx hb dX3_tryLoavesFrom_99 (lv_at hl 5 rfl) ?_
            obtain ⟨eg12, h⟩ := q_og h
            refine q_iald F hP 3 rfl eg12 dX3_tryLoavesFrom_101 ?_
            refine q_max F q_mX3_231 (by omega) ⟨_, hl⟩ (Nat.le_of_ble_eq_true rfl) dX3_tryLoavesFrom_102 ?_
            refine lv_aload_n hx hb dX3_tryLoavesFrom_105 rfl (lv_at hl 3 rfl) ?_
            refine lv_aload_n hx hb dX3_tryLoavesFrom_106 rfl (lv_at hl 4 rfl) ?_
            obtain ⟨y13, y14, c15, h⟩ := q_o2 h
            refine q_muS F (ihR y8 y11 (v0 + (1 : Int32)) (if v1 < (y8 4 v4.toNatClampNeg) then (y8 4 v4.toNatClampNeg) else v1) H.size y13 y14 c15) q_cX3_tryLoavesFrom q_lX3_131 (q_s_VL_VL_0_1w E h0 a0 h1 a1 y8 y11 y13 y14) hP hD hS hA hAl ⟨by omega, by decide⟩ rfl ⟨_, hl⟩ (rest := []) rfl (Nat.le_of_ble_eq_true rfl) dX3_tryLoavesFrom_107 (fun H locs (hP : va_P (q_D E) vwCl ((q_cV E h0 a0 y13) ++ (q_cL E h1 a1 y14)) H) hD hS => ?_)
            refine lv_aload_n hx hb dX3_tryLoavesFrom_110 rfl (lv_at hl 3 rfl) ?_
            refine lv_iload hx hb dX3_tryLoavesFrom_111 (lv_at hl 5 rfl) ?_
            refine lv_iload_n hx hb dX3_tryLoavesFrom_113 rfl (lv_at hl 1 rfl) ?_
            refine lv_iload hx hb dX3_tryLoavesFrom_114 (lv_at hl 0 rfl) ?_
            obtain ⟨y16, c17, h⟩ := q_o1 h
            refine q_muV F (kX2_giveBack l E h0 a0 y13 v4 v0 x7 H.size y16 c17) q_cX2_giveBack q_lX3_236 (q_s_VL_V_0w E h0 a0 h1 a1 y13 y14 y16) hP hD hS hA hAl ⟨by omega, by decide⟩ (q0 := 0) rfl rfl rfl rfl ⟨_, hl⟩ (rest := []) rfl (Nat.le_of_ble_eq_true rfl) dX3_tryLoavesFrom_116 (fun H locs (hP : va_P (q_D E) vwCl ((q_cV E h0 a0 y16) ++ (q_cL E h1 a1 y14)) H) hD hS => ?_)
            obtain ⟨x18, ex18, h⟩ := q_ol h
            refine lv_iinc (v := x18) (lv' := [(4, .int x18), (5, .int x7), (0, .int v0), (1, .int v1), (2, .ref h0), (3, .ref h1)]) hx hb dX3_tryLoavesFrom_119 hl (k := 5) rfl (by rw [ex18]; rfl) (by decide) rfl (fun ls hl => ?_)
            refine lv_goto (tgt := 51) hx hb dX3_tryLoavesFrom_122 (by decide) ?_
            exact ih51 v0 v1 x18 y16 y14 H _ hP hD hS ls (lv_sub hl [2, 3, 4, 5, 0] rfl) h
    have K16 : ∀ (v0 : Int32) (v1 : Int32) (s0 : q_S) (s1 : q_S), ∀ (H : Heap) (locs : List Loc), va_P (q_D E) vwCl ((q_cV E h0 a0 s0) ++ (q_cL E h1 a1 s1)) H → va_D A ((q_cV E h0 a0 s0) ++ (q_cL E h1 a1 s1)) → va_S A s.heap H locs → ∀ ls : Array Slot, lv_has ls 6 [(0, .int v0), (1, .int v1), (2, .ref h0), (3, .ref h1)] → zX3_tryLoavesFrom_16 (zX3_tryLoavesFrom fu) s0 s1 v0 v1 = some (rs0, rs1) → W p l e (q_rm (4 + (fu + 1))) s m args below meth c H locs 0 0 (MQ below (q_muQ E A ((q_cV E h0 a0 rs0) ++ (q_cL E h1 a1 rs1)) none) args s 0 0 A) (F0 m 16 ls []) := by
      intro v0 v1 s0 s1 H locs hP hD hS ls hl h
      unfold zX3_tryLoavesFrom_16 at h
      refine lv_aload_n hx hb dX3_tryLoavesFrom_16 rfl (lv_at hl 2 rfl) ?_
      refine lv_iload_n hx hb dX3_tryLoavesFrom_17 rfl (lv_at hl 0 rfl) ?_
      obtain ⟨x19, c20, h⟩ := q_o1 h
      refine q_roV F (kX2_isLoaf l E h0 a0 s0 v0 x19 c20) q_cX2_isLoaf q_lX3_81 (q_EV.go F.2.2.2.2.2 hAl hS) ((q_s_VL_V_0 E h0 a0 h1 a1 s0 s1).P hP) ⟨by omega, by decide⟩ (q0 := 0) rfl rfl rfl rfl ⟨_, hl⟩ (rest := []) rfl (Nat.le_of_ble_eq_true rfl) dX3_tryLoavesFrom_18 ?_
      refine lv_if_ne (tgt := 30) hx hb dX3_tryLoavesFrom_21 (by decide) (fun c21 => ?_) (fun c21 => ?_)
      · replace h := q_i2 c21 h
        refine lv_aload_n hx hb dX3_tryLoavesFrom_30 rfl (lv_at hl 2 rfl) ?_
        refine lv_iload_n hx hb dX3_tryLoavesFrom_31 rfl (lv_at hl 0 rfl) ?_
        obtain ⟨x22, c23, h⟩ := q_o1 h
        refine q_roV F (kX2_wasEaten l E h0 a0 s0 v0 x22 c23) q_cX2_wasEaten q_lX3_202 (q_EV.go F.2.2.2.2.2 hAl hS) ((q_s_VL_V_0 E h0 a0 h1 a1 s0 s1).P hP) ⟨by omega, by decide⟩ (q0 := 0) rfl rfl rfl rfl ⟨_, hl⟩ (rest := []) rfl (Nat.le_of_ble_eq_true rfl) dX3_tryLoavesFrom_32 ?_
        refine lv_if_eq (tgt := 48) hx hb dX3_tryLoavesFrom_35 (by decide) (fun c24 => ?_) (fun c24 => ?_)
        · replace h := q_i1 c24 h
          refine lv_iconst (v := 0) hx hb dX3_tryLoavesFrom_48 (by decide) ?_
          refine lv_istore (lv' := [(4, .int (0 : Int32)), (0, .int v0), (1, .int v1), (2, .ref h0), (3, .ref h1)]) hx hb dX3_tryLoavesFrom_49 hl (by decide) rfl (fun ls hl => ?_)
          exact K51 70000 v0 v1 (0 : Int32) s0 s1 H _ hP hD hS ls (lv_sub hl [1, 2, 3, 4, 0] rfl) h
        · replace h := q_i2 c24 h
          refine lv_iload_n hx hb dX3_tryLoavesFrom_38 rfl (lv_at hl 0 rfl) ?_
          refine lv_iconst (v := 1) hx hb dX3_tryLoavesFrom_39 (by decide) ?_
          refine lv_iadd hx hb dX3_tryLoavesFrom_40 ?_
          refine lv_iload_n hx hb dX3_tryLoavesFrom_41 rfl (lv_at hl 1 rfl) ?_
          refine lv_aload_n hx hb dX3_tryLoavesFrom_42 rfl (lv_at hl 2 rfl) ?_
          refine lv_aload_n hx hb dX3_tryLoavesFrom_43 rfl (lv_at hl 3 rfl) ?_
          obtain ⟨y25, y26, c27, h⟩ := q_o2 h
          refine q_muS F (ihR s0 s1 (v0 + (1 : Int32)) v1 H.size y25 y26 c27) q_cX3_tryLoavesFrom q_lX3_131 (q_s_VL_VL_0_1w E h0 a0 h1 a1 s0 s1 y25 y26) hP hD hS hA hAl ⟨by omega, by decide⟩ rfl ⟨_, hl⟩ (rest := []) rfl (Nat.le_of_ble_eq_true rfl) dX3_tryLoavesFrom_44 (fun H locs (hP : va_P (q_D E) vwCl ((q_cV E h0 a0 y25) ++ (q_cL E h1 a1 y26)) H) hD hS => ?_)
          cases h
          exact q_wV F hr hlk dX3_tryLoavesFrom_47 hP hD hS
      · replace h := q_i1 c21 h
        refine lv_aload_n hx hb dX3_tryLoavesFrom_24 rfl (lv_at hl 3 rfl) ?_
        refine lv_iload_n hx hb dX3_tryLoavesFrom_25 rfl (lv_at hl 1 rfl) ?_
        obtain ⟨y28, c29, h⟩ := q_o1 h
        refine q_muV F (kX1_keep l E h1 a1 s1 v1 H.size y28 c29) q_cX1_keep q_lX3_224 (q_s_VL_L_1w E h0 a0 h1 a1 s0 s1 y28) hP hD hS hA hAl ⟨by omega, by decide⟩ (q0 := 0) rfl rfl rfl rfl ⟨_, hl⟩ (rest := []) rfl (Nat.le_of_ble_eq_true rfl) dX3_tryLoavesFrom_26 (fun H locs (hP : va_P (q_D E) vwCl ((q_cV E h0 a0 s0) ++ (q_cL E h1 a1 y28)) H) hD hS => ?_)
        cases h
        exact q_wV F hr hlk dX3_tryLoavesFrom_29 hP hD hS
    unfold jX3_tryLoavesFrom at h
    refine lv_aload_n hx hb dX3_tryLoavesFrom_0 rfl (lv_at hl 3 rfl) ?_
    refine q_get F q_K1 hP 9 rfl 3 (by decide) q_fX3_135 rfl dX3_tryLoavesFrom_1 ?_
    refine lv_if_eq (tgt := 16) hx hb dX3_tryLoavesFrom_4 (by decide) (fun c30 => ?_) (fun c30 => ?_)
    · replace h := q_i1 c30 h
      exact K16 v0 v1 s0 s1 _ _ hP hD hS ls (lv_sub hl [0, 1, 2, 3] rfl) h
    · replace h := q_i2 c30 h
      refine lv_iload_n hx hb dX3_tryLoavesFrom_7 rfl (lv_at hl 1 rfl) ?_
      refine lv_aload_n hx hb dX3_tryLoavesFrom_8 rfl (lv_at hl 3 rfl) ?_
      refine q_get F q_K1 hP 9 rfl 2 (by decide) q_fX3_141 rfl dX3_tryLoavesFrom_9 ?_
      refine lv_icmp_lt (tgt := 16) hx hb dX3_tryLoavesFrom_12 (by decide) (fun c31 => ?_) (fun c31 => ?_)
      · replace h := q_i1 c31 h
        exact K16 v0 v1 s0 s1 _ _ hP hD hS ls (lv_sub hl [0, 1, 2, 3] rfl) h
      · replace h := q_i2 c31 h
        cases h
        exact q_wV F hr hlk dX3_tryLoavesFrom_15 hP hD hS
