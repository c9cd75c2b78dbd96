set_option maxHeartbeats 4000000 in
theorem lw_c_letter {p : Program} {l : Launch} {e : Env} {s : State} {m : MethodId} {below : List Frame} {meth : Method} {c : Code} {Q : State → Prop} {E : q_E} {b L : Nat} {xs : Nat → Int32} {ad a : Nat → Nat} {q n i : Nat} (B : lw_Bx p s m meth c E b L xs) (h0 : ad 0 = ad 0) {s0 s1 s2 s3 s4 s5 μ : q_S} {g : q_G} {H : Heap} {locs : List Loc} {ls : Array Slot} (hi : i + 4 ≤ L) (hn : n < 1000) (hR : r_R n s0 s1 s2 s3 μ) (hP : va_P (q_D E) vwCl (q_wX E ad s0 s1 s2 s3 s4 s5 ++ q_cM E q a μ g) H) (hD : va_D (fun q : Nat => s.heap.size ≤ q) (q_wX E ad s0 s1 s2 s3 s4 s5 ++ q_cM E q a μ g)) (hS : va_S (fun q : Nat => s.heap.size ≤ q) s.heap H locs) (hl : lv_has ls 4 [(0, .ref b), (1, .ref (ad 0)), (2, .ref q), (3, .int (nI i))]) (kk : lw_K p l e s m b below meth c Q E ad a q (n + 1) i) : W p l e room_1 s m #[Value.ref b] below meth c H locs 55 396 Q (F0 m 124 ls []) := by
  obtain ⟨F, hx, hb, hX, hbl, hbA, hA, hAl, hL31⟩ := B
  have j1 : vp_in (nI i + (1 : Int32)) L := by rw [nI_1]; exact vp_in_nI (by omega) (by omega)
  have j2 : vp_in (nI i + (2 : Int32)) L := by rw [show nI i + (2 : Int32) = nI (i + 2) from nI_add i 2]; exact vp_in_nI (by omega) (by omega)
  have j3 : vp_in (nI i + (3 : Int32)) L := by rw [show nI i + (3 : Int32) = nI (i + 3) from nI_add i 3]; exact vp_in_nI (by omega) (by omega)
  obtain ⟨r, t1, μ1, k1, k2, hR1⟩ := o_letter hR (xs (nI i + (1 : Int32)).toNatClampNeg)
  refine lv_aload_n hx hb dL_law_124 rfl (lv_at hl 1 rfl) ?_
  refine lv_aload_n hx hb dL_law_125 rfl (lv_at hl 0 rfl) ?_
  refine lv_iload_n hx hb dL_law_126 rfl (lv_at hl 3 rfl) ?_
  refine lv_iconst (v := 1) hx hb dL_law_127 (by decide) ?_
  refine lv_iadd hx hb dL_law_128 ?_
  refine va_sld hx hb hX hbl hbA hS j1 dL_law_129 ?_
  refine q_muVg F (kX3_letter l E ad s0 s1 s2 s3 s4 s5 (xs (nI i + (1 : Int32)).toNatClampNeg) H.size r t1 k1) q_cX3_letter q_lL_13 (q_cutX E ad q a s0 s1 s2 s3 s4 s5 s0 t1 s2 s3 s4 s5 μ g) hP hD hS hA hAl lw_room (q0 := 0) rfl rfl rfl rfl ⟨_, hl⟩ (rest := []) rfl (Nat.le_of_ble_eq_true rfl) dL_law_130 (fun H locs hP hD hS => ?_)
  refine lv_aload_n hx hb dL_law_133 rfl (lv_at hl 2 rfl) ?_
  refine lv_aload_n hx hb dL_law_134 rfl (lv_at hl 0 rfl) ?_
  refine lv_iload_n hx hb dL_law_135 rfl (lv_at hl 3 rfl) ?_
  refine lv_iconst (v := 1) hx hb dL_law_136 (by decide) ?_
  refine lv_iadd hx hb dL_law_137 ?_
  refine va_sld hx hb hX hbl hbA hS j1 dL_law_138 ?_
  refine q_muVg F (kX4_letter l E q a μ g (xs (nI i + (1 : Int32)).toNatClampNeg) H.size r μ1 k2) q_cX4_letter q_lL_17 (q_cutM E ad q a s0 t1 s2 s3 s4 s5 μ g μ1 g) hP hD hS hA hAl lw_room (q0 := 0) rfl rfl rfl rfl ⟨_, hl⟩ (rest := [.int r]) rfl (Nat.le_of_ble_eq_true rfl) dL_law_139 (fun H locs hP hD hS => ?_)
  refine lv_icmp_eq (tgt := 598) hx hb dL_law_142 (by decide) (fun _ => ?_) (fun z => absurd rfl z)
  exact kk s0 t1 s2 s3 s4 s5 μ1 g _ _ hR1 hP hD hS ls hl
set_option maxHeartbeats 4000000 in
theorem lw_c_blank {p : Program} {l : Launch} {e : Env} {s : State} {m : MethodId} {below : List Frame} {meth : Method} {c : Code} {Q : State → Prop} {E : q_E} {b L : Nat} {xs : Nat → Int32} {ad a : Nat → Nat} {q n i : Nat} (B : lw_Bx p s m meth c E b L xs) (h0 : ad 0 = ad 0) {s0 s1 s2 s3 s4 s5 μ : q_S} {g : q_G} {H : Heap} {locs : List Loc} {ls : Array Slot} (hi : i + 4 ≤ L) (hn : n < 1000) (hR : r_R n s0 s1 s2 s3 μ) (hP : va_P (q_D E) vwCl (q_wX E ad s0 s1 s2 s3 s4 s5 ++ q_cM E q a μ g) H) (hD : va_D (fun q : Nat => s.heap.size ≤ q) (q_wX E ad s0 s1 s2 s3 s4 s5 ++ q_cM E q a μ g)) (hS : va_S (fun q : Nat => s.heap.size ≤ q) s.heap H locs) (hl : lv_has ls 4 [(0, .ref b), (1, .ref (ad 0)), (2, .ref q), (3, .int (nI i))]) (kk : lw_K p l e s m b below meth c Q E ad a q (n + 1) i) : W p l e room_1 s m #[Value.ref b] below meth c H locs 55 396 Q (F0 m 147 ls []) := by
  obtain ⟨F, hx, hb, hX, hbl, hbA, hA, hAl, hL31⟩ := B
  have j1 : vp_in (nI i + (1 : Int32)) L := by rw [nI_1]; exact vp_in_nI (by omega) (by omega)
  have j2 : vp_in (nI i + (2 : Int32)) L := by rw [show nI i + (2 : Int32) = nI (i + 2) from nI_add i 2]; exact vp_in_nI (by omega) (by omega)
  have j3 : vp_in (nI i + (3 : Int32)) L := by rw [show nI i + (3 : Int32) = nI (i + 3) from nI_add i 3]; exact vp_in_nI (by omega) (by omega)
  obtain ⟨r, t1, μ1, k1, k2, hR1⟩ := o_blank hR
  refine lv_aload_n hx hb dL_law_147 rfl (lv_at hl 1 rfl) ?_
  refine q_muVg F (kX3_blank l E ad s0 s1 s2 s3 s4 s5 H.size r t1 k1) q_cX3_blank q_lL_18 (q_cutX E ad q a s0 s1 s2 s3 s4 s5 s0 t1 s2 s3 s4 s5 μ g) hP hD hS hA hAl lw_room (q0 := 0) rfl rfl rfl rfl ⟨_, hl⟩ (rest := []) rfl (Nat.le_of_ble_eq_true rfl) dL_law_148 (fun H locs hP hD hS => ?_)
  refine lv_aload_n hx hb dL_law_151 rfl (lv_at hl 2 rfl) ?_
  refine q_muVg F (kX4_blank l E q a μ g H.size r μ1 k2) q_cX4_blank q_lL_22 (q_cutM E ad q a s0 t1 s2 s3 s4 s5 μ g μ1 g) hP hD hS hA hAl lw_room (q0 := 0) rfl rfl rfl rfl ⟨_, hl⟩ (rest := [.int r]) rfl (Nat.le_of_ble_eq_true rfl) dL_law_152 (fun H locs hP hD hS => ?_)
  refine lv_icmp_eq (tgt := 598) hx hb dL_law_155 (by decide) (fun _ => ?_) (fun z => absurd rfl z)
  exact kk s0 t1 s2 s3 s4 s5 μ1 g _ _ hR1 hP hD hS ls hl
set_option maxHeartbeats 4000000 in
theorem lw_c_fault {p : Program} {l : Launch} {e : Env} {s : State} {m : MethodId} {below : List Frame} {meth : Method} {c : Code} {Q : State → Prop} {E : q_E} {b L : Nat} {xs : Nat → Int32} {ad a : Nat → Nat} {q n i : Nat} (B : lw_Bx p s m meth c E b L xs) (h0 : ad 0 = ad 0) {s0 s1 s2 s3 s4 s5 μ : q_S} {g : q_G} {H : Heap} {locs : List Loc} {ls : Array Slot} (hi : i + 4 ≤ L) (hn : n < 1000) (hR : r_R n s0 s1 s2 s3 μ) (hP : va_P (q_D E) vwCl (q_wX E ad s0 s1 s2 s3 s4 s5 ++ q_cM E q a μ g) H) (hD : va_D (fun q : Nat => s.heap.size ≤ q) (q_wX E ad s0 s1 s2 s3 s4 s5 ++ q_cM E q a μ g)) (hS : va_S (fun q : Nat => s.heap.size ≤ q) s.heap H locs) (hl : lv_has ls 4 [(0, .ref b), (1, .ref (ad 0)), (2, .ref q), (3, .int (nI i))]) (kk : lw_K p l e s m b below meth c Q E ad a q (n + 1) i) : W p l e room_1 s m #[Value.ref b] below meth c H locs 55 396 Q (F0 m 160 ls []) := by
  obtain ⟨F, hx, hb, hX, hbl, hbA, hA, hAl, hL31⟩ := B
  have j1 : vp_in (nI i + (1 : Int32)) L := by rw [nI_1]; exact vp_in_nI (by omega) (by omega)
  have j2 : vp_in (nI i + (2 : Int32)) L := by rw [show nI i + (2 : Int32) = nI (i + 2) from nI_add i 2]; exact vp_in_nI (by omega) (by omega)
  have j3 : vp_in (nI i + (3 : Int32)) L := by rw [show nI i + (3 : Int32) = nI (i + 3) from nI_add i 3]; exact vp_in_nI (by omega) (by omega)
  obtain ⟨r, μ1, k1, k2, hR1⟩ := o_fault hR
  refine lv_aload_n hx hb dL_law_160 rfl (lv_at hl 1 rfl) ?_
  refine q_roVg F (kX3_fault l E ad s0 s1 s2 s3 s4 s5 r k1) q_cX3_fault q_lL_23 (F.2.2.2.2.2.go hAl hS) ((q_subX E ad q a s0 s1 s2 s3 s4 s5 μ g).P hP) lw_room (q0 := 0) rfl rfl rfl rfl ⟨_, hl⟩ (rest := []) rfl (Nat.le_of_ble_eq_true rfl) dL_law_161 ?_
  refine lv_aload_n hx hb dL_law_164 rfl (lv_at hl 2 rfl) ?_
  refine q_muVg F (kX4_fault l E q a μ g H.size r μ1 k2) q_cX4_fault q_lL_26 (q_cutM E ad q a s0 s1 s2 s3 s4 s5 μ g μ1 g) hP hD hS hA hAl lw_room (q0 := 0) rfl rfl rfl rfl ⟨_, hl⟩ (rest := [.int r]) rfl (Nat.le_of_ble_eq_true rfl) dL_law_165 (fun H locs hP hD hS => ?_)
  refine lv_icmp_eq (tgt := 598) hx hb dL_law_168 (by decide) (fun _ => ?_) (fun z => absurd rfl z)
  exact kk s0 s1 s2 s3 s4 s5 μ1 g _ _ hR1 hP hD hS ls hl
set_option maxHeartbeats 4000000 in
theorem lw_c_valley {p : Program} {l : Launch} {e : Env} {s : State} {m : MethodId} {below : List Frame} {meth : Method} {c : Code} {Q : State → Prop} {E : q_E} {b L : Nat} {xs : Nat → Int32} {ad a : Nat → Nat} {q n i : Nat} (B : lw_Bx p s m meth c E b L xs) (h0 : ad 0 = ad 0) {s0 s1 s2 s3 s4 s5 μ : q_S} {g : q_G} {H : Heap} {locs : List Loc} {ls : Array Slot} (hi : i + 4 ≤ L) (hn : n < 1000) (hR : r_R n s0 s1 s2 s3 μ) (hP : va_P (q_D E) vwCl (q_wX E ad s0 s1 s2 s3 s4 s5 ++ q_cM E q a μ g) H) (hD : va_D (fun q : Nat => s.heap.size ≤ q) (q_wX E ad s0 s1 s2 s3 s4 s5 ++ q_cM E q a μ g)) (hS : va_S (fun q : Nat => s.heap.size ≤ q) s.heap H locs) (hl : lv_has ls 4 [(0, .ref b), (1, .ref (ad 0)), (2, .ref q), (3, .int (nI i))]) (kk : lw_K p l e s m b below meth c Q E ad a q (n + 1) i) : W p l e room_1 s m #[Value.ref b] below meth c H locs 55 396 Q (F0 m 173 ls []) := by
  obtain ⟨F, hx, hb, hX, hbl, hbA, hA, hAl, hL31⟩ := B
  have j1 : vp_in (nI i + (1 : Int32)) L := by rw [nI_1]; exact vp_in_nI (by omega) (by omega)
  have j2 : vp_in (nI i + (2 : Int32)) L := by rw [show nI i + (2 : Int32) = nI (i + 2) from nI_add i 2]; exact vp_in_nI (by omega) (by omega)
  have j3 : vp_in (nI i + (3 : Int32)) L := by rw [show nI i + (3 : Int32) = nI (i + 3) from nI_add i 3]; exact vp_in_nI (by omega) (by omega)
  obtain ⟨r, t0, t1, t2, μ1, k1, k2, hR1⟩ := o_valley hR
  refine lv_aload_n hx hb dL_law_173 rfl (lv_at hl 1 rfl) ?_
  refine q_muVg F (kX3_valley l E ad s0 s1 s2 s3 s4 s5 H.size r t0 t1 t2 k1) q_cX3_valley q_lL_27 (q_cutX E ad q a s0 s1 s2 s3 s4 s5 t0 t1 t2 s3 s4 s5 μ g) hP hD hS hA hAl lw_room (q0 := 0) rfl rfl rfl rfl ⟨_, hl⟩ (rest := []) rfl (Nat.le_of_ble_eq_true rfl) dL_law_174 (fun H locs hP hD hS => ?_)
  refine lv_aload_n hx hb dL_law_177 rfl (lv_at hl 2 rfl) ?_
  refine q_muVg F (kX4_valley l E q a μ g H.size r μ1 k2) q_cX4_valley q_lL_30 (q_cutM E ad q a t0 t1 t2 s3 s4 s5 μ g μ1 g) hP hD hS hA hAl lw_room (q0 := 0) rfl rfl rfl rfl ⟨_, hl⟩ (rest := [.int r]) rfl (Nat.le_of_ble_eq_true rfl) dL_law_178 (fun H locs hP hD hS => ?_)
  refine lv_icmp_eq (tgt := 598) hx hb dL_law_181 (by decide) (fun _ => ?_) (fun z => absurd rfl z)
  exact kk t0 t1 t2 s3 s4 s5 μ1 g _ _ hR1 hP hD hS ls hl
set_option maxHeartbeats 4000000 in
theorem lw_c_about {p : Program} {l : Launch} {e : Env} {s : State} {m : MethodId} {below : List Frame} {meth : Method} {c : Code} {Q : State → Prop} {E : q_E} {b L : Nat} {xs : Nat → Int32} {ad a : Nat → Nat} {q n i : Nat} (B : lw_Bx p s m meth c E b L xs) (h0 : ad 0 = ad 0) {s0 s1 s2 s3 s4 s5 μ : q_S} {g : q_G} {H : Heap} {locs : List Loc} {ls : Array Slot} (hi : i + 4 ≤ L) (hn : n < 1000) (hR : r_R n s0 s1 s2 s3 μ) (hP : va_P (q_D E) vwCl (q_wX E ad s0 s1 s2 s3 s4 s5 ++ q_cM E q a μ g) H) (hD : va_D (fun q : Nat => s.heap.size ≤ q) (q_wX E ad s0 s1 s2 s3 s4 s5 ++ q_cM E q a μ g)) (hS : va_S (fun q : Nat => s.heap.size ≤ q) s.heap H locs) (hl : lv_has ls 4 [(0, .ref b), (1, .ref (ad 0)), (2, .ref q), (3, .int (nI i))]) (kk : lw_K p l e s m b below meth c Q E ad a q (n + 1) i) : W p l e room_1 s m #[Value.ref b] below meth c H locs 55 396 Q (F0 m 186 ls []) := by
  obtain ⟨F, hx, hb, hX, hbl, hbA, hA, hAl, hL31⟩ := B
  have j1 : vp_in (nI i + (1 : Int32)) L := by rw [nI_1]; exact vp_in_nI (by omega) (by omega)
  have j2 : vp_in (nI i + (2 : Int32)) L := by rw [show nI i + (2 : Int32) = nI (i + 2) from nI_add i 2]; exact vp_in_nI (by omega) (by omega)
  have j3 : vp_in (nI i + (3 : Int32)) L := by rw [show nI i + (3 : Int32) = nI (i + 3) from nI_add i 3]; exact vp_in_nI (by omega) (by omega)
  obtain ⟨r, μ1, k1, k2, hR1⟩ := o_about hR (xs (nI i + (1 : Int32)).toNatClampNeg) (xs (nI i + (2 : Int32)).toNatClampNeg)
  refine lv_aload_n hx hb dL_law_186 rfl (lv_at hl 1 rfl) ?_
  refine lv_aload_n hx hb dL_law_187 rfl (lv_at hl 0 rfl) ?_
  refine lv_iload_n hx hb dL_law_188 rfl (lv_at hl 3 rfl) ?_
  refine lv_iconst (v := 1) hx hb dL_law_189 (by decide) ?_
  refine lv_iadd hx hb dL_law_190 ?_
  refine va_sld hx hb hX hbl hbA hS j1 dL_law_191 ?_
  refine lv_aload_n hx hb dL_law_192 rfl (lv_at hl 0 rfl) ?_
  refine lv_iload_n hx hb dL_law_193 rfl (lv_at hl 3 rfl) ?_
  refine lv_iconst (v := 2) hx hb dL_law_194 (by decide) ?_
  refine lv_iadd hx hb dL_law_195 ?_
  refine va_sld hx hb hX hbl hbA hS j2 dL_law_196 ?_
  refine q_roVg F (kX3_about l E ad s0 s1 s2 s3 s4 s5 (xs (nI i + (1 : Int32)).toNatClampNeg) (xs (nI i + (2 : Int32)).toNatClampNeg) r k1) q_cX3_about q_lL_31 (F.2.2.2.2.2.go hAl hS) ((q_subX E ad q a s0 s1 s2 s3 s4 s5 μ g).P hP) lw_room (q0 := 0) rfl rfl rfl rfl ⟨_, hl⟩ (rest := []) rfl (Nat.le_of_ble_eq_true rfl) dL_law_197 ?_
  refine lv_aload_n hx hb dL_law_200 rfl (lv_at hl 2 rfl) ?_
  refine lv_aload_n hx hb dL_law_201 rfl (lv_at hl 0 rfl) ?_
  refine lv_iload_n hx hb dL_law_202 rfl (lv_at hl 3 rfl) ?_
  refine lv_iconst (v := 1) hx hb dL_law_203 (by decide) ?_
  refine lv_iadd hx hb dL_law_204 ?_
  refine va_sld hx hb hX hbl hbA hS j1 dL_law_205 ?_
  refine lv_aload_n hx hb dL_law_206 rfl (lv_at hl 0 rfl) ?_
  refine lv_iload_n hx hb dL_law_207 rfl (lv_at hl 3 rfl) ?_
  refine lv_iconst (v := 2) hx hb dL_law_208 (by decide) ?_
  refine lv_iadd hx hb dL_law_209 ?_
  refine va_sld hx hb hX hbl hbA hS j2 dL_law_210 ?_
  refine q_muVg F (kX4_about l E q a μ g (xs (nI i + (1 : Int32)).toNatClampNeg) (xs (nI i + (2 : Int32)).toNatClampNeg) H.size r μ1 k2) q_cX4_about q_lL_35 (q_cutM E ad q a s0 s1 s2 s3 s4 s5 μ g μ1 g) hP hD hS hA hAl lw_room (q0 := 0) rfl rfl rfl rfl ⟨_, hl⟩ (rest := [.int r]) rfl (Nat.le_of_ble_eq_true rfl) dL_law_211 (fun H locs hP hD hS => ?_)
  refine lv_icmp_eq (tgt := 598) hx hb dL_law_214 (by decide) (fun _ => ?_) (fun z => absurd rfl z)
  exact kk s0 s1 s2 s3 s4 s5 μ1 g _ _ hR1 hP hD hS ls hl
set_option maxHeartbeats 4000000 in
theorem lw_c_as {p : Program} {l : Launch} {e : Env} {s : State} {m : MethodId} {below : List Frame} {meth : Method} {c : Code} {Q : State → Prop} {E : q_E} {b L : Nat} {xs : Nat → Int32} {ad a : Nat → Nat} {q n i : Nat} (B : lw_Bx p s m meth c E b L xs) (h0 : ad 0 = ad 0) {s0 s1 s2 s3 s4 s5 μ : q_S} {g : q_G} {H : Heap} {locs : List Loc} {ls : Array Slot} (hi : i + 4 ≤ L) (hn : n < 1000) (hR : r_R n s0 s1 s2 s3 μ) (hP : va_P (q_D E) vwCl (q_wX E ad s0 s1 s2 s3 s4 s5 ++ q_cM E q a μ g) H) (hD : va_D (fun q : Nat => s.heap.size ≤ q) (q_wX E ad s0 s1 s2 s3 s4 s5 ++ q_cM E q a μ g)) (hS : va_S (fun q : Nat => s.heap.size ≤ q) s.heap H locs) (hl : lv_has ls 4 [(0, .ref b), (1, .ref (ad 0)), (2, .ref q), (3, .int (nI i))]) (kk : lw_K p l e s m b below meth c Q E ad a q (n + 1) i) : W p l e room_1 s m #[Value.ref b] below meth c H locs 55 396 Q (F0 m 219 ls []) := by
  obtain ⟨F, hx, hb, hX, hbl, hbA, hA, hAl, hL31⟩ := B
  have j1 : vp_in (nI i + (1 : Int32)) L := by rw [nI_1]; exact vp_in_nI (by omega) (by omega)
  have j2 : vp_in (nI i + (2 : Int32)) L := by rw [show nI i + (2 : Int32) = nI (i + 2) from nI_add i 2]; exact vp_in_nI (by omega) (by omega)
  have j3 : vp_in (nI i + (3 : Int32)) L := by rw [show nI i + (3 : Int32) = nI (i + 3) from nI_add i 3]; exact vp_in_nI (by omega) (by omega)
  obtain ⟨r, k1, k2⟩ := o_as hR (xs (nI i + (1 : Int32)).toNatClampNeg) (xs (nI i + (2 : Int32)).toNatClampNeg)
  refine lv_aload_n hx hb dL_law_219 rfl (lv_at hl 1 rfl) ?_
  refine lv_aload_n hx hb dL_law_220 rfl (lv_at hl 0 rfl) ?_
  refine lv_iload_n hx hb dL_law_221 rfl (lv_at hl 3 rfl) ?_
  refine lv_iconst (v := 1) hx hb dL_law_222 (by decide) ?_
  refine lv_iadd hx hb dL_law_223 ?_
  refine va_sld hx hb hX hbl hbA hS j1 dL_law_224 ?_
  refine lv_aload_n hx hb dL_law_225 rfl (lv_at hl 0 rfl) ?_
  refine lv_iload_n hx hb dL_law_226 rfl (lv_at hl 3 rfl) ?_
  refine lv_iconst (v := 2) hx hb dL_law_227 (by decide) ?_
  refine lv_iadd hx hb dL_law_228 ?_
  refine va_sld hx hb hX hbl hbA hS j2 dL_law_229 ?_
  refine q_roVg F (kX3_as l E ad s0 s1 s2 s3 s4 s5 (xs (nI i + (1 : Int32)).toNatClampNeg) (xs (nI i + (2 : Int32)).toNatClampNeg) r k1) q_cX3_as q_lL_36 (F.2.2.2.2.2.go hAl hS) ((q_subX E ad q a s0 s1 s2 s3 s4 s5 μ g).P hP) lw_room (q0 := 0) rfl rfl rfl rfl ⟨_, hl⟩ (rest := []) rfl (Nat.le_of_ble_eq_true rfl) dL_law_230 ?_
  refine lv_aload_n hx hb dL_law_233 rfl (lv_at hl 2 rfl) ?_
  refine lv_aload_n hx hb dL_law_234 rfl (lv_at hl 0 rfl) ?_
  refine lv_iload_n hx hb dL_law_235 rfl (lv_at hl 3 rfl) ?_
  refine lv_iconst (v := 1) hx hb dL_law_236 (by decide) ?_
  refine lv_iadd hx hb dL_law_237 ?_
  refine va_sld hx hb hX hbl hbA hS j1 dL_law_238 ?_
  refine lv_aload_n hx hb dL_law_239 rfl (lv_at hl 0 rfl) ?_
  refine lv_iload_n hx hb dL_law_240 rfl (lv_at hl 3 rfl) ?_
  refine lv_iconst (v := 2) hx hb dL_law_241 (by decide) ?_
  refine lv_iadd hx hb dL_law_242 ?_
  refine va_sld hx hb hX hbl hbA hS j2 dL_law_243 ?_
  refine q_roVg F (kX4_as l E q a μ g (xs (nI i + (1 : Int32)).toNatClampNeg) (xs (nI i + (2 : Int32)).toNatClampNeg) r k2) q_cX4_as q_lL_39 (F.2.2.2.2.2.go hAl hS) ((q_subM E ad q a s0 s1 s2 s3 s4 s5 μ g).P hP) lw_room (q0 := 0) rfl rfl rfl rfl ⟨_, hl⟩ (rest := [.int r]) rfl (Nat.le_of_ble_eq_true rfl) dL_law_244 ?_
  refine lv_icmp_eq (tgt := 598) hx hb dL_law_247 (by decide) (fun _ => ?_) (fun z => absurd rfl z)
  exact kk s0 s1 s2 s3 s4 s5 μ g _ _ hR.up hP hD hS ls hl
set_option maxHeartbeats 4000000 in
theorem lw_c_loaf {p : Program} {l : Launch} {e : Env} {s : State} {m : MethodId} {below : List Frame} {meth : Method} {c : Code} {Q : State → Prop} {E : q_E} {b L : Nat} {xs : Nat → Int32} {ad a : Nat → Nat} {q n i : Nat} (B : lw_Bx p s m meth c E b L xs) (h0 : ad 0 = ad 0) {s0 s1 s2 s3 s4 s5 μ : q_S} {g : q_G} {H : Heap} {locs : List Loc} {ls : Array Slot} (hi : i + 4 ≤ L) (hn : n < 1000) (hR : r_R n s0 s1 s2 s3 μ) (hP : va_P (q_D E) vwCl (q_wX E ad s0 s1 s2 s3 s4 s5 ++ q_cM E q a μ g) H) (hD : va_D (fun q : Nat => s.heap.size ≤ q) (q_wX E ad s0 s1 s2 s3 s4 s5 ++ q_cM E q a μ g)) (hS : va_S (fun q : Nat => s.heap.size ≤ q) s.heap H locs) (hl : lv_has ls 4 [(0, .ref b), (1, .ref (ad 0)), (2, .ref q), (3, .int (nI i))]) (kk : lw_K p l e s m b below meth c Q E ad a q (n + 1) i) : W p l e room_1 s m #[Value.ref b] below meth c H locs 55 396 Q (F0 m 252 ls []) := by
  obtain ⟨F, hx, hb, hX, hbl, hbA, hA, hAl, hL31⟩ := B
  have j1 : vp_in (nI i + (1 : Int32)) L := by rw [nI_1]; exact vp_in_nI (by omega) (by omega)
  have j2 : vp_in (nI i + (2 : Int32)) L := by rw [show nI i + (2 : Int32) = nI (i + 2) from nI_add i 2]; exact vp_in_nI (by omega) (by omega)
  have j3 : vp_in (nI i + (3 : Int32)) L := by rw [show nI i + (3 : Int32) = nI (i + 3) from nI_add i 3]; exact vp_in_nI (by omega) (by omega)
  obtain ⟨r, μ1, k1, k2, hR1⟩ := o_loaf hR (xs (nI i + (1 : Int32)).toNatClampNeg) (xs (nI i + (2 : Int32)).toNatClampNeg)
  refine lv_aload_n hx hb dL_law_252 rfl (lv_at hl 1 rfl) ?_
  refine lv_aload_n hx hb dL_law_253 rfl (lv_at hl 0 rfl) ?_
  refine lv_iload_n hx hb dL_law_254 rfl (lv_at hl 3 rfl) ?_
  refine lv_iconst (v := 1) hx hb dL_law_255 (by decide) ?_
  refine lv_iadd hx hb dL_law_256 ?_
  refine va_sld hx hb hX hbl hbA hS j1 dL_law_257 ?_
  refine lv_aload_n hx hb dL_law_258 rfl (lv_at hl 0 rfl) ?_
  refine lv_iload_n hx hb dL_law_259 rfl (lv_at hl 3 rfl) ?_
  refine lv_iconst (v := 2) hx hb dL_law_260 (by decide) ?_
  refine lv_iadd hx hb dL_law_261 ?_
  refine va_sld hx hb hX hbl hbA hS j2 dL_law_262 ?_
  refine q_roVg F (kX3_loaf l E ad s0 s1 s2 s3 s4 s5 (xs (nI i + (1 : Int32)).toNatClampNeg) (xs (nI i + (2 : Int32)).toNatClampNeg) r k1) q_cX3_loaf q_lL_40 (F.2.2.2.2.2.go hAl hS) ((q_subX E ad q a s0 s1 s2 s3 s4 s5 μ g).P hP) lw_room (q0 := 0) rfl rfl rfl rfl ⟨_, hl⟩ (rest := []) rfl (Nat.le_of_ble_eq_true rfl) dL_law_263 ?_
  refine lv_aload_n hx hb dL_law_266 rfl (lv_at hl 2 rfl) ?_
  refine lv_aload_n hx hb dL_law_267 rfl (lv_at hl 0 rfl) ?_
  refine lv_iload_n hx hb dL_law_268 rfl (lv_at hl 3 rfl) ?_
  refine lv_iconst (v := 1) hx hb dL_law_269 (by decide) ?_
  refine lv_iadd hx hb dL_law_270 ?_
  refine va_sld hx hb hX hbl hbA hS j1 dL_law_271 ?_
  refine lv_aload_n hx hb dL_law_272 rfl (lv_at hl 0 rfl) ?_
  refine lv_iload_n hx hb dL_law_273 rfl (lv_at hl 3 rfl) ?_
  refine lv_iconst (v := 2) hx hb dL_law_274 (by decide) ?_
  refine lv_iadd hx hb dL_law_275 ?_
  refine va_sld hx hb hX hbl hbA hS j2 dL_law_276 ?_
  refine q_muVg F (kX4_loaf l E q a μ g (xs (nI i + (1 : Int32)).toNatClampNeg) (xs (nI i + (2 : Int32)).toNatClampNeg) H.size r μ1 k2) q_cX4_loaf q_lL_43 (q_cutM E ad q a s0 s1 s2 s3 s4 s5 μ g μ1 g) hP hD hS hA hAl lw_room (q0 := 0) rfl rfl rfl rfl ⟨_, hl⟩ (rest := [.int r]) rfl (Nat.le_of_ble_eq_true rfl) dL_law_277 (fun H locs hP hD hS => ?_)
  refine lv_icmp_eq (tgt := 598) hx hb dL_law_280 (by decide) (fun _ => ?_) (fun z => absurd rfl z)
  exact kk s0 s1 s2 s3 s4 s5 μ1 g _ _ hR1 hP hD hS ls hl
set_option maxHeartbeats 4000000 in
theorem lw_c_eat {p : Program} {l : Launch} {e : Env} {s : State} {m : MethodId} {below : List Frame} {meth : Method} {c : Code} {Q : State → Prop} {E : q_E} {b L : Nat} {xs : Nat → Int32} {ad a : Nat → Nat} {q n i : Nat} (B : lw_Bx p s m meth c E b L xs) (h0 : ad 0 = ad 0) {s0 s1 s2 s3 s4 s5 μ : q_S} {g : q_G} {H : Heap} {locs : List Loc} {ls : Array Slot} (hi : i + 4 ≤ L) (hn : n < 1000) (hR : r_R n s0 s1 s2 s3 μ) (hP : va_P (q_D E) vwCl (q_wX E ad s0 s1 s2 s3 s4 s5 ++ q_cM E q a μ g) H) (hD : va_D (fun q : Nat => s.heap.size ≤ q) (q_wX E ad s0 s1 s2 s3 s4 s5 ++ q_cM E q a μ g)) (hS : va_S (fun q : Nat => s.heap.size ≤ q) s.heap H locs) (hl : lv_has ls 4 [(0, .ref b), (1, .ref (ad 0)), (2, .ref q), (3, .int (nI i))]) (kk : lw_K p l e s m b below meth c Q E ad a q (n + 1) i) : W p l e room_1 s m #[Value.ref b] below meth c H locs 55 396 Q (F0 m 285 ls []) := by
  obtain ⟨F, hx, hb, hX, hbl, hbA, hA, hAl, hL31⟩ := B
  have j1 : vp_in (nI i + (1 : Int32)) L := by rw [nI_1]; exact vp_in_nI (by omega) (by omega)
  have j2 : vp_in (nI i + (2 : Int32)) L := by rw [show nI i + (2 : Int32) = nI (i + 2) from nI_add i 2]; exact vp_in_nI (by omega) (by omega)
  have j3 : vp_in (nI i + (3 : Int32)) L := by rw [show nI i + (3 : Int32) = nI (i + 3) from nI_add i 3]; exact vp_in_nI (by omega) (by omega)
  obtain ⟨r, t2, μ1, k1, k2, hR1⟩ := o_eat hR (xs (nI i + (1 : Int32)).toNatClampNeg) (xs (nI i + (2 : Int32)).toNatClampNeg)
  refine lv_aload_n hx hb dL_law_285 rfl (lv_at hl 1 rfl) ?_
  refine lv_aload_n hx hb dL_law_286 rfl (lv_at hl 0 rfl) ?_
  refine lv_iload_n hx hb dL_law_287 rfl (lv_at hl 3 rfl) ?_
  refine lv_iconst (v := 1) hx hb dL_law_288 (by decide) ?_
  refine lv_iadd hx hb dL_law_289 ?_
  refine va_sld hx hb hX hbl hbA hS j1 dL_law_290 ?_
  refine lv_aload_n hx hb dL_law_291 rfl (lv_at hl 0 rfl) ?_
  refine lv_iload_n hx hb dL_law_292 rfl (lv_at hl 3 rfl) ?_
  refine lv_iconst (v := 2) hx hb dL_law_293 (by decide) ?_
  refine lv_iadd hx hb dL_law_294 ?_
  refine va_sld hx hb hX hbl hbA hS j2 dL_law_295 ?_
  refine q_muVg F (kX3_eat l E ad s0 s1 s2 s3 s4 s5 (xs (nI i + (1 : Int32)).toNatClampNeg) (xs (nI i + (2 : Int32)).toNatClampNeg) H.size r t2 k1) q_cX3_eat q_lL_44 (q_cutX E ad q a s0 s1 s2 s3 s4 s5 s0 s1 t2 s3 s4 s5 μ g) hP hD hS hA hAl lw_room (q0 := 0) rfl rfl rfl rfl ⟨_, hl⟩ (rest := []) rfl (Nat.le_of_ble_eq_true rfl) dL_law_296 (fun H locs hP hD hS => ?_)
  refine lv_aload_n hx hb dL_law_299 rfl (lv_at hl 2 rfl) ?_
  refine lv_aload_n hx hb dL_law_300 rfl (lv_at hl 0 rfl) ?_
  refine lv_iload_n hx hb dL_law_301 rfl (lv_at hl 3 rfl) ?_
  refine lv_iconst (v := 1) hx hb dL_law_302 (by decide) ?_
  refine lv_iadd hx hb dL_law_303 ?_
  refine va_sld hx hb hX hbl hbA hS j1 dL_law_304 ?_
  refine lv_aload_n hx hb dL_law_305 rfl (lv_at hl 0 rfl) ?_
  refine lv_iload_n hx hb dL_law_306 rfl (lv_at hl 3 rfl) ?_
  refine lv_iconst (v := 2) hx hb dL_law_307 (by decide) ?_
  refine lv_iadd hx hb dL_law_308 ?_
  refine va_sld hx hb hX hbl hbA hS j2 dL_law_309 ?_
  refine q_muVg F (kX4_eat l E q a μ g (xs (nI i + (1 : Int32)).toNatClampNeg) (xs (nI i + (2 : Int32)).toNatClampNeg) H.size r μ1 k2) q_cX4_eat q_lL_47 (q_cutM E ad q a s0 s1 t2 s3 s4 s5 μ g μ1 g) hP hD hS hA hAl lw_room (q0 := 0) rfl rfl rfl rfl ⟨_, hl⟩ (rest := [.int r]) rfl (Nat.le_of_ble_eq_true rfl) dL_law_310 (fun H locs hP hD hS => ?_)
  refine lv_icmp_eq (tgt := 598) hx hb dL_law_313 (by decide) (fun _ => ?_) (fun z => absurd rfl z)
  exact kk s0 s1 t2 s3 s4 s5 μ1 g _ _ hR1 hP hD hS ls hl
set_option maxHeartbeats 4000000 in
theorem lw_c_halve {p : Program} {l : Launch} {e : Env} {s : State} {m : MethodId} {below : List Frame} {meth : Method} {c : Code} {Q : State → Prop} {E : q_E} {b L : Nat} {xs : Nat → Int32} {ad a : Nat → Nat} {q n i : Nat} (B : lw_Bx p s m meth c E b L xs) (h0 : ad 0 = ad 0) {s0 s1 s2 s3 s4 s5 μ : q_S} {g : q_G} {H : Heap} {locs : List Loc} {ls : Array Slot} (hi : i + 4 ≤ L) (hn : n < 1000) (hR : r_R n s0 s1 s2 s3 μ) (hP : va_P (q_D E) vwCl (q_wX E ad s0 s1 s2 s3 s4 s5 ++ q_cM E q a μ g) H) (hD : va_D (fun q : Nat => s.heap.size ≤ q) (q_wX E ad s0 s1 s2 s3 s4 s5 ++ q_cM E q a μ g)) (hS : va_S (fun q : Nat => s.heap.size ≤ q) s.heap H locs) (hl : lv_has ls 4 [(0, .ref b), (1, .ref (ad 0)), (2, .ref q), (3, .int (nI i))]) (kk : lw_K p l e s m b below meth c Q E ad a q (n + 1) i) : W p l e room_1 s m #[Value.ref b] below meth c H locs 55 396 Q (F0 m 318 ls []) := by
  obtain ⟨F, hx, hb, hX, hbl, hbA, hA, hAl, hL31⟩ := B
  have j1 : vp_in (nI i + (1 : Int32)) L := by rw [nI_1]; exact vp_in_nI (by omega) (by omega)
  have j2 : vp_in (nI i + (2 : Int32)) L := by rw [show nI i + (2 : Int32) = nI (i + 2) from nI_add i 2]; exact vp_in_nI (by omega) (by omega)
  have j3 : vp_in (nI i + (3 : Int32)) L := by rw [show nI i + (3 : Int32) = nI (i + 3) from nI_add i 3]; exact vp_in_nI (by omega) (by omega)
  obtain ⟨r, t2, μ1, k1, k2, hR1⟩ := o_halve hR (xs (nI i + (1 : Int32)).toNatClampNeg) (xs (nI i + (2 : Int32)).toNatClampNeg) (xs (nI i + (3 : Int32)).toNatClampNeg)
  refine lv_aload_n hx hb dL_law_318 rfl (lv_at hl 1 rfl) ?_
  refine lv_aload_n hx hb dL_law_319 rfl (lv_at hl 0 rfl) ?_
  refine lv_iload_n hx hb dL_law_320 rfl (lv_at hl 3 rfl) ?_
  refine lv_iconst (v := 1) hx hb dL_law_321 (by decide) ?_
  refine lv_iadd hx hb dL_law_322 ?_
  refine va_sld hx hb hX hbl hbA hS j1 dL_law_323 ?_
  refine lv_aload_n hx hb dL_law_324 rfl (lv_at hl 0 rfl) ?_
  refine lv_iload_n hx hb dL_law_325 rfl (lv_at hl 3 rfl) ?_
  refine lv_iconst (v := 2) hx hb dL_law_326 (by decide) ?_
  refine lv_iadd hx hb dL_law_327 ?_
  refine va_sld hx hb hX hbl hbA hS j2 dL_law_328 ?_
  refine lv_aload_n hx hb dL_law_329 rfl (lv_at hl 0 rfl) ?_
  refine lv_iload_n hx hb dL_law_330 rfl (lv_at hl 3 rfl) ?_
  refine lv_iconst (v := 3) hx hb dL_law_331 (by decide) ?_
  refine lv_iadd hx hb dL_law_332 ?_
  refine va_sld hx hb hX hbl hbA hS j3 dL_law_333 ?_
  refine q_muVg F (kX3_halve l E ad s0 s1 s2 s3 s4 s5 (xs (nI i + (1 : Int32)).toNatClampNeg) (xs (nI i + (2 : Int32)).toNatClampNeg) (xs (nI i + (3 : Int32)).toNatClampNeg) H.size r t2 k1) q_cX3_halve q_lL_48 (q_cutX E ad q a s0 s1 s2 s3 s4 s5 s0 s1 t2 s3 s4 s5 μ g) hP hD hS hA hAl lw_room (q0 := 0) rfl rfl rfl rfl ⟨_, hl⟩ (rest := []) rfl (Nat.le_of_ble_eq_true rfl) dL_law_334 (fun H locs hP hD hS => ?_)
  refine lv_aload_n hx hb dL_law_337 rfl (lv_at hl 2 rfl) ?_
  refine lv_aload_n hx hb dL_law_338 rfl (lv_at hl 0 rfl) ?_
  refine lv_iload_n hx hb dL_law_339 rfl (lv_at hl 3 rfl) ?_
  refine lv_iconst (v := 1) hx hb dL_law_340 (by decide) ?_
  refine lv_iadd hx hb dL_law_341 ?_
  refine va_sld hx hb hX hbl hbA hS j1 dL_law_342 ?_
  refine lv_aload_n hx hb dL_law_343 rfl (lv_at hl 0 rfl) ?_
  refine lv_iload_n hx hb dL_law_344 rfl (lv_at hl 3 rfl) ?_
  refine lv_iconst (v := 2) hx hb dL_law_345 (by decide) ?_
  refine lv_iadd hx hb dL_law_346 ?_
  refine va_sld hx hb hX hbl hbA hS j2 dL_law_347 ?_
  refine lv_aload_n hx hb dL_law_348 rfl (lv_at hl 0 rfl) ?_
  refine lv_iload_n hx hb dL_law_349 rfl (lv_at hl 3 rfl) ?_
  refine lv_iconst (v := 3) hx hb dL_law_350 (by decide) ?_
  refine lv_iadd hx hb dL_law_351 ?_
  refine va_sld hx hb hX hbl hbA hS j3 dL_law_352 ?_
  refine q_muVg F (kX4_halve l E q a μ g (xs (nI i + (1 : Int32)).toNatClampNeg) (xs (nI i + (2 : Int32)).toNatClampNeg) (xs (nI i + (3 : Int32)).toNatClampNeg) H.size r μ1 k2) q_cX4_halve q_lL_52 (q_cutM E ad q a s0 s1 t2 s3 s4 s5 μ g μ1 g) hP hD hS hA hAl lw_room (q0 := 0) rfl rfl rfl rfl ⟨_, hl⟩ (rest := [.int r]) rfl (Nat.le_of_ble_eq_true rfl) dL_law_353 (fun H locs hP hD hS => ?_)
  refine lv_icmp_eq (tgt := 598) hx hb dL_law_356 (by decide) (fun _ => ?_) (fun z => absurd rfl z)
  exact kk s0 s1 t2 s3 s4 s5 μ1 g _ _ hR1 hP hD hS ls hl
set_option maxHeartbeats 4000000 in
theorem lw_c_winter {p : Program} {l : Launch} {e : Env} {s : State} {m : MethodId} {below : List Frame} {meth : Method} {c : Code} {Q : State → Prop} {E : q_E} {b L : Nat} {xs : Nat → Int32} {ad a : Nat → Nat} {q n i : Nat} (B : lw_Bx p s m meth c E b L xs) (h0 : ad 0 = ad 0) {s0 s1 s2 s3 s4 s5 μ : q_S} {g : q_G} {H : Heap} {locs : List Loc} {ls : Array Slot} (hi : i + 4 ≤ L) (hn : n < 1000) (hR : r_R n s0 s1 s2 s3 μ) (hP : va_P (q_D E) vwCl (q_wX E ad s0 s1 s2 s3 s4 s5 ++ q_cM E q a μ g) H) (hD : va_D (fun q : Nat => s.heap.size ≤ q) (q_wX E ad s0 s1 s2 s3 s4 s5 ++ q_cM E q a μ g)) (hS : va_S (fun q : Nat => s.heap.size ≤ q) s.heap H locs) (hl : lv_has ls 4 [(0, .ref b), (1, .ref (ad 0)), (2, .ref q), (3, .int (nI i))]) (kk : lw_K p l e s m b below meth c Q E ad a q (n + 1) i) : W p l e room_1 s m #[Value.ref b] below meth c H locs 55 396 Q (F0 m 361 ls []) := by
  obtain ⟨F, hx, hb, hX, hbl, hbA, hA, hAl, hL31⟩ := B
  have j1 : vp_in (nI i + (1 : Int32)) L := by rw [nI_1]; exact vp_in_nI (by omega) (by omega)
  have j2 : vp_in (nI i + (2 : Int32)) L := by rw [show nI i + (2 : Int32) = nI (i + 2) from nI_add i 2]; exact vp_in_nI (by omega) (by omega)
  have j3 : vp_in (nI i + (3 : Int32)) L := by rw [show nI i + (3 : Int32) = nI (i + 3) from nI_add i 3]; exact vp_in_nI (by omega) (by omega)
  obtain ⟨r, t2, μ1, k1, k2, hR1⟩ := o_winter hR
  refine lv_aload_n hx hb dL_law_361 rfl (lv_at hl 1 rfl) ?_
  refine q_muVg F (kX3_winter l E ad s0 s1 s2 s3 s4 s5 H.size r t2 k1) q_cX3_winter q_lL_53 (q_cutX E ad q a s0 s1 s2 s3 s4 s5 s0 s1 t2 s3 s4 s5 μ g) hP hD hS hA hAl lw_room (q0 := 0) rfl rfl rfl rfl ⟨_, hl⟩ (rest := []) rfl (Nat.le_of_ble_eq_true rfl) dL_law_362 (fun H locs hP hD hS => ?_)
  refine lv_aload_n hx hb dL_law_365 rfl (lv_at hl 2 rfl) ?_
  refine q_muVg F (kX4_winter l E q a μ g H.size r μ1 k2) q_cX4_winter q_lL_56 (q_cutM E ad q a s0 s1 t2 s3 s4 s5 μ g μ1 g) hP hD hS hA hAl lw_room (q0 := 0) rfl rfl rfl rfl ⟨_, hl⟩ (rest := [.int r]) rfl (Nat.le_of_ble_eq_true rfl) dL_law_366 (fun H locs hP hD hS => ?_)
  refine lv_icmp_eq (tgt := 598) hx hb dL_law_369 (by decide) (fun _ => ?_) (fun z => absurd rfl z)
  exact kk s0 s1 t2 s3 s4 s5 μ1 g _ _ hR1 hP hD hS ls hl
set_option maxHeartbeats 4000000 in
theorem lw_c_die {p : Program} {l : Launch} {e : Env} {s : State} {m : MethodId} {below : List Frame} {meth : Method} {c : Code} {Q : State → Prop} {E : q_E} {b L : Nat} {xs : Nat → Int32} {ad a : Nat → Nat} {q n i : Nat} (B : lw_Bx p s m meth c E b L xs) (h0 : ad 0 = ad 0) {s0 s1 s2 s3 s4 s5 μ : q_S} {g : q_G} {H : Heap} {locs : List Loc} {ls : Array Slot} (hi : i + 4 ≤ L) (hn : n < 1000) (hR : r_R n s0 s1 s2 s3 μ) (hP : va_P (q_D E) vwCl (q_wX E ad s0 s1 s2 s3 s4 s5 ++ q_cM E q a μ g) H) (hD : va_D (fun q : Nat => s.heap.size ≤ q) (q_wX E ad s0 s1 s2 s3 s4 s5 ++ q_cM E q a μ g)) (hS : va_S (fun q : Nat => s.heap.size ≤ q) s.heap H locs) (hl : lv_has ls 4 [(0, .ref b), (1, .ref (ad 0)), (2, .ref q), (3, .int (nI i))]) (kk : lw_K p l e s m b below meth c Q E ad a q (n + 1) i) : W p l e room_1 s m #[Value.ref b] below meth c H locs 55 396 Q (F0 m 374 ls []) := by
  obtain ⟨F, hx, hb, hX, hbl, hbA, hA, hAl, hL31⟩ := B
  have j1 : vp_in (nI i + (1 : Int32)) L := by rw [nI_1]; exact vp_in_nI (by omega) (by omega)
  have j2 : vp_in (nI i + (2 : Int32)) L := by rw [show nI i + (2 : Int32) = nI (i + 2) from nI_add i 2]; exact vp_in_nI (by omega) (by omega)
  have j3 : vp_in (nI i + (3 : Int32)) L := by rw [show nI i + (3 : Int32) = nI (i + 3) from nI_add i 3]; exact vp_in_nI (by omega) (by omega)
  obtain ⟨r, t2, μ1, k1, k2, hR1⟩ := o_die hR (xs (nI i + (1 : Int32)).toNatClampNeg)
  refine lv_aload_n hx hb dL_law_374 rfl (lv_at hl 1 rfl) ?_
  refine lv_aload_n hx hb dL_law_375 rfl (lv_at hl 0 rfl) ?_
  refine lv_iload_n hx hb dL_law_376 rfl (lv_at hl 3 rfl) ?_
  refine lv_iconst (v := 1) hx hb dL_law_377 (by decide) ?_
  refine lv_iadd hx hb dL_law_378 ?_
  refine va_sld hx hb hX hbl hbA hS j1 dL_law_379 ?_
  refine q_muVg F (kX3_die l E ad s0 s1 s2 s3 s4 s5 (xs (nI i + (1 : Int32)).toNatClampNeg) H.size r t2 k1) q_cX3_die q_lL_57 (q_cutX E ad q a s0 s1 s2 s3 s4 s5 s0 s1 t2 s3 s4 s5 μ g) hP hD hS hA hAl lw_room (q0 := 0) rfl rfl rfl rfl ⟨_, hl⟩ (rest := []) rfl (Nat.le_of_ble_eq_true rfl) dL_law_380 (fun H locs hP hD hS => ?_)
  refine lv_aload_n hx hb dL_law_383 rfl (lv_at hl 2 rfl) ?_
  refine lv_aload_n hx hb dL_law_384 rfl (lv_at hl 0 rfl) ?_
  refine lv_iload_n hx hb dL_law_385 rfl (lv_at hl 3 rfl) ?_
  refine lv_iconst (v := 1) hx hb dL_law_386 (by decide) ?_
  refine lv_iadd hx hb dL_law_387 ?_
  refine va_sld hx hb hX hbl hbA hS j1 dL_law_388 ?_
  refine q_muVg F (kX4_die l E q a μ g (xs (nI i + (1 : Int32)).toNatClampNeg) H.size r μ1 k2) q_cX4_die q_lL_60 (q_cutM E ad q a s0 s1 t2 s3 s4 s5 μ g μ1 g) hP hD hS hA hAl lw_room (q0 := 0) rfl rfl rfl rfl ⟨_, hl⟩ (rest := [.int r]) rfl (Nat.le_of_ble_eq_true rfl) dL_law_389 (fun H locs hP hD hS => ?_)
  refine lv_icmp_eq (tgt := 598) hx hb dL_law_392 (by decide) (fun _ => ?_) (fun z => absurd rfl z)
  exact kk s0 s1 t2 s3 s4 s5 μ1 g _ _ hR1 hP hD hS ls hl
set_option maxHeartbeats 4000000 in
theorem lw_c_spread {p : Program} {l : Launch} {e : Env} {s : State} {m : MethodId} {below : List Frame} {meth : Method} {c : Code} {Q : State → Prop} {E : q_E} {b L : Nat} {xs : Nat → Int32} {ad a : Nat → Nat} {q n i : Nat} (B : lw_Bx p s m meth c E b L xs) (h0 : ad 0 = ad 0) {s0 s1 s2 s3 s4 s5 μ : q_S} {g : q_G} {H : Heap} {locs : List Loc} {ls : Array Slot} (hi : i + 4 ≤ L) (hn : n < 1000) (hR : r_R n s0 s1 s2 s3 μ) (hP : va_P (q_D E) vwCl (q_wX E ad s0 s1 s2 s3 s4 s5 ++ q_cM E q a μ g) H) (hD : va_D (fun q : Nat => s.heap.size ≤ q) (q_wX E ad s0 s1 s2 s3 s4 s5 ++ q_cM E q a μ g)) (hS : va_S (fun q : Nat => s.heap.size ≤ q) s.heap H locs) (hl : lv_has ls 4 [(0, .ref b), (1, .ref (ad 0)), (2, .ref q), (3, .int (nI i))]) (kk : lw_K p l e s m b below meth c Q E ad a q (n + 1) i) : W p l e room_1 s m #[Value.ref b] below meth c H locs 55 396 Q (F0 m 397 ls []) := by
  obtain ⟨F, hx, hb, hX, hbl, hbA, hA, hAl, hL31⟩ := B
  have j1 : vp_in (nI i + (1 : Int32)) L := by rw [nI_1]; exact vp_in_nI (by omega) (by omega)
  have j2 : vp_in (nI i + (2 : Int32)) L := by rw [show nI i + (2 : Int32) = nI (i + 2) from nI_add i 2]; exact vp_in_nI (by omega) (by omega)
  have j3 : vp_in (nI i + (3 : Int32)) L := by rw [show nI i + (3 : Int32) = nI (i + 3) from nI_add i 3]; exact vp_in_nI (by omega) (by omega)
  obtain ⟨r, t0, t4, t5, μ1, k1, k2, hR1⟩ := o_spread (s4 := s4) (s5 := s5) hR (xs (nI i + (1 : Int32)).toNatClampNeg)
  refine lv_aload_n hx hb dL_law_397 rfl (lv_at hl 1 rfl) ?_
  refine lv_aload_n hx hb dL_law_398 rfl (lv_at hl 0 rfl) ?_
  refine lv_iload_n hx hb dL_law_399 rfl (lv_at hl 3 rfl) ?_
  refine lv_iconst (v := 1) hx hb dL_law_400 (by decide) ?_
  refine lv_iadd hx hb dL_law_401 ?_
  refine va_sld hx hb hX hbl hbA hS j1 dL_law_402 ?_
  refine q_muVg F (kX3_spread l E ad s0 s1 s2 s3 s4 s5 (xs (nI i + (1 : Int32)).toNatClampNeg) H.size r t0 t4 t5 k1) q_cX3_spread q_lL_61 (q_cutX E ad q a s0 s1 s2 s3 s4 s5 t0 s1 s2 s3 t4 t5 μ g) hP hD hS hA hAl lw_room (q0 := 0) rfl rfl rfl rfl ⟨_, hl⟩ (rest := []) rfl (Nat.le_of_ble_eq_true rfl) dL_law_403 (fun H locs hP hD hS => ?_)
  refine lv_aload_n hx hb dL_law_406 rfl (lv_at hl 2 rfl) ?_
  refine lv_aload_n hx hb dL_law_407 rfl (lv_at hl 0 rfl) ?_
  refine lv_iload_n hx hb dL_law_408 rfl (lv_at hl 3 rfl) ?_
  refine lv_iconst (v := 1) hx hb dL_law_409 (by decide) ?_
  refine lv_iadd hx hb dL_law_410 ?_
  refine va_sld hx hb hX hbl hbA hS j1 dL_law_411 ?_
  refine q_muVg F (kX4_spread l E q a μ g (xs (nI i + (1 : Int32)).toNatClampNeg) H.size r μ1 k2) q_cX4_spread q_lL_64 (q_cutM E ad q a t0 s1 s2 s3 t4 t5 μ g μ1 g) hP hD hS hA hAl lw_room (q0 := 0) rfl rfl rfl rfl ⟨_, hl⟩ (rest := [.int r]) rfl (Nat.le_of_ble_eq_true rfl) dL_law_412 (fun H locs hP hD hS => ?_)
  refine lv_icmp_eq (tgt := 598) hx hb dL_law_415 (by decide) (fun _ => ?_) (fun z => absurd rfl z)
  exact kk t0 s1 s2 s3 t4 t5 μ1 g _ _ hR1 hP hD hS ls hl
set_option maxHeartbeats 4000000 in
theorem lw_c_say {p : Program} {l : Launch} {e : Env} {s : State} {m : MethodId} {below : List Frame} {meth : Method} {c : Code} {Q : State → Prop} {E : q_E} {b L : Nat} {xs : Nat → Int32} {ad a : Nat → Nat} {q n i : Nat} (B : lw_Bx p s m meth c E b L xs) (h0 : ad 0 = ad 0) {s0 s1 s2 s3 s4 s5 μ : q_S} {g : q_G} {H : Heap} {locs : List Loc} {ls : Array Slot} (hi : i + 4 ≤ L) (hn : n < 1000) (hR : r_R n s0 s1 s2 s3 μ) (hP : va_P (q_D E) vwCl (q_wX E ad s0 s1 s2 s3 s4 s5 ++ q_cM E q a μ g) H) (hD : va_D (fun q : Nat => s.heap.size ≤ q) (q_wX E ad s0 s1 s2 s3 s4 s5 ++ q_cM E q a μ g)) (hS : va_S (fun q : Nat => s.heap.size ≤ q) s.heap H locs) (hl : lv_has ls 4 [(0, .ref b), (1, .ref (ad 0)), (2, .ref q), (3, .int (nI i))]) (kk : lw_K p l e s m b below meth c Q E ad a q (n + 1) i) : W p l e room_1 s m #[Value.ref b] below meth c H locs 55 396 Q (F0 m 420 ls []) := by
  obtain ⟨F, hx, hb, hX, hbl, hbA, hA, hAl, hL31⟩ := B
  have j1 : vp_in (nI i + (1 : Int32)) L := by rw [nI_1]; exact vp_in_nI (by omega) (by omega)
  have j2 : vp_in (nI i + (2 : Int32)) L := by rw [show nI i + (2 : Int32) = nI (i + 2) from nI_add i 2]; exact vp_in_nI (by omega) (by omega)
  have j3 : vp_in (nI i + (3 : Int32)) L := by rw [show nI i + (3 : Int32) = nI (i + 3) from nI_add i 3]; exact vp_in_nI (by omega) (by omega)
  have em : ∀ z : Int32, (if z = 0 then (0 : Int32) else 1) = nI (if z = 0 then 0 else 1) := fun z => by split <;> rfl
  obtain ⟨r, t2, μ1, k1, k2, hR1⟩ := o_say hR (xs (nI i + (1 : Int32)).toNatClampNeg) (xs (nI i + (2 : Int32)).toNatClampNeg) (mo := if xs (nI i + (3 : Int32)).toNatClampNeg = 0 then 0 else 1) (by split <;> omega)
  rw [← em] at k1 k2
  refine lv_aload_n hx hb dL_law_420 rfl (lv_at hl 1 rfl) ?_
  refine lv_aload_n hx hb dL_law_421 rfl (lv_at hl 0 rfl) ?_
  refine lv_iload_n hx hb dL_law_422 rfl (lv_at hl 3 rfl) ?_
  refine lv_iconst (v := 1) hx hb dL_law_423 (by decide) ?_
  refine lv_iadd hx hb dL_law_424 ?_
  refine va_sld hx hb hX hbl hbA hS j1 dL_law_425 ?_
  refine lv_aload_n hx hb dL_law_426 rfl (lv_at hl 0 rfl) ?_
  refine lv_iload_n hx hb dL_law_427 rfl (lv_at hl 3 rfl) ?_
  refine lv_iconst (v := 2) hx hb dL_law_428 (by decide) ?_
  refine lv_iadd hx hb dL_law_429 ?_
  refine va_sld hx hb hX hbl hbA hS j2 dL_law_430 ?_
  refine lv_aload_n hx hb dL_law_431 rfl (lv_at hl 0 rfl) ?_
  refine lv_iload_n hx hb dL_law_432 rfl (lv_at hl 3 rfl) ?_
  refine lv_iconst (v := 3) hx hb dL_law_433 (by decide) ?_
  refine lv_iadd hx hb dL_law_434 ?_
  refine va_sld hx hb hX hbl hbA hS j3 dL_law_435 ?_
  refine lw_boolX hx hb ?_
  refine q_muVg F (kX3_say l E ad s0 s1 s2 s3 s4 s5 (xs (nI i + (1 : Int32)).toNatClampNeg) (xs (nI i + (2 : Int32)).toNatClampNeg) (if xs (nI i + (3 : Int32)).toNatClampNeg = 0 then (0 : Int32) else 1) H.size r t2 k1) q_cX3_say q_lL_65 (q_cutX E ad q a s0 s1 s2 s3 s4 s5 s0 s1 t2 s3 s4 s5 μ g) hP hD hS hA hAl lw_room (q0 := 0) rfl rfl rfl rfl ⟨_, hl⟩ (rest := []) rfl (Nat.le_of_ble_eq_true rfl) dL_law_444 (fun H locs hP hD hS => ?_)
  refine lv_aload_n hx hb dL_law_447 rfl (lv_at hl 2 rfl) ?_
  refine lv_aload_n hx hb dL_law_448 rfl (lv_at hl 0 rfl) ?_
  refine lv_iload_n hx hb dL_law_449 rfl (lv_at hl 3 rfl) ?_
  refine lv_iconst (v := 1) hx hb dL_law_450 (by decide) ?_
  refine lv_iadd hx hb dL_law_451 ?_
  refine va_sld hx hb hX hbl hbA hS j1 dL_law_452 ?_
  refine lv_aload_n hx hb dL_law_453 rfl (lv_at hl 0 rfl) ?_
  refine lv_iload_n hx hb dL_law_454 rfl (lv_at hl 3 rfl) ?_
  refine lv_iconst (v := 2) hx hb dL_law_455 (by decide) ?_
  refine lv_iadd hx hb dL_law_456 ?_
  refine va_sld hx hb hX hbl hbA hS j2 dL_law_457 ?_
  refine lv_aload_n hx hb dL_law_458 rfl (lv_at hl 0 rfl) ?_
  refine lv_iload_n hx hb dL_law_459 rfl (lv_at hl 3 rfl) ?_
  refine lv_iconst (v := 3) hx hb dL_law_460 (by decide) ?_
  refine lv_iadd hx hb dL_law_461 ?_
  refine va_sld hx hb hX hbl hbA hS j3 dL_law_462 ?_
  refine lw_boolM hx hb ?_
  refine q_muVg F (kX4_say l E q a μ g (xs (nI i + (1 : Int32)).toNatClampNeg) (xs (nI i + (2 : Int32)).toNatClampNeg) (if xs (nI i + (3 : Int32)).toNatClampNeg = 0 then (0 : Int32) else 1) H.size r μ1 k2) q_cX4_say q_lL_69 (q_cutM E ad q a s0 s1 t2 s3 s4 s5 μ g μ1 g) hP hD hS hA hAl lw_room (q0 := 0) rfl rfl rfl rfl ⟨_, hl⟩ (rest := [.int r]) rfl (Nat.le_of_ble_eq_true rfl) dL_law_471 (fun H locs hP hD hS => ?_)
  refine lv_icmp_eq (tgt := 598) hx hb dL_law_474 (by decide) (fun _ => ?_) (fun z => absurd rfl z)
  exact kk s0 s1 t2 s3 s4 s5 μ1 g _ _ hR1 hP hD hS ls hl
set_option maxHeartbeats 4000000 in
theorem lw_c_forget {p : Program} {l : Launch} {e : Env} {s : State} {m : MethodId} {below : List Frame} {meth : Method} {c : Code} {Q : State → Prop} {E : q_E} {b L : Nat} {xs : Nat → Int32} {ad a : Nat → Nat} {q n i : Nat} (B : lw_Bx p s m meth c E b L xs) (h0 : ad 0 = ad 0) {s0 s1 s2 s3 s4 s5 μ : q_S} {g : q_G} {H : Heap} {locs : List Loc} {ls : Array Slot} (hi : i + 4 ≤ L) (hn : n < 1000) (hR : r_R n s0 s1 s2 s3 μ) (hP : va_P (q_D E) vwCl (q_wX E ad s0 s1 s2 s3 s4 s5 ++ q_cM E q a μ g) H) (hD : va_D (fun q : Nat => s.heap.size ≤ q) (q_wX E ad s0 s1 s2 s3 s4 s5 ++ q_cM E q a μ g)) (hS : va_S (fun q : Nat => s.heap.size ≤ q) s.heap H locs) (hl : lv_has ls 4 [(0, .ref b), (1, .ref (ad 0)), (2, .ref q), (3, .int (nI i))]) (kk : lw_K p l e s m b below meth c Q E ad a q (n + 1) i) : W p l e room_1 s m #[Value.ref b] below meth c H locs 55 396 Q (F0 m 479 ls []) := by
  obtain ⟨F, hx, hb, hX, hbl, hbA, hA, hAl, hL31⟩ := B
  have j1 : vp_in (nI i + (1 : Int32)) L := by rw [nI_1]; exact vp_in_nI (by omega) (by omega)
  have j2 : vp_in (nI i + (2 : Int32)) L := by rw [show nI i + (2 : Int32) = nI (i + 2) from nI_add i 2]; exact vp_in_nI (by omega) (by omega)
  have j3 : vp_in (nI i + (3 : Int32)) L := by rw [show nI i + (3 : Int32) = nI (i + 3) from nI_add i 3]; exact vp_in_nI (by omega) (by omega)
  obtain ⟨r, t2, μ1, k1, k2, hR1⟩ := o_forget hR
  refine lv_aload_n hx hb dL_law_479 rfl (lv_at hl 1 rfl) ?_
  refine q_muVg F (kX3_forget l E ad s0 s1 s2 s3 s4 s5 H.size r t2 k1) q_cX3_forget q_lL_70 (q_cutX E ad q a s0 s1 s2 s3 s4 s5 s0 s1 t2 s3 s4 s5 μ g) hP hD hS hA hAl lw_room (q0 := 0) rfl rfl rfl rfl ⟨_, hl⟩ (rest := []) rfl (Nat.le_of_ble_eq_true rfl) dL_law_480 (fun H locs hP hD hS => ?_)
  refine lv_aload_n hx hb dL_law_483 rfl (lv_at hl 2 rfl) ?_
  refine q_muVg F (kX4_forget l E q a μ g H.size r μ1 k2) q_cX4_forget q_lL_73 (q_cutM E ad q a s0 s1 t2 s3 s4 s5 μ g μ1 g) hP hD hS hA hAl lw_room (q0 := 0) rfl rfl rfl rfl ⟨_, hl⟩ (rest := [.int r]) rfl (Nat.le_of_ble_eq_true rfl) dL_law_484 (fun H locs hP hD hS => ?_)
  refine lv_icmp_eq (tgt := 598) hx hb dL_law_487 (by decide) (fun _ => ?_) (fun z => absurd rfl z)
  exact kk s0 s1 t2 s3 s4 s5 μ1 g _ _ hR1 hP hD hS ls hl
set_option maxHeartbeats 4000000 in
theorem lw_c_winters {p : Program} {l : Launch} {e : Env} {s : State} {m : MethodId} {below : List Frame} {meth : Method} {c : Code} {Q : State → Prop} {E : q_E} {b L : Nat} {xs : Nat → Int32} {ad a : Nat → Nat} {q n i : Nat} (B : lw_Bx p s m meth c E b L xs) (h0 : ad 0 = ad 0) {s0 s1 s2 s3 s4 s5 μ : q_S} {g : q_G} {H : Heap} {locs : List Loc} {ls : Array Slot} (hi : i + 4 ≤ L) (hn : n < 1000) (hR : r_R n s0 s1 s2 s3 μ) (hP : va_P (q_D E) vwCl (q_wX E ad s0 s1 s2 s3 s4 s5 ++ q_cM E q a μ g) H) (hD : va_D (fun q : Nat => s.heap.size ≤ q) (q_wX E ad s0 s1 s2 s3 s4 s5 ++ q_cM E q a μ g)) (hS : va_S (fun q : Nat => s.heap.size ≤ q) s.heap H locs) (hl : lv_has ls 4 [(0, .ref b), (1, .ref (ad 0)), (2, .ref q), (3, .int (nI i))]) (kk : lw_K p l e s m b below meth c Q E ad a q (n + 1) i) : W p l e room_1 s m #[Value.ref b] below meth c H locs 55 396 Q (F0 m 492 ls []) := by
  obtain ⟨F, hx, hb, hX, hbl, hbA, hA, hAl, hL31⟩ := B
  have j1 : vp_in (nI i + (1 : Int32)) L := by rw [nI_1]; exact vp_in_nI (by omega) (by omega)
  have j2 : vp_in (nI i + (2 : Int32)) L := by rw [show nI i + (2 : Int32) = nI (i + 2) from nI_add i 2]; exact vp_in_nI (by omega) (by omega)
  have j3 : vp_in (nI i + (3 : Int32)) L := by rw [show nI i + (3 : Int32) = nI (i + 3) from nI_add i 3]; exact vp_in_nI (by omega) (by omega)
  obtain ⟨r, t4, g1, μ1, k1, k2, hR1⟩ := o_winters (s4 := s4) (g := g) hR (xs (nI i + (1 : Int32)).toNatClampNeg) (xs (nI i + (2 : Int32)).toNatClampNeg) (xs (nI i + (3 : Int32)).toNatClampNeg)
  refine lv_aload_n hx hb dL_law_492 rfl (lv_at hl 1 rfl) ?_
  refine lv_aload_n hx hb dL_law_493 rfl (lv_at hl 0 rfl) ?_
  refine lv_iload_n hx hb dL_law_494 rfl (lv_at hl 3 rfl) ?_
  refine lv_iconst (v := 1) hx hb dL_law_495 (by decide) ?_
  refine lv_iadd hx hb dL_law_496 ?_
  refine va_sld hx hb hX hbl hbA hS j1 dL_law_497 ?_
  refine lv_aload_n hx hb dL_law_498 rfl (lv_at hl 0 rfl) ?_
  refine lv_iload_n hx hb dL_law_499 rfl (lv_at hl 3 rfl) ?_
  refine lv_iconst (v := 2) hx hb dL_law_500 (by decide) ?_
  refine lv_iadd hx hb dL_law_501 ?_
  refine va_sld hx hb hX hbl hbA hS j2 dL_law_502 ?_
  refine lv_aload_n hx hb dL_law_503 rfl (lv_at hl 0 rfl) ?_
  refine lv_iload_n hx hb dL_law_504 rfl (lv_at hl 3 rfl) ?_
  refine lv_iconst (v := 3) hx hb dL_law_505 (by decide) ?_
  refine lv_iadd hx hb dL_law_506 ?_
  refine va_sld hx hb hX hbl hbA hS j3 dL_law_507 ?_
  refine q_muVg F (kX3_winters l E ad s0 s1 s2 s3 s4 s5 (xs (nI i + (1 : Int32)).toNatClampNeg) (xs (nI i + (2 : Int32)).toNatClampNeg) (xs (nI i + (3 : Int32)).toNatClampNeg) H.size r t4 k1) q_cX3_winters q_lL_74 (q_cutX E ad q a s0 s1 s2 s3 s4 s5 s0 s1 s2 s3 t4 s5 μ g) hP hD hS hA hAl lw_room (q0 := 0) rfl rfl rfl rfl ⟨_, hl⟩ (rest := []) rfl (Nat.le_of_ble_eq_true rfl) dL_law_508 (fun H locs hP hD hS => ?_)
  refine lv_aload_n hx hb dL_law_511 rfl (lv_at hl 2 rfl) ?_
  refine lv_aload_n hx hb dL_law_512 rfl (lv_at hl 0 rfl) ?_
  refine lv_iload_n hx hb dL_law_513 rfl (lv_at hl 3 rfl) ?_
  refine lv_iconst (v := 1) hx hb dL_law_514 (by decide) ?_
  refine lv_iadd hx hb dL_law_515 ?_
  refine va_sld hx hb hX hbl hbA hS j1 dL_law_516 ?_
  refine lv_aload_n hx hb dL_law_517 rfl (lv_at hl 0 rfl) ?_
  refine lv_iload_n hx hb dL_law_518 rfl (lv_at hl 3 rfl) ?_
  refine lv_iconst (v := 2) hx hb dL_law_519 (by decide) ?_
  refine lv_iadd hx hb dL_law_520 ?_
  refine va_sld hx hb hX hbl hbA hS j2 dL_law_521 ?_
  refine lv_aload_n hx hb dL_law_522 rfl (lv_at hl 0 rfl) ?_
  refine lv_iload_n hx hb dL_law_523 rfl (lv_at hl 3 rfl) ?_
  refine lv_iconst (v := 3) hx hb dL_law_524 (by decide) ?_
  refine lv_iadd hx hb dL_law_525 ?_
  refine va_sld hx hb hX hbl hbA hS j3 dL_law_526 ?_
  refine q_muVg F (kX4_winters l E q a μ g (xs (nI i + (1 : Int32)).toNatClampNeg) (xs (nI i + (2 : Int32)).toNatClampNeg) (xs (nI i + (3 : Int32)).toNatClampNeg) H.size r g1 μ1 k2) q_cX4_winters q_lL_77 (q_cutM E ad q a s0 s1 s2 s3 t4 s5 μ g μ1 g1) hP hD hS hA hAl lw_room (q0 := 0) rfl rfl rfl rfl ⟨_, hl⟩ (rest := [.int r]) rfl (Nat.le_of_ble_eq_true rfl) dL_law_527 (fun H locs hP hD hS => ?_)
  refine lv_icmp_eq (tgt := 598) hx hb dL_law_530 (by decide) (fun _ => ?_) (fun z => absurd rfl z)
  exact kk s0 s1 s2 s3 t4 s5 μ1 g1 _ _ hR1 hP hD hS ls hl
set_option maxHeartbeats 4000000 in
theorem lw_c_image {p : Program} {l : Launch} {e : Env} {s : State} {m : MethodId} {below : List Frame} {meth : Method} {c : Code} {Q : State → Prop} {E : q_E} {b L : Nat} {xs : Nat → Int32} {ad a : Nat → Nat} {q n i : Nat} (B : lw_Bx p s m meth c E b L xs) (h0 : ad 0 = ad 0) {s0 s1 s2 s3 s4 s5 μ : q_S} {g : q_G} {H : Heap} {locs : List Loc} {ls : Array Slot} (hi : i + 4 ≤ L) (hn : n < 1000) (hR : r_R n s0 s1 s2 s3 μ) (hP : va_P (q_D E) vwCl (q_wX E ad s0 s1 s2 s3 s4 s5 ++ q_cM E q a μ g) H) (hD : va_D (fun q : Nat => s.heap.size ≤ q) (q_wX E ad s0 s1 s2 s3 s4 s5 ++ q_cM E q a μ g)) (hS : va_S (fun q : Nat => s.heap.size ≤ q) s.heap H locs) (hl : lv_has ls 4 [(0, .ref b), (1, .ref (ad 0)), (2, .ref q), (3, .int (nI i))]) (kk : lw_K p l e s m b below meth c Q E ad a q (n + 1) i) : W p l e room_1 s m #[Value.ref b] below meth c H locs 55 396 Q (F0 m 535 ls []) := by
  obtain ⟨F, hx, hb, hX, hbl, hbA, hA, hAl, hL31⟩ := B
  have j1 : vp_in (nI i + (1 : Int32)) L := by rw [nI_1]; exact vp_in_nI (by omega) (by omega)
  have j2 : vp_in (nI i + (2 : Int32)) L := by rw [show nI i + (2 : Int32) = nI (i + 2) from nI_add i 2]; exact vp_in_nI (by omega) (by omega)
  have j3 : vp_in (nI i + (3 : Int32)) L := by rw [show nI i + (3 : Int32) = nI (i + 3) from nI_add i 3]; exact vp_in_nI (by omega) (by omega)
  obtain ⟨r, t0, t3, μ1, k1, k2, hR1⟩ := o_image hR
  refine lv_aload_n hx hb dL_law_535 rfl (lv_at hl 1 rfl) ?_
  refine q_muVg F (kX3_image l E ad s0 s1 s2 s3 s4 s5 H.size r t0 t3 k1) q_cX3_image q_lL_78 (q_cutX E ad q a s0 s1 s2 s3 s4 s5 t0 s1 s2 t3 s4 s5 μ g) hP hD hS hA hAl lw_room (q0 := 0) rfl rfl rfl rfl ⟨_, hl⟩ (rest := []) rfl (Nat.le_of_ble_eq_true rfl) dL_law_536 (fun H locs hP hD hS => ?_)
  refine lv_aload_n hx hb dL_law_539 rfl (lv_at hl 2 rfl) ?_
  refine q_muVg F (kX4_image l E q a μ g H.size r μ1 k2) q_cX4_image q_lL_81 (q_cutM E ad q a t0 s1 s2 t3 s4 s5 μ g μ1 g) hP hD hS hA hAl lw_room (q0 := 0) rfl rfl rfl rfl ⟨_, hl⟩ (rest := [.int r]) rfl (Nat.le_of_ble_eq_true rfl) dL_law_540 (fun H locs hP hD hS => ?_)
  refine lv_icmp_eq (tgt := 598) hx hb dL_law_543 (by decide) (fun _ => ?_) (fun z => absurd rfl z)
  exact kk t0 s1 s2 t3 s4 s5 μ1 g _ _ hR1 hP hD hS ls hl
set_option maxHeartbeats 4000000 in
theorem lw_c_restore {p : Program} {l : Launch} {e : Env} {s : State} {m : MethodId} {below : List Frame} {meth : Method} {c : Code} {Q : State → Prop} {E : q_E} {b L : Nat} {xs : Nat → Int32} {ad a : Nat → Nat} {q n i : Nat} (B : lw_Bx p s m meth c E b L xs) (h0 : ad 0 = ad 0) {s0 s1 s2 s3 s4 s5 μ : q_S} {g : q_G} {H : Heap} {locs : List Loc} {ls : Array Slot} (hi : i + 4 ≤ L) (hn : n < 1000) (hR : r_R n s0 s1 s2 s3 μ) (hP : va_P (q_D E) vwCl (q_wX E ad s0 s1 s2 s3 s4 s5 ++ q_cM E q a μ g) H) (hD : va_D (fun q : Nat => s.heap.size ≤ q) (q_wX E ad s0 s1 s2 s3 s4 s5 ++ q_cM E q a μ g)) (hS : va_S (fun q : Nat => s.heap.size ≤ q) s.heap H locs) (hl : lv_has ls 4 [(0, .ref b), (1, .ref (ad 0)), (2, .ref q), (3, .int (nI i))]) (kk : lw_K p l e s m b below meth c Q E ad a q (n + 1) i) : W p l e room_1 s m #[Value.ref b] below meth c H locs 55 396 Q (F0 m 548 ls []) := by
  obtain ⟨F, hx, hb, hX, hbl, hbA, hA, hAl, hL31⟩ := B
  have j1 : vp_in (nI i + (1 : Int32)) L := by rw [nI_1]; exact vp_in_nI (by omega) (by omega)
  have j2 : vp_in (nI i + (2 : Int32)) L := by rw [show nI i + (2 : Int32) = nI (i + 2) from nI_add i 2]; exact vp_in_nI (by omega) (by omega)
  have j3 : vp_in (nI i + (3 : Int32)) L := by rw [show nI i + (3 : Int32) = nI (i + 3) from nI_add i 3]; exact vp_in_nI (by omega) (by omega)
  obtain ⟨r, t2, μ1, k1, k2, hR1⟩ := o_restore hn hR
  refine lv_aload_n hx hb dL_law_548 rfl (lv_at hl 1 rfl) ?_
  refine q_muVg F (kX3_restore l E ad s0 s1 s2 s3 s4 s5 H.size r t2 k1) q_cX3_restore q_lL_82 (q_cutX E ad q a s0 s1 s2 s3 s4 s5 s0 s1 t2 s3 s4 s5 μ g) hP hD hS hA hAl lw_room (q0 := 0) rfl rfl rfl rfl ⟨_, hl⟩ (rest := []) rfl (Nat.le_of_ble_eq_true rfl) dL_law_549 (fun H locs hP hD hS => ?_)
  refine lv_aload_n hx hb dL_law_552 rfl (lv_at hl 2 rfl) ?_
  refine q_muVg F (kX4_restore l E q a μ g H.size r μ1 k2) q_cX4_restore q_lL_85 (q_cutM E ad q a s0 s1 t2 s3 s4 s5 μ g μ1 g) hP hD hS hA hAl lw_room (q0 := 0) rfl rfl rfl rfl ⟨_, hl⟩ (rest := [.int r]) rfl (Nat.le_of_ble_eq_true rfl) dL_law_553 (fun H locs hP hD hS => ?_)
  refine lv_icmp_eq (tgt := 598) hx hb dL_law_556 (by decide) (fun _ => ?_) (fun z => absurd rfl z)
  exact kk s0 s1 t2 s3 s4 s5 μ1 g _ _ hR1 hP hD hS ls hl
set_option maxHeartbeats 4000000 in
theorem lw_c_count {p : Program} {l : Launch} {e : Env} {s : State} {m : MethodId} {below : List Frame} {meth : Method} {c : Code} {Q : State → Prop} {E : q_E} {b L : Nat} {xs : Nat → Int32} {ad a : Nat → Nat} {q n i : Nat} (B : lw_Bx p s m meth c E b L xs) (h0 : ad 0 = ad 0) {s0 s1 s2 s3 s4 s5 μ : q_S} {g : q_G} {H : Heap} {locs : List Loc} {ls : Array Slot} (hi : i + 4 ≤ L) (hn : n < 1000) (hR : r_R n s0 s1 s2 s3 μ) (hP : va_P (q_D E) vwCl (q_wX E ad s0 s1 s2 s3 s4 s5 ++ q_cM E q a μ g) H) (hD : va_D (fun q : Nat => s.heap.size ≤ q) (q_wX E ad s0 s1 s2 s3 s4 s5 ++ q_cM E q a μ g)) (hS : va_S (fun q : Nat => s.heap.size ≤ q) s.heap H locs) (hl : lv_has ls 4 [(0, .ref b), (1, .ref (ad 0)), (2, .ref q), (3, .int (nI i))]) (kk : lw_K p l e s m b below meth c Q E ad a q (n + 1) i) : W p l e room_1 s m #[Value.ref b] below meth c H locs 55 396 Q (F0 m 561 ls []) := by
  obtain ⟨F, hx, hb, hX, hbl, hbA, hA, hAl, hL31⟩ := B
  have j1 : vp_in (nI i + (1 : Int32)) L := by rw [nI_1]; exact vp_in_nI (by omega) (by omega)
  have j2 : vp_in (nI i + (2 : Int32)) L := by rw [show nI i + (2 : Int32) = nI (i + 2) from nI_add i 2]; exact vp_in_nI (by omega) (by omega)
  have j3 : vp_in (nI i + (3 : Int32)) L := by rw [show nI i + (3 : Int32) = nI (i + 3) from nI_add i 3]; exact vp_in_nI (by omega) (by omega)
  obtain ⟨r, k1, k2⟩ := o_count hR (xs (nI i + (1 : Int32)).toNatClampNeg)
  refine lv_aload_n hx hb dL_law_561 rfl (lv_at hl 1 rfl) ?_
  refine lv_aload_n hx hb dL_law_562 rfl (lv_at hl 0 rfl) ?_
  refine lv_iload_n hx hb dL_law_563 rfl (lv_at hl 3 rfl) ?_
  refine lv_iconst (v := 1) hx hb dL_law_564 (by decide) ?_
  refine lv_iadd hx hb dL_law_565 ?_
  refine va_sld hx hb hX hbl hbA hS j1 dL_law_566 ?_
  refine q_roVg F (kX3_count l E ad s0 s1 s2 s3 s4 s5 (xs (nI i + (1 : Int32)).toNatClampNeg) r k1) q_cX3_count q_lL_86 (F.2.2.2.2.2.go hAl hS) ((q_subX E ad q a s0 s1 s2 s3 s4 s5 μ g).P hP) lw_room (q0 := 0) rfl rfl rfl rfl ⟨_, hl⟩ (rest := []) rfl (Nat.le_of_ble_eq_true rfl) dL_law_567 ?_
  refine lv_aload_n hx hb dL_law_570 rfl (lv_at hl 2 rfl) ?_
  refine lv_aload_n hx hb dL_law_571 rfl (lv_at hl 0 rfl) ?_
  refine lv_iload_n hx hb dL_law_572 rfl (lv_at hl 3 rfl) ?_
  refine lv_iconst (v := 1) hx hb dL_law_573 (by decide) ?_
  refine lv_iadd hx hb dL_law_574 ?_
  refine va_sld hx hb hX hbl hbA hS j1 dL_law_575 ?_
  refine q_roVg F (kX4_count l E q a μ g (xs (nI i + (1 : Int32)).toNatClampNeg) r k2) q_cX4_count q_lL_89 (F.2.2.2.2.2.go hAl hS) ((q_subM E ad q a s0 s1 s2 s3 s4 s5 μ g).P hP) lw_room (q0 := 0) rfl rfl rfl rfl ⟨_, hl⟩ (rest := [.int r]) rfl (Nat.le_of_ble_eq_true rfl) dL_law_576 ?_
  refine lv_icmp_eq (tgt := 598) hx hb dL_law_579 (by decide) (fun _ => ?_) (fun z => absurd rfl z)
  exact kk s0 s1 s2 s3 s4 s5 μ g _ _ hR.up hP hD hS ls hl
set_option maxHeartbeats 4000000 in
theorem lw_c_digest {p : Program} {l : Launch} {e : Env} {s : State} {m : MethodId} {below : List Frame} {meth : Method} {c : Code} {Q : State → Prop} {E : q_E} {b L : Nat} {xs : Nat → Int32} {ad a : Nat → Nat} {q n i : Nat} (B : lw_Bx p s m meth c E b L xs) (h0 : ad 0 = ad 0) {s0 s1 s2 s3 s4 s5 μ : q_S} {g : q_G} {H : Heap} {locs : List Loc} {ls : Array Slot} (hi : i + 4 ≤ L) (hn : n < 1000) (hR : r_R n s0 s1 s2 s3 μ) (hP : va_P (q_D E) vwCl (q_wX E ad s0 s1 s2 s3 s4 s5 ++ q_cM E q a μ g) H) (hD : va_D (fun q : Nat => s.heap.size ≤ q) (q_wX E ad s0 s1 s2 s3 s4 s5 ++ q_cM E q a μ g)) (hS : va_S (fun q : Nat => s.heap.size ≤ q) s.heap H locs) (hl : lv_has ls 4 [(0, .ref b), (1, .ref (ad 0)), (2, .ref q), (3, .int (nI i))]) (kk : lw_K p l e s m b below meth c Q E ad a q (n + 1) i) : W p l e room_1 s m #[Value.ref b] below meth c H locs 55 396 Q (F0 m 584 ls []) := by
  obtain ⟨F, hx, hb, hX, hbl, hbA, hA, hAl, hL31⟩ := B
  have j1 : vp_in (nI i + (1 : Int32)) L := by rw [nI_1]; exact vp_in_nI (by omega) (by omega)
  have j2 : vp_in (nI i + (2 : Int32)) L := by rw [show nI i + (2 : Int32) = nI (i + 2) from nI_add i 2]; exact vp_in_nI (by omega) (by omega)
  have j3 : vp_in (nI i + (3 : Int32)) L := by rw [show nI i + (3 : Int32) = nI (i + 3) from nI_add i 3]; exact vp_in_nI (by omega) (by omega)
  obtain ⟨r, g1, μ1, k1, k2, hR1⟩ := o_digest (g := g) hR
  refine lv_aload_n hx hb dL_law_584 rfl (lv_at hl 1 rfl) ?_
  refine q_roVg F (kX3_digest l E ad s0 s1 s2 s3 s4 s5 r k1) q_cX3_digest q_lL_90 (F.2.2.2.2.2.go hAl hS) ((q_subX E ad q a s0 s1 s2 s3 s4 s5 μ g).P hP) lw_room (q0 := 0) rfl rfl rfl rfl ⟨_, hl⟩ (rest := []) rfl (Nat.le_of_ble_eq_true rfl) dL_law_585 ?_
  refine lv_aload_n hx hb dL_law_588 rfl (lv_at hl 2 rfl) ?_
  refine q_muVg F (kX4_digest l E q a μ g H.size r g1 μ1 k2) q_cX4_digest q_lL_94 (q_cutM E ad q a s0 s1 s2 s3 s4 s5 μ g μ1 g1) hP hD hS hA hAl lw_room (q0 := 0) rfl rfl rfl rfl ⟨_, hl⟩ (rest := [.long r]) rfl (Nat.le_of_ble_eq_true rfl) dL_law_589 (fun H locs hP hD hS => ?_)
  refine W.lcmp hx hb dL_law_592 ?_
  refine lv_if_eq (tgt := 598) hx hb dL_law_593 (by decide) (fun _ => ?_) (fun z => absurd (lg_cmp_self r) z)
  exact kk s0 s1 s2 s3 s4 s5 μ1 g1 _ _ hR1 hP hD hS ls hl
