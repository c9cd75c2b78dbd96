theorem q_ncL_7 : Cond.classLink RL 7 RX3 ∈ q_BIG := q_in (w := .classLink RL 7 RX3) (k := 81) (by decide +kernel) (by decide +kernel)
theorem q_ncL_10 : Cond.classLink RL 10 RX4 ∈ q_BIG := q_in (w := .classLink RL 10 RX4) (k := 602) (by decide +kernel) (by decide +kernel)
theorem q_niX3 : Cond.instantiable RX3 8 ∈ q_BIG := q_in (w := .instantiable RX3 8) (k := 82) (by decide +kernel) (by decide +kernel)
theorem q_niX4 : Cond.instantiable RX4 41 ∈ q_BIG := q_in (w := .instantiable RX4 41) (k := 603) (by decide +kernel) (by decide +kernel)
theorem q_nzX3 : Cond.initialized RX3 ∈ q_BIG := q_in (w := .initialized RX3) (k := 68) (by decide +kernel) (by decide +kernel)
theorem q_nzX4 : Cond.initialized RX4 ∈ q_BIG := q_in (w := .initialized RX4) (k := 72) (by decide +kernel) (by decide +kernel)
theorem q_nlL_9 : q_L RL 9 yX3_init := Or.inl (q_in (w := .methodLink RL 9 yX3_init) (k := 83) (by decide +kernel) (by decide +kernel))
theorem q_nlL_12 : q_L RL 12 yX4_init := Or.inl (q_in (w := .methodLink RL 12 yX4_init) (k := 604) (by decide +kernel) (by decide +kernel))
theorem lw_out {L k : Nat} (hL : L ≤ 2048) (h : L < 4 * k + 4) (hk : 4 * k ≤ 4000) : Int32.ofNat L - (4 : Int32) < nI (4 * k) := by
  show nI L - nI 4 < nI (4 * k)
  by_cases z : 4 ≤ L
  · rw [pk_sub z, nI_ltI (by omega) (by omega)]
    omega
  · have h1 : nI L - nI 4 < 0 := pk_sneg (by omega) (by omega)
    have h2 : (0 : Int32) ≤ nI (4 * k) := Int32.not_lt.mp (nI_pos (by omega))
    exact Int32.lt_of_lt_of_le h1 h2
set_option maxHeartbeats 4000000 in
theorem lw_loop {p : Program} {l : Launch} {e : Env} {s : State} {m : MethodId} {below : List Frame} {meth : Method} {c : Code} {E : q_E} {b L : Nat} {xs : Nat → Int32} {ad a : Nat → Nat} {q : Nat} (hB : lw_Bx p s m meth c E b L xs) (hr : meth.sig.returnType = ret) (hlocks : meth.locks = false) :
    ∀ (n k : Nat), L < 4 * k + 4 * n → 4 * k ≤ 4000 → ∀ (s0 s1 s2 s3 s4 s5 μ : q_S) (g : q_G) (H : Heap) (locs : List Loc), r_R k s0 s1 s2 s3 μ → va_P (q_D E) vwCl (q_wX E ad s0 s1 s2 s3 s4 s5 ++ q_cM E q a μ g) H → va_D (fun q : Nat => s.heap.size ≤ q) (q_wX E ad s0 s1 s2 s3 s4 s5 ++ q_cM E q a μ g) → va_S (fun q : Nat => s.heap.size ≤ q) s.heap H locs → ∀ ls : Array Slot, lv_has ls 4 [(0, .ref b), (1, .ref (ad 0)), (2, .ref q), (3, .int (nI (4 * k)))] → W p l e room_1 s m #[Value.ref b] below meth c H locs 55 396 (lw_Z below #[Value.ref b] s) (F0 m 18 ls []) := by
  have hB' := hB
  obtain ⟨F, hx, hb, hX, hbl, hbA, hA, hAl, hL⟩ := hB'
  intro n
  induction n with
  | zero =>
    intro k h1 h2 s0 s1 s2 s3 s4 s5 μ g H locs hR hP hD hS ls hl
    refine lv_iload_n hx hb dL_law_18 rfl (lv_at hl 3 rfl) ?_
    refine lv_aload_n hx hb dL_law_19 rfl (lv_at hl 0 rfl) ?_
    refine va_slen hx hb hX hbl hbA hS dL_law_20 ?_
    refine lv_iconst (v := 4) hx hb dL_law_21 (by decide) ?_
    refine lv_isub hx hb dL_law_22 ?_
    refine lv_icmp_gt (tgt := 604) hx hb dL_law_23 (by decide) (fun _ => ?_) (fun c1 => ?_)
    · refine lv_iconst (v := 1) hx hb dL_law_604 (by decide) ?_
      refine va_forget (fun q hq => hS.2.2 q hq) ?_
      refine W.widen (k := 636116) (n := 7193900) (Nat.le_of_ble_eq_true rfl) (Nat.le_of_ble_eq_true rfl) ?_
      exact lw_ret hx hb hr hlocks dL_law_605
    · exact absurd (lw_out hL (by omega) (by omega)) c1
  | succ n ih =>
    intro k h1 h2 s0 s1 s2 s3 s4 s5 μ g H locs hR hP hD hS ls hl
    refine lv_iload_n hx hb dL_law_18 rfl (lv_at hl 3 rfl) ?_
    refine lv_aload_n hx hb dL_law_19 rfl (lv_at hl 0 rfl) ?_
    refine va_slen hx hb hX hbl hbA hS dL_law_20 ?_
    refine lv_iconst (v := 4) hx hb dL_law_21 (by decide) ?_
    refine lv_isub hx hb dL_law_22 ?_
    refine lv_icmp_gt (tgt := 604) hx hb dL_law_23 (by decide) (fun _ => ?_) (fun c1 => ?_)
    · refine lv_iconst (v := 1) hx hb dL_law_604 (by decide) ?_
      refine va_forget (fun q hq => hS.2.2 q hq) ?_
      refine W.widen (k := 636116) (n := 7193900) (Nat.le_of_ble_eq_true rfl) (Nat.le_of_ble_eq_true rfl) ?_
      exact lw_ret hx hb hr hlocks dL_law_605
    · have hk : 4 * k + 4 ≤ L := by
        apply Nat.le_of_not_lt
        intro z
        exact c1 (lw_out hL (by omega) (by omega))
      have kk : lw_K p l e s m b below meth c (lw_Z below #[Value.ref b] s) E ad a q (k + 1) (4 * k) := by
        intro s0 s1 s2 s3 s4 s5 μ g H locs hR hP hD hS ls hl
        refine lv_iinc (v := nI (4 * (k + 1))) (lv' := [(3, .int (nI (4 * (k + 1)))), (0, .ref b), (1, .ref (ad 0)), (2, .ref q)]) hx hb dL_law_598 hl (k := 3) rfl (nI_add (4 * k) 4) (by decide) rfl (fun ls hl => ?_)
        refine lv_goto (tgt := 18) hx hb dL_law_601 (by decide) ?_
        exact ih (k + 1) (by omega) (by omega) s0 s1 s2 s3 s4 s5 μ g H locs hR hP hD hS ls (lv_sub hl [1, 2, 3, 0] rfl)
      refine lv_aload_n hx hb dL_law_26 rfl (lv_at hl 0 rfl) ?_
      refine lv_iload_n hx hb dL_law_27 rfl (lv_at hl 3 rfl) ?_
      refine va_sld hx hb hX hbl hbA hS (vp_in_nI (by omega) (by omega)) dL_law_28 ?_
      refine lv_bipush (v := 31) hx hb dL_law_29 (by decide) ?_
      refine lv_iand hx hb dL_law_31 ?_
      obtain ⟨j, hj32, ej⟩ := pk_andE (xs (nI (4 * k)).toNatClampNeg) 5 (m := 31) (by decide)
      rw [ej]
      rcases (show j = 0 ∨ j = 1 ∨ j = 2 ∨ j = 3 ∨ j = 4 ∨ j = 5 ∨ j = 6 ∨ j = 7 ∨ j = 8 ∨ j = 9 ∨ j = 10 ∨ j = 11 ∨ j = 12 ∨ j = 13 ∨ j = 14 ∨ j = 15 ∨ j = 16 ∨ j = 17 ∨ j = 18 ∨ 19 ≤ j by omega) with hj | hj | hj | hj | hj | hj | hj | hj | hj | hj | hj | hj | hj | hj | hj | hj | hj | hj | hj | hj
      · subst hj
        refine lv_tableIn (off := 92) (tgt := 124) hx hb dL_law_32 (by decide) (by decide) (by decide) (by decide) ?_
        exact lw_c_letter hB rfl (by omega) (by omega) hR hP hD hS hl kk
      · subst hj
        refine lv_tableIn (off := 115) (tgt := 147) hx hb dL_law_32 (by decide) (by decide) (by decide) (by decide) ?_
        exact lw_c_blank hB rfl (by omega) (by omega) hR hP hD hS hl kk
      · subst hj
        refine lv_tableIn (off := 128) (tgt := 160) hx hb dL_law_32 (by decide) (by decide) (by decide) (by decide) ?_
        exact lw_c_fault hB rfl (by omega) (by omega) hR hP hD hS hl kk
      · subst hj
        refine lv_tableIn (off := 141) (tgt := 173) hx hb dL_law_32 (by decide) (by decide) (by decide) (by decide) ?_
        exact lw_c_valley hB rfl (by omega) (by omega) hR hP hD hS hl kk
      · subst hj
        refine lv_tableIn (off := 154) (tgt := 186) hx hb dL_law_32 (by decide) (by decide) (by decide) (by decide) ?_
        exact lw_c_about hB rfl (by omega) (by omega) hR hP hD hS hl kk
      · subst hj
        refine lv_tableIn (off := 187) (tgt := 219) hx hb dL_law_32 (by decide) (by decide) (by decide) (by decide) ?_
        exact lw_c_as hB rfl (by omega) (by omega) hR hP hD hS hl kk
      · subst hj
        refine lv_tableIn (off := 220) (tgt := 252) hx hb dL_law_32 (by decide) (by decide) (by decide) (by decide) ?_
        exact lw_c_loaf hB rfl (by omega) (by omega) hR hP hD hS hl kk
      · subst hj
        refine lv_tableIn (off := 253) (tgt := 285) hx hb dL_law_32 (by decide) (by decide) (by decide) (by decide) ?_
        exact lw_c_eat hB rfl (by omega) (by omega) hR hP hD hS hl kk
      · subst hj
        refine lv_tableIn (off := 286) (tgt := 318) hx hb dL_law_32 (by decide) (by decide) (by decide) (by decide) ?_
        exact lw_c_halve hB rfl (by omega) (by omega) hR hP hD hS hl kk
      · subst hj
        refine lv_tableIn (off := 329) (tgt := 361) hx hb dL_law_32 (by decide) (by decide) (by decide) (by decide) ?_
        exact lw_c_winter hB rfl (by omega) (by omega) hR hP hD hS hl kk
      · subst hj
        refine lv_tableIn (off := 342) (tgt := 374) hx hb dL_law_32 (by decide) (by decide) (by decide) (by decide) ?_
        exact lw_c_die hB rfl (by omega) (by omega) hR hP hD hS hl kk
      · subst hj
        refine lv_tableIn (off := 365) (tgt := 397) hx hb dL_law_32 (by decide) (by decide) (by decide) (by decide) ?_
        exact lw_c_spread hB rfl (by omega) (by omega) hR hP hD hS hl kk
      · subst hj
        refine lv_tableIn (off := 388) (tgt := 420) hx hb dL_law_32 (by decide) (by decide) (by decide) (by decide) ?_
        exact lw_c_say hB rfl (by omega) (by omega) hR hP hD hS hl kk
      · subst hj
        refine lv_tableIn (off := 447) (tgt := 479) hx hb dL_law_32 (by decide) (by decide) (by decide) (by decide) ?_
        exact lw_c_forget hB rfl (by omega) (by omega) hR hP hD hS hl kk
      · subst hj
        refine lv_tableIn (off := 460) (tgt := 492) hx hb dL_law_32 (by decide) (by decide) (by decide) (by decide) ?_
        exact lw_c_winters hB rfl (by omega) (by omega) hR hP hD hS hl kk
      · subst hj
        refine lv_tableIn (off := 503) (tgt := 535) hx hb dL_law_32 (by decide) (by decide) (by decide) (by decide) ?_
        exact lw_c_image hB rfl (by omega) (by omega) hR hP hD hS hl kk
      · subst hj
        refine lv_tableIn (off := 516) (tgt := 548) hx hb dL_law_32 (by decide) (by decide) (by decide) (by decide) ?_
        exact lw_c_restore hB rfl (by omega) (by omega) hR hP hD hS hl kk
      · subst hj
        refine lv_tableIn (off := 529) (tgt := 561) hx hb dL_law_32 (by decide) (by decide) (by decide) (by decide) ?_
        exact lw_c_count hB rfl (by omega) (by omega) hR hP hD hS hl kk
      · subst hj
        refine lv_tableIn (off := 552) (tgt := 584) hx hb dL_law_32 (by decide) (by decide) (by decide) (by decide) ?_
        exact lw_c_digest hB rfl (by omega) (by omega) hR hP hD hS hl kk
      · refine lv_tableOut (tgt := 598) hx hb dL_law_32 (Or.inr (by rw [nI_toInt (by omega)]; omega)) (by decide) ?_
        exact kk s0 s1 s2 s3 s4 s5 μ g H locs hR.up hP hD hS ls hl
theorem r_R_0 : r_R 0 (fun _ _ => 0) (fun _ _ => 0) (fun _ _ => 0) (fun _ _ => 0) (fun _ _ => 0) := by
  have hW : v_W (fun _ _ => 0) := by
    refine ⟨⟨Nat.zero_le _, Nat.zero_le _, Iff.rfl⟩, ⟨by decide, by decide⟩, fun _ _ => ⟨Nat.zero_le _, Nat.zero_le _⟩, fun _ _ _ => ⟨rfl, rfl⟩, fun l h => absurd h (Nat.not_lt_zero _), by decide, ⟨Nat.zero_le _, fun k h => absurd h (Nat.not_lt_zero _)⟩, by decide⟩
  exact ⟨fun _ _ => 0, fun _ _ => 0, 0, fun _ => 0, 0, 0, ⟨fun _ _ _ => rfl, hW, ⟨⟨rfl, rfl, rfl, rfl⟩, fun e h => absurd h (Nat.not_lt_zero _), fun l h => absurd h (Nat.not_lt_zero _), fun k h => absurd h (Nat.not_lt_zero _)⟩, rfl⟩, ⟨⟨rfl, by omega, fun j h => absurd h (Nat.not_lt_zero _)⟩, rfl, by omega, fun j h => absurd h (Nat.not_lt_zero _)⟩, ⟨rfl, rfl, by omega⟩, ⟨rfl, rfl, by omega⟩, Or.inl ⟨rfl, Or.inl rfl⟩⟩
theorem lw_arr {A : Array Value} {s : State} {ty : FieldType} (h : (Cond.arrayClass ty).before A s = true) : ∃ cA : ClassId, ArrOfT s cA ty ∧ s.vm.findClass ("[" ++ ty.toString) = some cA := by
  obtain ⟨cA, kA, comp, h1, h2, h3⟩ := Cond.arrayClass_spec (show (Cond.arrayClass ty).holds A s none s [] = true from h)
  exact ⟨cA, fun n z => ⟨fun k h => (by cases h), kA, h2, comp, h3⟩, h1⟩
set_option maxHeartbeats 4000000 in
set_option maxRecDepth 100000 in
theorem whole_start {p : Program} {e : Env} {s : State} {m : MethodId} {below : List Frame} {meth : Method} {c : Code} (l : Launch) (hflags : l.flags = flags0) {b L : Nat} {xs : Nat → Int32} (hL : L ≤ 2048) (C0 : lw_At p s m meth c b L xs) : W p l e room_1 s m #[Value.ref b] below meth c s.heap [] 0 0 (lw_Z below #[Value.ref b] s) (entryFrame m ([Value.ref b] : List Value).toArray 4) := by
  obtain ⟨hx, hb, hr, hml, hown, hts, hX, hbl, hlocks, hgv⟩ := C0
  have hA : ∀ q : Nat, s.heap.size ≤ q → (fun q : Nat => s.heap.size ≤ q) q := fun _ h => h
  have hbA : ¬ (fun q : Nat => s.heap.size ≤ q) b := Nat.not_le.mpr hbl
  have hB : ∀ (w : Cond), w ∈ q_BIG → ∀ a : Array Value, w.before a s = true := fun w hw a => by
    have hg := good_of_word (List.mem_filter.mp hw).2
    exact word_at (U := s) (by first | exact State.WarmedH.refl s | exact State.WarmedH.refl | exact State.WarmedH.rfl) hg (hts w (List.mem_filter.mp hw).1)
  have htsB : ∀ w ∈ q_BIG, w.before #[Value.ref b] s = true := fun w h => hB w h _
  obtain ⟨c0, i0, k0⟩ := u_known (C := RX0) (T := TX0) (N := 2) (n := 2) htsB q_K0.2.1 (htsB _ q_niX0)
  obtain ⟨c1, i1, k1⟩ := u_known (C := RX1) (T := TX1) (N := 4) (n := 4) htsB q_K1.2.1 (htsB _ q_niX1)
  obtain ⟨c2, i2, k2⟩ := u_known (C := RX2) (T := TX2) (N := 15) (n := 15) htsB q_K2.2.1 (htsB _ q_niX2)
  obtain ⟨c3, i3, k3⟩ := u_known (C := RX3) (T := TX3) (N := 8) (n := 8) htsB q_K3.2.1 (htsB _ q_niX3)
  obtain ⟨c4, i4, k4⟩ := u_known (C := RX4) (T := TX4) (N := 41) (n := 41) htsB q_K4.2.1 (htsB _ q_niX4)
  obtain ⟨dC, dI, hKc⟩ : ∃ (dC : Nat → ClassId) (dI : Nat → Nat → Nat), ∀ (k : Nat) (q : vw_C), vwCl[k]? = some q → u_Kn s q.1 q.2.1 q.2.2 (dC k) (dI k) := by
    refine ⟨fun k => if k = 0 then c0 else if k = 1 then c1 else if k = 2 then c2 else if k = 3 then c3 else c4, fun k => if k = 0 then i0 else if k = 1 then i1 else if k = 2 then i2 else if k = 3 then i3 else i4, ?_⟩
    intro k q hq
    match k, hq with
    | 0, hq => cases hq; exact k0
    | 1, hq => cases hq; exact k1
    | 2, hq => cases hq; exact k2
    | 3, hq => cases hq; exact k3
    | 4, hq => cases hq; exact k4
    | k + 5, hq => simp [vwCl] at hq
  obtain ⟨cB, hB1, hB2⟩ := lw_arr (htsB _ q_aB)
  obtain ⟨cI, hI1, hI2⟩ := lw_arr (htsB _ q_aI)
  obtain ⟨cZ, hZ1, hZ2⟩ := lw_arr (htsB _ q_aZ)
  have hs := flat_of_before _ hgv
  have hold : ∀ a : Nat, a < s.heap.size → ¬ (fun q : Nat => s.heap.size ≤ q) a := fun a h => Nat.not_le.mpr h
  obtain ⟨adK, adV, hSt, hTm⟩ := vk_Sof (args := #[Value.ref b]) (s := s) (N := 1) (tm := fun _ => Term.string "SinEaters" 246) (len := [5]) (byt := q_bytes) (A := fun q : Nat => s.heap.size ≤ q)
    (fun i hi => by rcases (show i = 0 by omega) with rfl; decide) (fun i hi => hs _ (by decide +kernel)) (fun i hi => hs _ (by decide +kernel)) (fun i hi => hs _ (by decide +kernel))
    (fun i hi => by rcases (show i = 0 by omega) with rfl; exact hs _ (by decide +kernel))
    (fun i hi j hj => by
      rcases (show i = 0 by omega) with rfl
      have hj : j < 5 := hj
      rcases (show j = 0 ∨ j = 1 ∨ j = 2 ∨ j = 3 ∨ j = 4 by omega) with rfl | rfl | rfl | rfl | rfl <;> exact hs _ (by decide +kernel))
    (fun i j hi hj hn => absurd (show i = j by omega) hn) hold
  have hT0 := hTm 0 (by omega)
  have hRf : vk_R "SinEaters" 246 "eprbt" (adK 0) s := vk_R.of (A := #[Value.ref b]) (hts _ (List.mem_of_getElem? (i := 252) (by decide +kernel))) hT0
  have hZs : va_Z "java/lang/String" "COMPACT_STRINGS" "Z" (.int 1) (fun q : Nat => s.heap.size ≤ q) s s.heap := va_Zof (hts _ (List.mem_of_getElem? (i := 266) (by decide +kernel))) (hts _ (List.mem_of_getElem? (i := 73) (by decide +kernel))) (va_eqt (hs _ (by decide +kernel))) hold
  obtain ⟨E, hE1⟩ : ∃ E : q_E, E = ((dC, dI), cB, cI, cZ, s.heap.size, adK 0, adV 0) := ⟨_, rfl⟩
  have hEV : q_EV E s := by
    subst hE1
    refine ⟨⟨hKc, fun k q h => ?_⟩, fun w hw hn => ?_, hRf, ⟨fun i hi => ?_, fun i j hi hj _ => by omega⟩, hZs⟩
    · match k, h with
      | 0, h => cases h; exact ⟨hB1, hB2⟩
      | 1, h => cases h; exact ⟨hI1, hI2⟩
      | 2, h => cases h; exact ⟨hZ1, hZ2⟩
      | k + 3, h => simp at h
    · have hw2 : w ∈ lw_tbl := List.mem_append_right _ hw
      have hb2 := hts w hw2
      cases w <;> first | exact va_Nw.of rfl hb2 | exact absurd hn (by simp [q_isNest])
    · rcases (show i = 0 by omega) with rfl
      exact hSt.1 0 (by omega)
  have hlo : q_lo E = s.heap.size := by subst hE1; rfl
  have hAl : ∀ q : Nat, (fun q : Nat => s.heap.size ≤ q) q → q_lo E ≤ q := fun q h => by rw [hlo]; exact h
  clear hE1
  have F : q_Fx p s m c E RL cL_law 4 := ⟨hx, hb, hml, hown, hB, hEV⟩
  have hS : va_S (fun q : Nat => s.heap.size ≤ q) s.heap s.heap [] := va_S.rf
  have hP : va_P (q_D E) vwCl [] s.heap := fun k q h => by simp at h
  have hD : va_D (fun q : Nat => s.heap.size ≤ q) [] := ⟨fun i j p q h => by simp at h, fun k q h => by simp at h⟩
  have hl := lv_entry ([.ref b]) (n := 4) (Nat.le_of_ble_eq_true rfl)
  rw [lg_entry_eq]
  generalize (lg_sl ([.ref b]) ++ List.replicate (4 - (lg_sl ([.ref b])).length) Slot.unset).toArray = ls at hl ⊢
  have hl : lv_has ls 4 [(0, .ref b)] := hl
  refine q_make (fs := [.null, .null, .null, .null, .null, .int 0, .int 0, .int 0]) (W1 := fun q av => q_wX E (fun k => if k = 0 then q else av k) (fun _ _ => 0) (fun _ _ => 0) (fun _ _ => 0) (fun _ _ => 0) (fun _ _ => 0) (fun _ _ => 0)) F q_K3 (fun j hj => by rcases (show j = 0 ∨ j = 1 ∨ j = 2 ∨ j = 3 ∨ j = 4 ∨ j = 5 ∨ j = 6 ∨ j = 7 by omega) with rfl | rfl | rfl | rfl | rfl | rfl | rfl | rfl <;> rfl) q_ncL_7 q_niX3 q_nzX3 (fun q sz => nX3 l E q sz) q_ciX3 q_nlL_9 ⟨Nat.le_of_ble_eq_true rfl, Nat.le_of_ble_eq_true rfl⟩ (Nat.le_of_ble_eq_true rfl) (Nat.le_of_ble_eq_true rfl) hP hD hS hA hAl (Nat.le_of_eq hlo) [] (fun _ => rfl) (by decide) (fun i h => by cases h) ⟨_, hl⟩ (Nat.le_of_ble_eq_true rfl) dL_law_0 dL_law_3 dL_law_4 (fun q0 a0 H locs hP hD hS => ?_)
  refine lv_astore_n (lv' := [(1, .ref q0), (0, .ref b)]) hx hb dL_law_7 rfl hl (by decide) rfl (fun ls hl => ?_)
  have hP : va_P (q_D E) vwCl (q_wX E (fun k => if k = 0 then q0 else a0 k) (fun _ _ => 0) (fun _ _ => 0) (fun _ _ => 0) (fun _ _ => 0) (fun _ _ => 0) (fun _ _ => 0)) H := hP
  have hD : va_D (fun q : Nat => s.heap.size ≤ q) (q_wX E (fun k => if k = 0 then q0 else a0 k) (fun _ _ => 0) (fun _ _ => 0) (fun _ _ => 0) (fun _ _ => 0) (fun _ _ => 0) (fun _ _ => 0)) := hD
  refine q_make (fs := [.int 0, .int 0, .null, .null, .null, .null, .null, .int 0, .null, .null, .int 0, .int 0, .int 0, .null, .null, .null, .int 0, .int 0, .null, .int 0, .int 0, .int 0, .null, .null, .null, .int 0, .long 0, .int 0, .int 0, .int 0, .int 0, .int 0, .int 0, .null, .null, .null, .null, .null, .null, .null, .long 0]) (W1 := fun q av => q_cM E q av (fun _ _ => 0) (fun _ => 0)) F q_K4 (fun j hj => by rcases (show j = 0 ∨ j = 1 ∨ j = 2 ∨ j = 3 ∨ j = 4 ∨ j = 5 ∨ j = 6 ∨ j = 7 ∨ j = 8 ∨ j = 9 ∨ j = 10 ∨ j = 11 ∨ j = 12 ∨ j = 13 ∨ j = 14 ∨ j = 15 ∨ j = 16 ∨ j = 17 ∨ j = 18 ∨ j = 19 ∨ j = 20 ∨ j = 21 ∨ j = 22 ∨ j = 23 ∨ j = 24 ∨ j = 25 ∨ j = 26 ∨ j = 27 ∨ j = 28 ∨ j = 29 ∨ j = 30 ∨ j = 31 ∨ j = 32 ∨ j = 33 ∨ j = 34 ∨ j = 35 ∨ j = 36 ∨ j = 37 ∨ j = 38 ∨ j = 39 ∨ j = 40 by omega) with rfl | rfl | rfl | rfl | rfl | rfl | rfl | rfl | rfl | rfl | rfl | rfl | rfl | rfl | rfl | rfl | rfl | rfl | rfl | rfl | rfl | rfl | rfl | rfl | rfl | rfl | rfl | rfl | rfl | rfl | rfl | rfl | rfl | rfl | rfl | rfl | rfl | rfl | rfl | rfl | rfl <;> rfl) q_ncL_10 q_niX4 q_nzX4 (fun q sz => nX4 l E q sz) q_ciX4 q_nlL_12 ⟨Nat.le_of_ble_eq_true rfl, Nat.le_of_ble_eq_true rfl⟩ (Nat.le_of_ble_eq_true rfl) (Nat.le_of_ble_eq_true rfl) hP hD hS hA hAl (Nat.le_of_eq hlo) [0, 1, 2, 3, 4, 5, 6, 7, 8, 9, 10, 11, 12, 13, 14, 15, 16, 17, 18, 19, 20, 21, 22, 23, 24, 25, 26, 27, 28, 29, 30, 31, 32] (fun _ => rfl) (by decide) (show ∀ i ∈ ([0, 1, 2, 3, 4, 5, 6, 7, 8, 9, 10, 11, 12, 13, 14, 15, 16, 17, 18, 19, 20, 21, 22, 23, 24, 25, 26, 27, 28, 29, 30, 31, 32] : List Nat), i ∉ [33] by decide) ⟨_, hl⟩ (Nat.le_of_ble_eq_true rfl) dL_law_8 dL_law_11 dL_law_12 (fun q1 a1 H locs hP hD hS => ?_)
  refine lv_astore_n (lv' := [(2, .ref q1), (1, .ref q0), (0, .ref b)]) hx hb dL_law_15 rfl hl (by decide) rfl (fun ls hl => ?_)
  refine lv_iconst (v := 0) hx hb dL_law_16 (by decide) ?_
  refine lv_istore_n (lv' := [(3, .int 0), (2, .ref q1), (1, .ref q0), (0, .ref b)]) hx hb dL_law_17 rfl hl (by decide) rfl (fun ls hl => ?_)
  exact lw_loop (ad := fun k => if k = 0 then q0 else a0 k) (a := a1) (q := q1) ⟨F, hx, hb, hX, hbl, hbA, hA, hAl, hL⟩ hr hlocks 600 0 (by omega) (by omega) (fun _ _ => 0) (fun _ _ => 0) (fun _ _ => 0) (fun _ _ => 0) (fun _ _ => 0) (fun _ _ => 0) (fun _ _ => 0) (fun _ => 0) H locs r_R_0 hP hD hS ls (lv_sub hl [3, 2, 1, 0] rfl)
