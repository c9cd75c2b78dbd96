theorem v_part_k {V : q_V} {e p q k j : Nat} (h : k ≠ 4 ∧ k ≠ 5) : v_part V e p q k j = V k j := by
  unfold v_part
  rw [v_u_k h.1, v_u_k h.2]
theorem v_part_4 {V : q_V} {e p q j : Nat} : v_part V e p q 4 j = if j = e then V 4 e + v_c (V 2 e) q else V 4 j := by
  unfold v_part
  by_cases h : j = e
  · subst h; rw [v_u_s, if_pos rfl]
  · rw [v_u_j h, v_u_k (by decide), if_neg h]
theorem v_part_5 {V : q_V} {e p q j : Nat} : v_part V e p q 5 j = if j = e then V 5 e + p else V 5 j := by
  unfold v_part
  rw [v_u_k (by decide)]
  by_cases h : j = e
  · subst h; rw [v_u_s, if_pos rfl]
  · rw [v_u_j h, if_neg h]
theorem v_half_k {V : q_V} {a b l k j : Nat} (h : k ≠ 3 ∧ k ≠ 4 ∧ k ≠ 5 ∧ k ≠ 7) : v_half V a b l k j = V k j := by
  unfold v_half
  rw [v_u_k h.2.2.2, v_u_k h.1, v_u_k h.1, v_part_k ⟨h.2.1, h.2.2.1⟩, v_part_k ⟨h.2.1, h.2.2.1⟩]
theorem v_half_7 {V : q_V} {a b l : Nat} : v_half V a b l 7 0 = V 7 0 ||| 2 ^ l := by
  unfold v_half; rw [v_u_s]
theorem v_half_3 {V : q_V} {a b l j : Nat} : v_half V a b l 3 j = if j = b then V 3 b - 1 else if j = a then V 3 a - 1 else V 3 j := by
  unfold v_half
  rw [v_u_k (by decide)]
  by_cases h : j = b
  · subst h; rw [v_u_s, if_pos rfl]
  · rw [v_u_j h, if_neg h]
    by_cases h2 : j = a
    · subst h2; rw [v_u_s, if_pos rfl]
    · rw [v_u_j h2, if_neg h2, v_part_k (by decide), v_part_k (by decide)]
theorem v_half_4 {V : q_V} {a b l j : Nat} (hab : a ≠ b) : v_half V a b l 4 j = if j = b then V 4 b + v_c (V 2 b) (V 8 l + V 9 l - (V 8 l + V 9 l + 1) / 2) else if j = a then V 4 a + v_c (V 2 a) ((V 8 l + V 9 l + 1) / 2) else V 4 j := by
  unfold v_half
  rw [v_u_k (by decide), v_u_k (by decide), v_u_k (by decide), v_part_4, v_part_4, v_part_4, v_part_k (k := 2) (by decide), if_neg (show ¬ b = a from fun z => hab z.symm)]
theorem v_half_5 {V : q_V} {a b l j : Nat} (hab : a ≠ b) : v_half V a b l 5 j = if j = b then V 5 b + (V 8 l - (V 8 l + 1) / 2) else if j = a then V 5 a + (V 8 l + 1) / 2 else V 5 j := by
  unfold v_half
  rw [v_u_k (by decide), v_u_k (by decide), v_u_k (by decide), v_part_5, v_part_5, v_part_5, if_neg (show ¬ b = a from fun z => hab z.symm)]
theorem v_lf_half {V : q_V} {a b l j : Nat} : v_lf (v_half V a b l) j = if j = l then 0 else v_lf V j := by
  unfold v_lf
  rw [v_half_k (k := 6) (by decide), v_half_k (k := 8) (by decide), v_half_k (k := 9) (by decide), v_half_7, v_bit]
  by_cases h : j = l
  · subst h; simp
  · have : l ≠ j := fun z => h z.symm
    simp [h, this]
theorem v_T_half {V : q_V} {a b l : Nat} (ha : a < 4) (hb : b < 4) (hab : a ≠ b) (hl : l < V 6 0) (hl8 : l < 8) (hn : (V 7 0).testBit l = false) : v_T (v_half V a b l) ≤ v_T V := by
  have hc := v_c_le (V 2 b) (V 8 l + V 9 l - (V 8 l + V 9 l + 1) / 2)
  have hc2 := v_c_le (V 2 a) ((V 8 l + V 9 l + 1) / 2)
  have h0 : v_lf V l = V 8 l + V 9 l := by unfold v_lf; rw [if_pos ⟨hl, hn⟩]
  have hs : ∀ j, v_lf (v_half V a b l) j = if j = l then 0 else v_lf V j := fun j => v_lf_half
  have hl1 : v_lf (v_half V a b l) 0 + v_lf (v_half V a b l) 1 + v_lf (v_half V a b l) 2 + v_lf (v_half V a b l) 3 + v_lf (v_half V a b l) 4 + v_lf (v_half V a b l) 5 + v_lf (v_half V a b l) 6 + v_lf (v_half V a b l) 7 + (V 8 l + V 9 l) = v_lf V 0 + v_lf V 1 + v_lf V 2 + v_lf V 3 + v_lf V 4 + v_lf V 5 + v_lf V 6 + v_lf V 7 := by
    simp only [hs]
    rcases (show l = 0 ∨ l = 1 ∨ l = 2 ∨ l = 3 ∨ l = 4 ∨ l = 5 ∨ l = 6 ∨ l = 7 by omega) with rfl | rfl | rfl | rfl | rfl | rfl | rfl | rfl <;> simp <;> omega
  have hl2 : v_half V a b l 4 0 + v_half V a b l 4 1 + v_half V a b l 4 2 + v_half V a b l 4 3 ≤ V 4 0 + V 4 1 + V 4 2 + V 4 3 + (V 8 l + V 9 l) := by
    simp only [v_half_4 hab]
    rcases (show a = 0 ∨ a = 1 ∨ a = 2 ∨ a = 3 by omega) with rfl | rfl | rfl | rfl <;>
      rcases (show b = 0 ∨ b = 1 ∨ b = 2 ∨ b = 3 by omega) with rfl | rfl | rfl | rfl <;> simp <;> omega
  unfold v_T
  omega
theorem v_W.half {V : q_V} (h : v_W V) {a b l : Nat} (ha : a < V 0 0) (hb : b < V 0 0) (hab : a ≠ b) (hl : l < V 6 0) (hn : (V 7 0).testBit l = false) : v_W (v_half V a b l) := by
  have hE := h.E
  have hL := h.L
  have hT := v_T_half (V := V) (a := a) (b := b) (l := l) (by omega) (by omega) hab hl (by omega) hn
  obtain ⟨h1, ⟨h2, h3⟩, h4, h5, h6, h7, h8, h9⟩ := h
  unfold v_W
  simp only [v_half_k (V := V) (a := a) (b := b) (l := l) (k := 0) (by decide), v_half_k (V := V) (a := a) (b := b) (l := l) (k := 6) (by decide), v_half_k (V := V) (a := a) (b := b) (l := l) (k := 1) (by decide), v_half_k (V := V) (a := a) (b := b) (l := l) (k := 2) (by decide), v_half_k (V := V) (a := a) (b := b) (l := l) (k := 8) (by decide), v_half_k (V := V) (a := a) (b := b) (l := l) (k := 9) (by decide), v_half_k (V := V) (a := a) (b := b) (l := l) (k := 11) (by decide), v_half_k (V := V) (a := a) (b := b) (l := l) (k := 12) (by decide), v_half_k (V := V) (a := a) (b := b) (l := l) (k := 13) (by decide), v_half_k (V := V) (a := a) (b := b) (l := l) (k := 14) (by decide), v_half_7, v_half_3, v_half_4 hab, v_half_5 hab]
  refine ⟨h1, ⟨h2, Nat.or_lt_two_pow h3 (Nat.pow_lt_pow_right (by omega) hl)⟩, ?_, ?_, h6, by omega, h8, h9⟩
  · intro e' he'
    have q := h4 e' he'
    have q2 := h4 a (by omega)
    have q3 := h4 b (by omega)
    refine ⟨q.1, ?_⟩
    split <;> (try split) <;> omega
  · intro e' h1' h2'
    have n1 : e' ≠ a := by omega
    have n2 : e' ≠ b := by omega
    rw [if_neg n2, if_neg n1, if_neg n2, if_neg n1]
    exact h5 e' h1' h2'
theorem c_takeHalves {σ : q_S} {V : q_V} (hA : v_A σ V) (hW : v_W V) {a b l : Nat} (ha : a < V 0 0) (hb : b < V 0 0) (hab : a ≠ b) (hl : l < V 6 0) : ∃ σ', zX2_takeHalves σ (nI a) (nI b) (nI l) = some σ' ∧ v_A σ' (v_half V a b l) := by
  have hE := hW.E
  have hL := hW.L
  have ka := hW.hg (e := a) (by omega)
  have kb := hW.hg (e := b) (by omega)
  have k3 := hW.dh hl
  have k4 := hW.dd hl
  have kL := hW.bL
  obtain ⟨σ1, h1, hA1⟩ := c_takePart hA hW (e := a) (pay := (V 8 l + 1) / 2) (part := (V 8 l + V 9 l + 1) / 2) ha (by omega)
  have kdb := hW.kd (e := b) (by omega)
  obtain ⟨σ2, h2, hA2⟩ := c_takePart' hA1 (e := b) (pay := V 8 l - (V 8 l + 1) / 2) (part := V 8 l + V 9 l - (V 8 l + V 9 l + 1) / 2) (by rw [v_part_k (by decide)]; exact hE) (by rw [v_part_k (by decide)]; exact kdb) (by rw [v_part_k (by decide)]; exact hb) (by omega)
  have h3 := ((hA2.u 3 a (V 3 a - 1)).u 3 b (V 3 b - 1)).u 7 0 (V 7 0 ||| 2 ^ l)
  refine ⟨_, ?_, h3⟩
  unfold zX2_takeHalves
  have g8 : q_ib (nI l) 8 = true := a_ib (by omega) (by omega)
  have ga : q_ib (nI a) 4 = true := a_ib (by omega) (by omega)
  have gb : q_ib (nI b) 4 = true := a_ib (by omega) (by omega)
  rw [c_isEater hA hW (by omega), a_b1, if_pos ha, if_neg (by decide), c_isEater hA hW (by omega), a_b1, if_pos hb, if_neg (by decide), c_isLoaf hA hW (by omega), a_b1, if_pos hl, if_neg (by decide)]
  simp only [a_gd g8, a_gd ga, a_gd gb, a_lt', a_cl (show l < 2 ^ 31 by omega), a_cl (show a < 2 ^ 31 by omega), a_cl (show b < 2 ^ 31 by omega)]
  have e8 := hA1 8 l (by show l < 8; omega)
  rw [v_part_k (by decide)] at e8
  rw [hA 8 l (by show l < 8; omega), hA 9 l (by show l < 8; omega), nI_add, c_roundedUpHalf (by omega), a_b1, c_roundedUpHalf (by omega), a_b1, h1, a_b1, e8, pk_sub (by omega), pk_sub (by omega), h2, a_b1]
  have e3 := hA2 3 a (by show a < 4; omega)
  rw [v_part_k (by decide), v_part_k (by decide)] at e3
  rw [e3, show (1 : Int32) = nI 1 from rfl, c_lessHungry _ (by omega) _ (by omega), a_b1]
  have q3 := hA2.u 3 a (V 3 a - 1)
  have e3b := q3 3 b (by show b < 4; omega)
  rw [v_u_j (fun z => hab z.symm), v_part_k (by decide), v_part_k (by decide)] at e3b
  rw [e3b, c_lessHungry _ (by omega) _ (by omega), a_b1]
  have e7 := (q3.u 3 b (V 3 b - 1)) 7 0 (by decide)
  rw [v_u_k (by decide), v_u_k (by decide), v_part_k (by decide), v_part_k (by decide)] at e7
  rw [e7, show (nI 1) = (1 : Int32) from rfl, a_shl (by omega), a_or (by omega) (Nat.pow_lt_pow_right (by omega) (by omega))]
