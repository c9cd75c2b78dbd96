/-! the class's methods that change a valley -/
theorem v_u_k {V : q_V} {k j x k' j' : Nat} (h : k' ≠ k) : v_u V k j x k' j' = V k' j' := by
  unfold v_u; rw [if_neg (fun z => h z.1)]
theorem v_u_s {V : q_V} {k j x : Nat} : v_u V k j x k j = x := by
  unfold v_u; rw [if_pos ⟨rfl, rfl⟩]
theorem v_u_j {V : q_V} {k j x j' : Nat} (h : j' ≠ j) : v_u V k j x k j' = V k j' := by
  unfold v_u; rw [if_neg (fun z => h z.2)]
theorem v_c_le (kd p : Nat) : v_c kd p ≤ p := by
  unfold v_c; split <;> omega
theorem v_eat_k {V : q_V} {e l k j : Nat} (h : k ≠ 3 ∧ k ≠ 4 ∧ k ≠ 5 ∧ k ≠ 7) : v_eat V e l k j = V k j := by
  unfold v_eat v_part
  rw [v_u_k h.2.2.2, v_u_k h.1, v_u_k h.2.1, v_u_k h.2.2.1]
theorem v_eat_3 {V : q_V} {e l j : Nat} : v_eat V e l 3 j = if j = e then V 3 e - 2 else V 3 j := by
  unfold v_eat v_part
  rw [v_u_k (by decide)]
  by_cases h : j = e
  · subst h; rw [v_u_s, if_pos rfl]
  · rw [v_u_j h, v_u_k (by decide), v_u_k (by decide), if_neg h]
theorem v_eat_4 {V : q_V} {e l j : Nat} : v_eat V e l 4 j = if j = e then V 4 e + v_c (V 2 e) (V 8 l + V 9 l) else V 4 j := by
  unfold v_eat v_part
  rw [v_u_k (by decide), v_u_k (by decide)]
  by_cases h : j = e
  · subst h; rw [v_u_s, if_pos rfl]
  · rw [v_u_j h, v_u_k (by decide), if_neg h]
theorem v_eat_5 {V : q_V} {e l j : Nat} : v_eat V e l 5 j = if j = e then V 5 e + V 8 l else V 5 j := by
  unfold v_eat v_part
  rw [v_u_k (by decide), v_u_k (by decide), v_u_k (by decide)]
  by_cases h : j = e
  · subst h; rw [v_u_s, if_pos rfl]
  · rw [v_u_j h, if_neg h]
theorem v_eat_7 {V : q_V} {e l : Nat} : v_eat V e l 7 0 = V 7 0 ||| 2 ^ l := by
  unfold v_eat; rw [v_u_s]
theorem v_bit (a l j : Nat) : (a ||| 2 ^ l).testBit j = (a.testBit j || decide (l = j)) := by
  rw [Nat.testBit_or, Nat.testBit_two_pow]
theorem v_lf_eat {V : q_V} {e l j : Nat} : v_lf (v_eat V e l) j = if j = l then 0 else v_lf V j := by
  unfold v_lf
  rw [v_eat_k (k := 6) (by decide), v_eat_k (k := 8) (by decide), v_eat_k (k := 9) (by decide), v_eat_7, v_bit]
  by_cases h : j = l
  · subst h; simp
  · have : l ≠ j := fun z => h z.symm
    simp [h, this]
theorem v_T_eat {V : q_V} {e l : Nat} (he : e < 4) (hl : l < V 6 0) (hl8 : l < 8) (hn : (V 7 0).testBit l = false) : v_T (v_eat V e l) ≤ v_T V := by
  have hc := v_c_le (V 2 e) (V 8 l + V 9 l)
  have h0 : v_lf V l = V 8 l + V 9 l := by unfold v_lf; rw [if_pos ⟨hl, hn⟩]
  unfold v_T
  simp only [v_eat_4, v_lf_eat]
  rcases (show e = 0 ∨ e = 1 ∨ e = 2 ∨ e = 3 by omega) with rfl | rfl | rfl | rfl <;>
    rcases (show l = 0 ∨ l = 1 ∨ l = 2 ∨ l = 3 ∨ l = 4 ∨ l = 5 ∨ l = 6 ∨ l = 7 by omega) with rfl | rfl | rfl | rfl | rfl | rfl | rfl | rfl <;> simp <;> omega
theorem v_wt_of {V : q_V} {e l : Nat} (h : v_wt V e l = true) : e < V 0 0 ∧ l < V 6 0 ∧ (V 1 0).testBit e = true ∧ (V 7 0).testBit l = false ∧ v_k (V 2 e) (V 3 e) (V 8 l) = true := by
  simp only [v_wt, Bool.and_eq_true, decide_eq_true_eq, Bool.not_eq_true'] at h
  exact ⟨h.1.1.1.1, h.1.1.1.2, h.1.1.2, h.1.2, h.2⟩
theorem v_W.eat {V : q_V} (h : v_W V) {e l : Nat} (he : e < V 0 0) (hl : l < V 6 0) (hn : (V 7 0).testBit l = false) : v_W (v_eat V e l) := by
  have hE := h.E
  have hL := h.L
  have hT := v_T_eat (V := V) (e := e) (l := l) (by omega) hl (by omega) hn
  obtain ⟨h1, ⟨h2, h3⟩, h4, h5, h6, h7, h8, h9⟩ := h
  unfold v_W
  simp only [v_eat_k (V := V) (e := e) (l := l) (k := 0) (by decide), v_eat_k (V := V) (e := e) (l := l) (k := 6) (by decide), v_eat_k (V := V) (e := e) (l := l) (k := 1) (by decide), v_eat_k (V := V) (e := e) (l := l) (k := 2) (by decide), v_eat_k (V := V) (e := e) (l := l) (k := 8) (by decide), v_eat_k (V := V) (e := e) (l := l) (k := 9) (by decide), v_eat_k (V := V) (e := e) (l := l) (k := 11) (by decide), v_eat_k (V := V) (e := e) (l := l) (k := 12) (by decide), v_eat_k (V := V) (e := e) (l := l) (k := 13) (by decide), v_eat_k (V := V) (e := e) (l := l) (k := 14) (by decide), v_eat_7, v_eat_3, v_eat_4, v_eat_5]
  refine ⟨h1, ⟨h2, Nat.or_lt_two_pow h3 (Nat.pow_lt_pow_right (by omega) hl)⟩, ?_, ?_, h6, by omega, h8, h9⟩
  · intro e' he'
    have q := h4 e' he'
    have q2 := h4 e (by omega)
    refine ⟨q.1, ?_⟩
    split <;> omega
  · intro e' h1' h2'
    have : e' ≠ e := by omega
    rw [if_neg this, if_neg this]
    exact h5 e' h1' h2'
theorem c_isEater' {σ : q_S} {V : q_V} (hA : v_A σ V) (hE : V 0 0 ≤ 4) {e : Nat} (he : e < V 0 0) : zX2_isEater σ (nI e) = some 1 := by
  have h0 := hA 0 0 (by decide)
  unfold zX2_isEater
  rw [if_neg (a_neg (by omega)), h0, if_neg (by rw [a_le (by omega) (by omega)]; omega), if_neg (by rw [show (4 : Int32) = nI 4 from rfl, a_le (by omega) (by omega)]; omega)]
theorem c_takePart' {σ : q_S} {V : q_V} (hA : v_A σ V) (hE : V 0 0 ≤ 4) {e pay part : Nat} (k1 : V 2 e ≤ 4) (he : e < V 0 0) (hp : part < 2 ^ 31) : ∃ σ', zX2_takePart σ (nI e) (nI pay) (nI part) = some σ' ∧ v_A σ' (v_part V e pay part) := by
  have h1 := hA.u 5 e (V 5 e + pay)
  have h2 := h1.u 4 e (V 4 e + v_c (V 2 e) part)
  refine ⟨_, ?_, h2⟩
  unfold zX2_takePart
  have g4 : q_ib (nI e) 4 = true := a_ib (by omega) (by omega)
  rw [c_isEater' hA hE he, a_b1, if_neg (by decide)]
  simp only [a_gd g4, a_lt', a_cl (show e < 2 ^ 31 by omega)]
  rw [hA 5 e (by show e < 4; omega), nI_add]
  have e2 := h1 2 e (by show e < 4; omega)
  have e4 := h1 4 e (by show e < 4; omega)
  rw [v_u_k (by decide)] at e2 e4
  rw [e2, c_carriedBy (by omega) hp, a_b1, e4, nI_add]
theorem c_takePart {σ : q_S} {V : q_V} (hA : v_A σ V) (hW : v_W V) {e pay part : Nat} (he : e < V 0 0) (hp : part < 2 ^ 31) : ∃ σ', zX2_takePart σ (nI e) (nI pay) (nI part) = some σ' ∧ v_A σ' (v_part V e pay part) :=
  have hE := hW.E
  c_takePart' hA hE (hW.kd (e := e) (by omega)) he hp
theorem c_takeWhole {σ : q_S} {V : q_V} (hA : v_A σ V) (hW : v_W V) {e l : Nat} (he : e < V 0 0) (hl : l < V 6 0) : ∃ σ', zX2_takeWhole σ (nI e) (nI l) = some σ' ∧ v_A σ' (v_eat V e l) := by
  have hE := hW.E
  have hL := hW.L
  have k2 := hW.hg (e := e) (by omega)
  have k3 := hW.dh hl
  have kb := hW.bL
  obtain ⟨σ1, h1, hA1⟩ := c_takePart hA hW (e := e) (pay := V 8 l) (part := V 8 l + V 9 l) he (by omega)
  have h3 := hA1.u 3 e (V 3 e - 2)
  have h4 := h3.u 7 0 (V 7 0 ||| 2 ^ l)
  refine ⟨_, ?_, h4⟩
  unfold zX2_takeWhole
  have g4 : q_ib (nI e) 4 = true := a_ib (by omega) (by omega)
  have g8 : q_ib (nI l) 8 = true := a_ib (by omega) (by omega)
  rw [c_isEater hA hW (by omega), a_b1, if_pos he, if_neg (by decide), c_isLoaf hA hW (by omega), a_b1, if_pos hl, if_neg (by decide)]
  simp only [a_gd g4, a_gd g8, a_lt', a_cl (show e < 2 ^ 31 by omega), a_cl (show l < 2 ^ 31 by omega)]
  rw [hA 8 l (by show l < 8; omega), hA 9 l (by show l < 8; omega), nI_add, h1, a_b1]
  have e3 := hA1 3 e (by show e < 4; omega)
  unfold v_part at e3
  rw [v_u_k (by decide), v_u_k (by decide)] at e3
  have e7 := h3 7 0 (by decide)
  unfold v_part at e7
  rw [v_u_k (by decide), v_u_k (by decide), v_u_k (by decide)] at e7
  rw [e3, show (2 : Int32) = nI 2 from rfl, c_lessHungry _ (by omega) _ (by omega), a_b1, e7, a_shl (by omega), a_or (by omega) (Nat.pow_lt_pow_right (by omega) (by omega))]
/-- halving -/
def v_half (V : q_V) (a b l : Nat) : q_V := v_u (v_u (v_u (v_part (v_part V a ((V 8 l + 1) / 2) ((V 8 l + V 9 l + 1) / 2)) b (V 8 l - (V 8 l + 1) / 2) (V 8 l + V 9 l - (V 8 l + V 9 l + 1) / 2)) 3 a (V 3 a - 1)) 3 b (V 3 b - 1)) 7 0 (V 7 0 ||| 2 ^ l)
