theorem v_A.eqv {σ : q_S} {V V' : q_V} (h : v_A σ V) (he : ∀ k j, j < v_sz k → V k j = V' k j) : v_A σ V' := fun k j hj => by rw [← he k j hj]; exact h k j hj
theorem v_sz1 {k j : Nat} (h : j < v_sz k) (hk : k = 0 ∨ k = 1 ∨ k = 6 ∨ k = 7 ∨ k = 10 ∨ k = 11) : j = 0 := by
  rcases hk with rfl | rfl | rfl | rfl | rfl | rfl <;> exact Nat.lt_one_iff.mp h
theorem a_clr : ∀ b, b < 256 → ∀ l, l < 8 → b.testBit l = false → nI (b ||| 2 ^ l) &&& (nI (2 ^ l) ^^^ (-1 : Int32)) = nI b := by decide +kernel
theorem a_clr2 : ∀ b, b < 16 → ∀ l, l < 4 → nI b &&& (nI (2 ^ l) ^^^ (-1 : Int32)) = nI (b &&& (15 - 2 ^ l)) := by decide +kernel
theorem a_clr3 : ∀ b, b < 16 → ∀ l, l < 4 → ∀ j, j < 4 → (b &&& (15 - 2 ^ l)).testBit j = (b.testBit j && decide (j ≠ l)) := by decide +kernel
theorem c_giveBack {σ : q_S} {V : q_V} {e l : Nat} (hA : v_A σ (v_eat V e l)) (hW : v_W V) (he : e < V 0 0) (hl : l < V 6 0) (hn : (V 7 0).testBit l = false) : ∃ σ', zX2_giveBack σ (nI e) (nI l) (nI (V 3 e)) = some σ' ∧ v_A σ' V := by
  have hE := hW.E
  have hL := hW.L
  have hW1 := hW.eat he hl hn
  have k3 := hW.dh hl
  have kb := hW.bL
  have h1 := hA.u 5 e (V 5 e)
  have h2 := h1.u 4 e (V 4 e)
  have h3 := h2.u 3 e (V 3 e)
  have h4 := h3.u 7 0 (V 7 0)
  refine ⟨_, ?_, h4.eqv ?_⟩
  · unfold zX2_giveBack
    have g4 : q_ib (nI e) 4 = true := a_ib (by omega) (by omega)
    have g8 : q_ib (nI l) 8 = true := a_ib (by omega) (by omega)
    rw [c_isEater hA hW1 (by omega), a_b1, v_eat_k (by decide), if_pos he, if_neg (by decide), c_isLoaf hA hW1 (by omega), a_b1, v_eat_k (by decide), if_pos hl, if_neg (by decide)]
    simp only [a_gd g4, a_gd g8, a_lt', a_cl (show e < 2 ^ 31 by omega), a_cl (show l < 2 ^ 31 by omega)]
    have e5 := hA 5 e (by show e < 4; omega)
    have e8 := hA 8 l (by show l < 8; omega)
    rw [v_eat_5, if_pos rfl] at e5
    rw [v_eat_k (by decide)] at e8
    rw [e5, e8, pk_sub (by omega), show V 5 e + V 8 l - V 8 l = V 5 e by omega]
    have f2 := h1 2 e (by show e < 4; omega)
    have f8 := h1 8 l (by show l < 8; omega)
    have f9 := h1 9 l (by show l < 8; omega)
    have f4 := h1 4 e (by show e < 4; omega)
    rw [v_u_k (by decide), v_eat_k (by decide)] at f2 f8 f9
    rw [v_u_k (by decide), v_eat_4, if_pos rfl] at f4
    have kd := hW.kd (e := e) (by omega)
    rw [f2, f8, f9, nI_add, c_carriedBy (by omega) (by omega), a_b1, f4, pk_sub (by omega), show V 4 e + v_c (V 2 e) (V 8 l + V 9 l) - v_c (V 2 e) (V 8 l + V 9 l) = V 4 e by omega]
    have f7 := h3 7 0 (by decide)
    rw [v_u_k (by decide), v_u_k (by decide), v_u_k (by decide), v_eat_7] at f7
    rw [f7, a_shl (by omega), a_clr _ kb _ (by omega) hn]
  · intro k j hj
    by_cases q7 : k = 7
    · subst q7
      have := v_sz1 hj (by decide)
      subst this
      rw [v_u_s]
    · rw [v_u_k q7]
      by_cases q3 : k = 3
      · subst q3
        by_cases qj : j = e
        · subst qj; rw [v_u_s]
        · rw [v_u_j qj, v_u_k (by decide), v_u_k (by decide), v_eat_3, if_neg qj]
      · rw [v_u_k q3]
        by_cases q4 : k = 4
        · subst q4
          by_cases qj : j = e
          · subst qj; rw [v_u_s]
          · rw [v_u_j qj, v_u_k (by decide), v_eat_4, if_neg qj]
        · rw [v_u_k q4]
          by_cases q5 : k = 5
          · subst q5
            by_cases qj : j = e
            · subst qj; rw [v_u_s]
            · rw [v_u_j qj, v_eat_5, if_neg qj]
          · rw [v_u_k q5, v_eat_k ⟨q3, q4, q5, q7⟩]
/-- a winter, eater by eater -/
def v_w1 (V : q_V) (e : Nat) : q_V := if e < V 0 0 ∧ (V 1 0).testBit e = true then (if V 2 e = 4 then v_u (v_u V 3 e (min (V 3 e + 3) 9)) 4 e 0 else v_u V 3 e (min (V 3 e + 3) 9)) else V
def v_wn (V : q_V) : Nat → q_V
  | 0 => V
  | n + 1 => v_w1 (v_wn V n) n
theorem v_w1_k {V : q_V} {e k j : Nat} (h : k ≠ 3 ∧ k ≠ 4) : v_w1 V e k j = V k j := by
  unfold v_w1
  split
  · split
    · rw [v_u_k h.2, v_u_k h.1]
    · rw [v_u_k h.1]
  · rfl
theorem v_wn_k {V : q_V} {n k j : Nat} (h : k ≠ 3 ∧ k ≠ 4) : v_wn V n k j = V k j := by
  induction n with
  | zero => rfl
  | succ n ih => show v_w1 (v_wn V n) n k j = _; rw [v_w1_k h, ih]
theorem v_w1_3 {V : q_V} {e j : Nat} : v_w1 V e 3 j = if e < V 0 0 ∧ (V 1 0).testBit e = true ∧ j = e then min (V 3 e + 3) 9 else V 3 j := by
  unfold v_w1
  by_cases h : e < V 0 0 ∧ (V 1 0).testBit e = true
  · rw [if_pos h]
    have hv : (if V 2 e = 4 then v_u (v_u V 3 e (min (V 3 e + 3) 9)) 4 e 0 else v_u V 3 e (min (V 3 e + 3) 9)) 3 j = v_u V 3 e (min (V 3 e + 3) 9) 3 j := by
      by_cases h2 : V 2 e = 4
      · rw [if_pos h2, v_u_k (by decide)]
      · rw [if_neg h2]
    rw [hv]
    by_cases hj : j = e
    · subst hj
      rw [if_pos ⟨h.1, h.2, rfl⟩, v_u_s]
    · rw [if_neg (fun z => hj z.2.2), v_u_j hj]
  · rw [if_neg h, if_neg (fun z => h ⟨z.1, z.2.1⟩)]
theorem v_w1_4 {V : q_V} {e j : Nat} : v_w1 V e 4 j = if (e < V 0 0 ∧ (V 1 0).testBit e = true) ∧ V 2 e = 4 ∧ j = e then 0 else V 4 j := by
  unfold v_w1
  by_cases h : e < V 0 0 ∧ (V 1 0).testBit e = true
  · rw [if_pos h]
    by_cases h2 : V 2 e = 4
    · rw [if_pos h2]
      by_cases hj : j = e
      · subst hj
        rw [if_pos ⟨h, h2, rfl⟩, v_u_s]
      · rw [if_neg (fun z => hj z.2.2), v_u_j hj, v_u_k (by decide)]
    · rw [if_neg h2, if_neg (fun z => h2 z.2.1), v_u_k (by decide)]
  · rw [if_neg h, if_neg (fun z => h z.1)]
theorem v_W.w1 {V : q_V} (h : v_W V) (e : Nat) : v_W (v_w1 V e) := by
  obtain ⟨h1, ⟨h2, h3⟩, h4, h5, h6, h7, h8, h9⟩ := h
  have hlf : ∀ l, v_lf (v_w1 V e) l = v_lf V l := fun l => by unfold v_lf; rw [v_w1_k (by decide), v_w1_k (by decide), v_w1_k (by decide), v_w1_k (by decide)]
  have hc : ∀ j, v_w1 V e 4 j ≤ V 4 j := fun j => by rw [v_w1_4]; split <;> omega
  have hT : v_T (v_w1 V e) ≤ v_T V := by
    unfold v_T
    simp only [hlf]
    have := hc 0; have := hc 1; have := hc 2; have := hc 3
    omega
  unfold v_W
  simp only [v_w1_k (V := V) (e := e) (k := 0) (by decide), v_w1_k (V := V) (e := e) (k := 6) (by decide), v_w1_k (V := V) (e := e) (k := 1) (by decide), v_w1_k (V := V) (e := e) (k := 7) (by decide), v_w1_k (V := V) (e := e) (k := 2) (by decide), v_w1_k (V := V) (e := e) (k := 5) (by decide), v_w1_k (V := V) (e := e) (k := 8) (by decide), v_w1_k (V := V) (e := e) (k := 9) (by decide), v_w1_k (V := V) (e := e) (k := 11) (by decide), v_w1_k (V := V) (e := e) (k := 12) (by decide), v_w1_k (V := V) (e := e) (k := 13) (by decide), v_w1_k (V := V) (e := e) (k := 14) (by decide), v_w1_3]
  refine ⟨h1, ⟨h2, h3⟩, ?_, ?_, h6, by omega, h8, h9⟩
  · intro e' he'
    have q := h4 e' he'
    refine ⟨q.1, ?_⟩
    split <;> omega
  · intro e' h1' h2'
    have q := h5 e' h1' h2'
    have := hc e'
    exact ⟨by omega, q.2⟩
theorem v_W.wn {V : q_V} (h : v_W V) (n : Nat) : v_W (v_wn V n) := by
  induction n with
  | zero => exact h
  | succ n ih => exact ih.w1 n
theorem c_w1 {σ : q_S} {V : q_V} (hA : v_A σ V) (hW : v_W V) {e : Nat} (he : e < 4) {ρ : Type} (f : q_S → Option ρ) (G : q_S → Prop) (hG : ∀ σ', v_A σ' (v_w1 V e) → G σ') : ∃ σ', G σ' ∧ (q_b1 (zX2_isEater σ (nI e)) fun x3 => if x3 = 0 then f σ else q_b1 (zX2_isAlive σ (nI e)) fun x7 => if x7 = 0 then f σ else q_gd (q_ib (nI e) 4) (q_gd (q_ib (nI e) 4) (q_lt (q_u σ 3 (nI e).toNatClampNeg (if (9 : Int32) < ((σ 3 (nI e).toNatClampNeg) + (3 : Int32)) then (9 : Int32) else ((σ 3 (nI e).toNatClampNeg) + (3 : Int32)))) fun y13 => q_gd (q_ib (nI e) 4) (if (y13 2 (nI e).toNatClampNeg) = (4 : Int32) then (q_gd (q_ib (nI e) 4) (q_lt (q_u y13 4 (nI e).toNatClampNeg (0 : Int32)) fun y18 => f y18)) else f y13)))) = f σ' := by
  have g4 : q_ib (nI e) 4 = true := a_ib (by omega) (by omega)
  rw [c_isEater hA hW (by omega), a_b1]
  by_cases h1 : e < V 0 0
  · rw [if_pos h1, if_neg (by decide), c_isAlive hA hW (by omega), a_b1]
    by_cases h2 : (V 1 0).testBit e = true
    · rw [if_pos h2, if_neg (by decide)]
      simp only [a_gd g4, a_lt', a_cl (show e < 2 ^ 31 by omega)]
      have kg := hW.hg he
      have kd := hW.kd he
      have hm : (if (9 : Int32) < (σ 3 e + (3 : Int32)) then (9 : Int32) else (σ 3 e + (3 : Int32))) = nI (min (V 3 e + 3) 9) := by
        rw [hA 3 e he, show (3 : Int32) = nI 3 from rfl, show (9 : Int32) = nI 9 from rfl, nI_add]
        by_cases q : 9 < V 3 e + 3
        · rw [if_pos ((a_lt (by omega) (by omega)).mpr q), Nat.min_eq_right (by omega)]
        · rw [if_neg (fun z => q ((a_lt (by omega) (by omega)).mp z)), Nat.min_eq_left (by omega)]
      have hA1 := hA.u 3 e (min (V 3 e + 3) 9)
      have e2 := hA1 2 e (by show e < 4; omega)
      rw [v_u_k (by decide)] at e2
      rw [hm, e2]
      have e4 : (nI (V 2 e) = (4 : Int32)) ↔ V 2 e = 4 := a_eq (b := 4) (by omega) (by omega)
      by_cases h3 : V 2 e = 4
      · rw [if_pos (e4.mpr h3)]
        refine ⟨_, hG _ ?_, rfl⟩
        unfold v_w1
        rw [if_pos ⟨h1, h2⟩, if_pos h3]
        exact hA1.u 4 e 0
      · rw [if_neg (fun z => h3 (e4.mp z))]
        refine ⟨_, hG _ ?_, rfl⟩
        unfold v_w1
        rw [if_pos ⟨h1, h2⟩, if_neg h3]
        exact hA1
    · rw [if_neg h2, if_pos rfl]
      refine ⟨σ, hG _ ?_, rfl⟩
      unfold v_w1
      rw [if_neg (fun z => h2 z.2)]
      exact hA
  · rw [if_neg h1, if_pos rfl]
    refine ⟨σ, hG _ ?_, rfl⟩
    unfold v_w1
    rw [if_neg (fun z => h1 z.1)]
    exact hA
theorem c_passWinter_l : ∀ (d i : Nat), i + d = 4 → ∀ (n : Nat), d < n → ∀ (σ : q_S) (V : q_V), v_A σ (v_wn V i) → v_W V → ∃ σ', zX2_passWinter_2 n σ (nI i) = some σ' ∧ v_A σ' (v_u (v_wn V 4) 10 0 (V 10 0 + 1)) := by
  intro d
  induction d with
  | zero =>
    intro i hi n hn σ V hA hW
    obtain ⟨n, rfl⟩ : ∃ k, n = k + 1 := ⟨n - 1, by omega⟩
    have : i = 4 := by omega
    subst this
    rw [zX2_passWinter_2_s]
    unfold jX2_passWinter_2
    rw [if_pos (by decide)]
    have e10 := hA 10 0 (by decide)
    rw [v_wn_k (by decide)] at e10
    refine ⟨_, ?_, hA.u 10 0 (V 10 0 + 1)⟩
    simp only [a_lt']
    rw [e10, show (1 : Int32) = nI 1 from rfl, nI_add]
  | succ d ih =>
    intro i hi n hn σ V hA hW
    obtain ⟨n, rfl⟩ : ∃ k, n = k + 1 := ⟨n - 1, by omega⟩
    rw [zX2_passWinter_2_s]
    unfold jX2_passWinter_2
    rw [if_neg (by rw [show (4 : Int32) = nI 4 from rfl, a_le (by omega) (by omega)]; omega)]
    obtain ⟨σ1, hA1, h1⟩ := c_w1 hA (hW.wn i) (e := i) (by omega) (fun y => zX2_passWinter_2 n y (nI i + 1)) (fun y => v_A y (v_wn V (i + 1))) (fun y hy => hy)
    obtain ⟨σ2, h2, hA2⟩ := ih (i + 1) (by omega) n (by omega) σ1 V hA1 hW
    refine ⟨σ2, ?_, hA2⟩
    simp only [a_lt'] at h1 ⊢
    rw [h1, nI_1, h2]
theorem c_passWinter {σ : q_S} {V : q_V} (hA : v_A σ V) (hW : v_W V) : ∃ σ', zX2_passWinter σ = some σ' ∧ v_A σ' (v_u (v_wn V 4) 10 0 (V 10 0 + 1)) := by
  unfold zX2_passWinter
  exact c_passWinter_l 4 0 rfl 70000 (by omega) σ V hA hW
