/-! one dies; what is said; copies; sums -/
def v_die (V : q_V) (e : Nat) : q_V := v_u (v_u (v_u (v_u (v_u V 8 (V 6 0) (min (V 4 e) 9)) 9 (V 6 0) (V 4 e - min (V 4 e) 9)) 6 0 (V 6 0 + 1)) 4 e 0) 1 0 (V 1 0 &&& (15 - 2 ^ e))
theorem v_die_k {V : q_V} {e k j : Nat} (h : k ≠ 1 ∧ k ≠ 4 ∧ k ≠ 6 ∧ k ≠ 8 ∧ k ≠ 9) : v_die V e k j = V k j := by
  unfold v_die
  rw [v_u_k h.1, v_u_k h.2.1, v_u_k h.2.2.1, v_u_k h.2.2.2.2, v_u_k h.2.2.2.1]
theorem v_die_1 {V : q_V} {e : Nat} : v_die V e 1 0 = V 1 0 &&& (15 - 2 ^ e) := by unfold v_die; rw [v_u_s]
theorem v_die_6 {V : q_V} {e : Nat} : v_die V e 6 0 = V 6 0 + 1 := by unfold v_die; rw [v_u_k (by decide), v_u_k (by decide), v_u_s]
theorem v_die_4 {V : q_V} {e j : Nat} : v_die V e 4 j = if j = e then 0 else V 4 j := by
  unfold v_die
  rw [v_u_k (by decide)]
  by_cases h : j = e
  · subst h; rw [v_u_s, if_pos rfl]
  · rw [v_u_j h, v_u_k (by decide), v_u_k (by decide), v_u_k (by decide), if_neg h]
theorem v_die_8 {V : q_V} {e j : Nat} : v_die V e 8 j = if j = V 6 0 then min (V 4 e) 9 else V 8 j := by
  unfold v_die
  rw [v_u_k (by decide), v_u_k (by decide), v_u_k (by decide), v_u_k (by decide)]
  by_cases h : j = V 6 0
  · rw [if_pos h, h, v_u_s]
  · rw [v_u_j h, if_neg h]
theorem v_die_9 {V : q_V} {e j : Nat} : v_die V e 9 j = if j = V 6 0 then V 4 e - min (V 4 e) 9 else V 9 j := by
  unfold v_die
  rw [v_u_k (by decide), v_u_k (by decide), v_u_k (by decide)]
  by_cases h : j = V 6 0
  · rw [if_pos h, h, v_u_s]
  · rw [v_u_j h, v_u_k (by decide), if_neg h]
theorem v_lf_die {V : q_V} (hW : v_W V) {e j : Nat} : v_lf (v_die V e) j = if j = V 6 0 then V 4 e else v_lf V j := by
  unfold v_lf
  rw [v_die_6, v_die_k (k := 7) (by decide), v_die_8, v_die_9]
  by_cases h : j = V 6 0
  · rw [if_pos h, if_pos h, if_pos h]
    have hb : (V 7 0).testBit j = false := by rw [h]; exact Nat.testBit_lt_two_pow hW.2.1.2
    rw [if_pos ⟨by omega, hb⟩]
    omega
  · rw [if_neg h, if_neg h, if_neg h]
    by_cases h2 : j < V 6 0
    · by_cases h3 : (V 7 0).testBit j = false
      · rw [if_pos ⟨by omega, h3⟩, if_pos ⟨h2, h3⟩]
      · rw [if_neg (fun z => h3 z.2), if_neg (fun z => h3 z.2)]
    · rw [if_neg (fun z => by omega), if_neg (fun z => h2 z.1)]
theorem v_W.die {V : q_V} (h : v_W V) {e : Nat} (he : e < V 0 0) (hl : V 6 0 < 8) : v_W (v_die V e) := by
  have hE := h.E
  have hlf : ∀ j, v_lf (v_die V e) j = if j = V 6 0 then V 4 e else v_lf V j := fun j => v_lf_die h
  have h0 : v_lf V (V 6 0) = 0 := by unfold v_lf; rw [if_neg (fun z => by omega)]
  have hcr := h.cr (e := e) (by omega)
  have hT : v_T (v_die V e) = v_T V := by
    have hs : v_lf (v_die V e) 0 + v_lf (v_die V e) 1 + v_lf (v_die V e) 2 + v_lf (v_die V e) 3 + v_lf (v_die V e) 4 + v_lf (v_die V e) 5 + v_lf (v_die V e) 6 + v_lf (v_die V e) 7 = v_lf V 0 + v_lf V 1 + v_lf V 2 + v_lf V 3 + v_lf V 4 + v_lf V 5 + v_lf V 6 + v_lf V 7 + V 4 e := by
      simp only [hlf]
      generalize hL : V 6 0 = L at *
      rcases (show L = 0 ∨ L = 1 ∨ L = 2 ∨ L = 3 ∨ L = 4 ∨ L = 5 ∨ L = 6 ∨ L = 7 by omega) with rfl | rfl | rfl | rfl | rfl | rfl | rfl | rfl <;> simp <;> omega
    have hc : v_die V e 4 0 + v_die V e 4 1 + v_die V e 4 2 + v_die V e 4 3 + V 4 e = V 4 0 + V 4 1 + V 4 2 + V 4 3 := by
      simp only [v_die_4]
      rcases (show e = 0 ∨ e = 1 ∨ e = 2 ∨ e = 3 by omega) with rfl | rfl | rfl | rfl <;> simp <;> omega
    unfold v_T
    omega
  obtain ⟨h1, ⟨h2, h3⟩, h4, h5, h6, h7, h8, h9⟩ := h
  unfold v_W
  simp only [v_die_k (V := V) (e := e) (k := 0) (by decide), v_die_k (V := V) (e := e) (k := 7) (by decide), v_die_k (V := V) (e := e) (k := 2) (by decide), v_die_k (V := V) (e := e) (k := 3) (by decide), v_die_k (V := V) (e := e) (k := 5) (by decide), v_die_k (V := V) (e := e) (k := 11) (by decide), v_die_k (V := V) (e := e) (k := 12) (by decide), v_die_k (V := V) (e := e) (k := 13) (by decide), v_die_k (V := V) (e := e) (k := 14) (by decide), v_die_1, v_die_6, v_die_4, v_die_8, v_die_9]
  have hp : 2 ^ V 6 0 ≤ 2 ^ (V 6 0 + 1) := Nat.pow_le_pow_right (by omega) (by omega)
  refine ⟨⟨h1.1, by omega, by omega⟩, ⟨Nat.lt_of_le_of_lt Nat.and_le_left h2, by omega⟩, h4, ?_, ?_, by omega, ⟨h8.1, fun k hk => ?_⟩, h9⟩
  · intro e' h1' h2'
    have q := h5 e' h1' h2'
    refine ⟨?_, q.2⟩
    split <;> omega
  · intro l hl'
    by_cases q : l = V 6 0
    · rw [if_pos q, if_pos q]; omega
    · rw [if_neg q, if_neg q]
      exact h6 l (by omega)
  · have q := h8.2 k hk
    exact ⟨by omega, q.2⟩
theorem c_makeLoafOf {σ : q_S} {V : q_V} (hA : v_A σ V) (hW : v_W V) {e : Nat} (he : e < V 0 0) (hl : V 6 0 < 8) : ∃ σ', zX2_makeLoafOf σ (nI e) = some (nI (V 6 0), σ') ∧ v_A σ' (v_die V e) := by
  have hE := hW.E
  have kb := hW.bE
  have hcr := hW.cr (e := e) (by omega)
  have h1 := hA.u 8 (V 6 0) (min (V 4 e) 9)
  have h2 := h1.u 9 (V 6 0) (V 4 e - min (V 4 e) 9)
  have h3 := h2.u 6 0 (V 6 0 + 1)
  have h4 := h3.u 4 e 0
  have h5 := h4.u 1 0 (V 1 0 &&& (15 - 2 ^ e))
  refine ⟨_, ?_, h5⟩
  unfold zX2_makeLoafOf
  have g4 : q_ib (nI e) 4 = true := a_ib (by omega) (by omega)
  have g8 : q_ib (nI (V 6 0)) 8 = true := a_ib (by omega) (by omega)
  simp only [a_lt']
  rw [hA 6 0 (by decide), c_isEater hA hW (by omega), a_b1, if_pos he, if_neg (by decide), if_neg (a_neg (by omega)), if_pos (show nI (V 6 0) < (8 : Int32) from (a_lt (b := 8) (by omega) (by omega)).mpr hl)]
  simp only [a_gd g4, a_gd g8, a_cl (show e < 2 ^ 31 by omega), a_cl (show V 6 0 < 2 ^ 31 by omega)]
  have hm : (if (9 : Int32) < σ 4 e then (9 : Int32) else σ 4 e) = nI (min (V 4 e) 9) := by
    rw [hA 4 e (by show e < 4; omega), show (9 : Int32) = nI 9 from rfl]
    by_cases q : 9 < V 4 e
    · rw [if_pos ((a_lt (by omega) (by omega)).mpr q), Nat.min_eq_right (by omega)]
    · rw [if_neg (fun z => q ((a_lt (by omega) (by omega)).mp z)), Nat.min_eq_left (by omega)]
  rw [hm]
  have e4 := h1 4 e (by show e < 4; omega)
  have e8 := h1 8 (V 6 0) (by show V 6 0 < 8; omega)
  rw [v_u_k (by decide)] at e4
  rw [v_u_s] at e8
  rw [e4, e8, pk_sub (by omega)]
  have e6 := h2 6 0 (by decide)
  rw [v_u_k (by decide), v_u_k (by decide)] at e6
  rw [e6, show (1 : Int32) = nI 1 from rfl, nI_add]
  have e1 := h4 1 0 (by decide)
  rw [v_u_k (by decide), v_u_k (by decide), v_u_k (by decide), v_u_k (by decide)] at e1
  rw [show (0 : Int32) = nI 0 from rfl, e1, show nI 1 = (1 : Int32) from rfl, a_shl (by omega), a_clr2 _ kb _ (by omega)]
/-- something is said: the bit of its place is set or cleared -/
def v_b14 (B s mo : Nat) : Nat := if mo = 0 then B &&& (63 - 2 ^ s) else B ||| 2 ^ s
def v_say (V : q_V) (b mu mo : Nat) : q_V := v_u (v_u (v_u (v_u V 12 (V 11 0) b) 13 (V 11 0) mu) 14 0 (v_b14 (V 14 0) (V 11 0) mo)) 11 0 (V 11 0 + 1)
theorem a_clr6 : ∀ b, b < 64 → ∀ l, l < 6 → nI b &&& (nI (2 ^ l) ^^^ (-1 : Int32)) = nI (b &&& (63 - 2 ^ l)) := by decide +kernel
theorem v_b14_lt : ∀ b, b < 64 → ∀ s, s < 6 → ∀ mo, mo < 2 → v_b14 b s mo < 64 := by decide +kernel
theorem v_b14_t : ∀ b, b < 64 → ∀ s, s < 6 → ∀ mo, mo < 2 → ∀ j, j < 6 → (v_b14 b s mo).testBit j = if j = s then decide (mo = 1) else b.testBit j := by decide +kernel
theorem a_nb : ∀ m, m < 2 → vp_nar .boolean (nI m) = nI m := by decide +kernel
theorem c_addSaid {σ : q_S} {V : q_V} (hA : v_A σ V) (hW : v_W V) (hs : V 11 0 < 6) {b mu mo : Nat} (hm : mo < 2) : ∃ σ', zX2_addSaid σ (nI b) (nI mu) (nI mo) = some σ' ∧ v_A σ' (v_say V b mu mo) := by
  have h1 := hA.u 12 (V 11 0) b
  have h2 := h1.u 13 (V 11 0) mu
  have h3 := h2.u 14 0 (v_b14 (V 14 0) (V 11 0) mo)
  have h4 := h3.u 11 0 (V 11 0 + 1)
  have h14 : V 14 0 < 64 := hW.2.2.2.2.2.2.2
  have hp : 2 ^ V 11 0 < 2 ^ 31 := Nat.pow_lt_pow_right (by omega) (by omega)
  refine ⟨_, ?_, h4⟩
  unfold zX2_addSaid zX2_addSaid_68
  have g6 : q_ib (nI (V 11 0)) 6 = true := a_ib (by omega) (by omega)
  have e1 := h1 11 0 (by decide)
  have e2 := h2 11 0 (by decide)
  have e3 := h3 11 0 (by decide)
  have e14 := h2 14 0 (by decide)
  rw [v_u_k (by decide)] at e1 e2 e3 e14
  rw [v_u_k (by decide)] at e2 e3 e14
  rw [v_u_k (by decide)] at e3
  rw [hA 11 0 (by decide), if_neg (a_neg (by omega)), if_neg (by rw [show (6 : Int32) = nI 6 from rfl, a_le (by omega) (by omega)]; omega)]
  simp only [a_gd g6, a_lt', a_cl (show V 11 0 < 2 ^ 31 by omega)]
  rw [e1, a_gd g6, a_cl (by omega), e2, e14, a_shl (by omega), a_clr6 _ h14 _ hs, a_or (by omega) hp]
  rcases (show mo = 0 ∨ mo = 1 by omega) with w | w
  · subst w
    rw [show v_b14 (V 14 0) (V 11 0) 0 = V 14 0 &&& (63 - 2 ^ V 11 0) from rfl] at e3 ⊢
    rw [if_pos (show nI 0 = (0 : Int32) from rfl), e3, show (1 : Int32) = nI 1 from rfl, nI_add]
  · subst w
    rw [show v_b14 (V 14 0) (V 11 0) 1 = V 14 0 ||| 2 ^ V 11 0 from rfl] at e3 ⊢
    rw [if_neg (show ¬ nI 1 = (0 : Int32) by decide), e3, show (1 : Int32) = nI 1 from rfl, nI_add]
theorem c_copyRow {n : Nat} (hn : n < 2 ^ 31) (f g : q_R) : ∃ y, zX3_copyRow n n f g = some y ∧ ∀ j, j < n → y j = f j := by
  have hi : (if (Int32.ofNat n) < (Int32.ofNat n) then (Int32.ofNat n) else (Int32.ofNat n)) = nI n := ite_self _
  have hq : zX3_copyRow n n f g = some (va_cpy f g 0 0 n) := by
    unfold zX3_copyRow
    rw [hi, a_cl hn, show ((0 : Int32)).toNatClampNeg = 0 from rfl]
    have hg : q_cp false f n n (0 : Int32) (0 : Int32) (nI n) = true := by
      simp only [q_cp, a_cl hn, show ((0 : Int32)).toNatClampNeg = 0 from rfl, Nat.zero_add]
      simp only [Bool.and_eq_true, Bool.not_eq_true', decide_eq_false_iff_not, decide_eq_true_eq]
      exact ⟨⟨⟨⟨⟨by decide, by decide⟩, a_neg hn⟩, Nat.le_refl _⟩, Nat.le_refl _⟩, rfl⟩
    rw [a_gd hg, a_lt']
  refine ⟨_, hq, fun j hj => ?_⟩
  rw [pk_cpy_in (Nat.zero_le _) (by omega)]
  congr 1
  omega
theorem c_b1 {α ρ : Type} {x : Option α} {a : α} (h : x = some a) (f : α → Option ρ) : q_b1 x f = f a := by subst h; rfl
theorem c_copyFrom {σ0 σ : q_S} {V : q_V} (hA : v_A σ V) (hW : v_W V) : ∃ σ', zX2_copyFrom σ0 σ = some σ' ∧ v_A σ' V := by
  unfold zX2_copyFrom
  simp only [a_lt']
  obtain ⟨y2, p2, r2⟩ := c_copyRow (n := 4) (by omega) (σ 2) (σ0 2)
  obtain ⟨y3, p3, r3⟩ := c_copyRow (n := 4) (by omega) (σ 3) (σ0 3)
  obtain ⟨y4, p4, r4⟩ := c_copyRow (n := 4) (by omega) (σ 4) (σ0 4)
  obtain ⟨y5, p5, r5⟩ := c_copyRow (n := 4) (by omega) (σ 5) (σ0 5)
  obtain ⟨y8, p8, r8⟩ := c_copyRow (n := 8) (by omega) (σ 8) (σ0 8)
  obtain ⟨y9, p9, r9⟩ := c_copyRow (n := 8) (by omega) (σ 9) (σ0 9)
  obtain ⟨y12, p12, r12⟩ := c_copyRow (n := 6) (by omega) (σ 12) (σ0 12)
  obtain ⟨y13, p13, r13⟩ := c_copyRow (n := 6) (by omega) (σ 13) (σ0 13)
  refine Exists.intro ?w (And.intro ?h1 ?h2)
  case h1 =>
    refine (c_b1 p2 _).trans ?_
    refine (c_b1 p3 _).trans ?_
    refine (c_b1 p4 _).trans ?_
    refine (c_b1 p5 _).trans ?_
    refine (c_b1 p8 _).trans ?_
    refine (c_b1 p9 _).trans ?_
    refine (c_b1 p12 _).trans ?_
    refine (c_b1 p13 _).trans ?_
    exact rfl
  case h2 =>
    intro k j hj
    match k, hj with
    | 0, hj => obtain rfl := v_sz1 hj (by decide); exact hA 0 0 (by decide)
    | 1, hj => obtain rfl := v_sz1 hj (by decide); exact hA 1 0 (by decide)
    | 2, hj => exact (r2 j hj).trans (hA 2 j hj)
    | 3, hj => exact (r3 j hj).trans (hA 3 j hj)
    | 4, hj => exact (r4 j hj).trans (hA 4 j hj)
    | 5, hj => exact (r5 j hj).trans (hA 5 j hj)
    | 6, hj => obtain rfl := v_sz1 hj (by decide); exact hA 6 0 (by decide)
    | 7, hj => obtain rfl := v_sz1 hj (by decide); exact hA 7 0 (by decide)
    | 8, hj => exact (r8 j hj).trans (hA 8 j hj)
    | 9, hj => exact (r9 j hj).trans (hA 9 j hj)
    | 10, hj => obtain rfl := v_sz1 hj (by decide); exact hA 10 0 (by decide)
    | 11, hj => obtain rfl := v_sz1 hj (by decide); exact hA 11 0 (by decide)
    | 12, hj => exact (r12 j hj).trans (hA 12 j hj)
    | 13, hj => exact (r13 j hj).trans (hA 13 j hj)
    | 14, hj => obtain rfl : j = 0 := Nat.lt_one_iff.mp hj; exact hA 14 0 (by decide)
    | k + 15, hj => exact absurd hj (by simp [v_sz])
