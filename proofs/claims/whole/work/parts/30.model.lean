/-! the reference's state, and its small methods -/
def m_A (μ : q_S) (V : q_V) : Prop := (μ 1 0 = nI (V 0 0) ∧ μ 7 0 = nI (V 6 0) ∧ μ 10 0 = nI (V 7 0) ∧ μ 12 0 = nI (V 11 0)) ∧ (∀ e, e < V 0 0 → μ 2 e = nI (V 2 e) ∧ μ 3 e = nI (V 3 e) ∧ μ 4 e = (if (V 1 0).testBit e then 1 else 0) ∧ μ 5 e = nI (V 4 e) ∧ μ 6 e = nI (V 5 e)) ∧ (∀ l, l < V 6 0 → μ 8 l = nI (V 8 l) ∧ μ 9 l = nI (V 9 l)) ∧ (∀ k, k < V 11 0 → μ 13 k = nI (V 12 k) ∧ μ 14 k = nI (V 13 k) ∧ μ 15 k = (if (V 14 0).testBit k then 1 else 0))
/-- nothing but hunger, carried, paid, eaten is changed -/
def m_fr (μ μ' : q_S) : Prop := ∀ k, k ≠ 3 → k ≠ 5 → k ≠ 6 → k ≠ 10 → μ' k = μ k
theorem m_fr.rf {μ : q_S} : m_fr μ μ := fun _ _ _ _ _ => rfl
theorem m_fr.tr {a b c : q_S} (h1 : m_fr a b) (h2 : m_fr b c) : m_fr a c := fun k a1 a2 a3 a4 => (h2 k a1 a2 a3 a4).trans (h1 k a1 a2 a3 a4)
theorem q_u_k {σ : q_S} {k j k' : Nat} {v : Int32} (h : k' ≠ k) : q_u σ k j v k' = σ k' := by
  unfold q_u
  have : Nat.beq k' k = false := by
    cases hb : Nat.beq k' k
    · rfl
    · exact absurd (Nat.eq_of_beq_eq_true hb) h
  rw [this]; rfl
theorem q_u_e {σ : q_S} {k j : Nat} {v : Int32} : q_u σ k j v k = upd (σ k) j v := by
  unfold q_u
  have : Nat.beq k k = true := by simp
  rw [this]; rfl
theorem q_u_s {σ : q_S} {k j : Nat} {v : Int32} : q_u σ k j v k j = v := by
  rw [q_u_e]; exact pk_us
theorem q_u_j {σ : q_S} {k j j' : Nat} {v : Int32} (h : j' ≠ j) : q_u σ k j v k j' = σ k j' := by
  rw [q_u_e]; exact pk_un h
theorem q_u_if {σ : q_S} {k j j' : Nat} {v : Int32} : q_u σ k j v k j' = if j' = j then v else σ k j' := by
  by_cases h : j' = j
  · subst h; rw [q_u_s, if_pos rfl]
  · rw [q_u_j h, if_neg h]
theorem m_fr.u {a b : q_S} {k j : Nat} {v : Int32} (h : m_fr a b) (hk : k = 3 ∨ k = 5 ∨ k = 6 ∨ k = 10) : m_fr a (q_u b k j v) := fun k' a1 a2 a3 a4 => by
  rw [q_u_k (by omega)]; exact h k' a1 a2 a3 a4
theorem a_pre {n : Nat} (hn : n < 2 ^ 30) (x : Nat) (hx : x < 2 ^ 31) : zX4_within (nI x) (0 : Int32) (nI n - (1 : Int32)) = some (if x < n then 1 else 0) := by
  unfold zX4_within
  rw [if_neg (a_neg hx)]
  have e : (nI n - (1 : Int32) < nI x) ↔ ¬ x < n := by
    rw [show (1 : Int32) = nI 1 from rfl, Int32.lt_iff_toInt_lt, pk_sub_toInt (by omega) (by omega), nI_toInt hx]
    omega
  by_cases h : x < n
  · rw [if_neg (fun z => (e.mp z) h), if_pos h]
  · rw [if_pos (e.mpr h), if_neg h]
theorem m_isEater {μ : q_S} {V : q_V} (hA : m_A μ V) (hW : v_W V) {e : Nat} (he : e < 2 ^ 31) : zX4_isEater μ (nI e) = some (if e < V 0 0 then 1 else 0) := by
  have hE := hW.E
  unfold zX4_isEater
  rw [hA.1.1, a_pre (by omega) e he, a_b1, a_gd]
  split <;> decide
theorem m_isEater_neg {μ : q_S} {x : Int32} (h : x < 0) : zX4_isEater μ x = some 0 := by
  unfold zX4_isEater zX4_within
  rw [if_pos h, a_b1, a_gd (by decide)]
theorem m_isLoaf {μ : q_S} {V : q_V} (hA : m_A μ V) (hW : v_W V) {l : Nat} (hl : l < 2 ^ 31) : zX4_isLoaf μ (nI l) = some (if l < V 6 0 then 1 else 0) := by
  have hE := hW.E
  have hL := hW.L
  have h0 := hW.1.2.2
  unfold zX4_isLoaf
  rw [hA.1.1, hA.1.2.1]
  by_cases h : V 0 0 = 0
  · rw [if_pos (by rw [h]; decide), if_neg (by omega)]
  · rw [if_neg (by rw [show (0 : Int32) = nI 0 from rfl, a_le (by omega) (by omega)]; omega), a_pre (by omega) l hl, a_b1]
    by_cases h2 : l < V 6 0
    · rw [if_pos h2, if_neg (by decide)]
    · rw [if_neg h2, if_pos rfl]
theorem m_isLoaf_neg {μ : q_S} {x : Int32} (h : x < 0) : zX4_isLoaf μ x = some 0 := by
  unfold zX4_isLoaf zX4_within
  rw [if_pos h, a_b1, if_pos rfl]
  split <;> rfl
theorem m_would {μ : q_S} {V : q_V} (hA : m_A μ V) (hW : v_W V) {e l : Nat} (he : e < V 0 0) (hl : l < V 6 0) : zX4_would μ (nI e) (nI l) = some (if v_wt V e l then 1 else 0) := by
  have hE := hW.E
  have hL := hW.L
  have hbL := hW.bL
  obtain ⟨h2, h3, h4, h5, h6⟩ := hA.2.1 e he
  obtain ⟨h8, h9⟩ := hA.2.2.1 l hl
  have g4 : q_ib (nI e) 4 = true := a_ib (by omega) (by omega)
  have g8 : q_ib (nI l) 8 = true := a_ib (by omega) (by omega)
  have k1 := hW.kd (e := e) (by omega)
  have k2 := hW.hg (e := e) (by omega)
  have k3 := hW.dd hl
  unfold zX4_would
  simp only [a_gd g4, a_gd g8, a_cl (show e < 2 ^ 31 by omega), a_cl (show l < 2 ^ 31 by omega)]
  rw [h4, h2, h3, h8, hA.1.2.2.1]
  by_cases b1 : (V 1 0).testBit e = true
  · rw [if_pos b1, if_neg (by decide), a_isIn (by omega) (by omega), a_b1]
    by_cases b2 : (V 7 0).testBit l = true
    · rw [if_pos b2, if_neg (by decide)]
      simp [v_wt, b2]
    · have b2' : (V 7 0).testBit l = false := by simpa using b2
      rw [if_neg b2, if_pos rfl]
      have hk : v_wt V e l = v_k (V 2 e) (V 3 e) (V 8 l) := by simp [v_wt, he, hl, b1, b2']
      rw [hk]
      unfold v_k
      have e2 : (nI (V 2 e) = (2 : Int32)) ↔ V 2 e = 2 := a_eq (b := 2) (by omega) (by omega)
      have e1 : (nI (V 2 e) = (1 : Int32)) ↔ V 2 e = 1 := a_eq (b := 1) (by omega) (by omega)
      have e4 : (nI (V 2 e) = (4 : Int32)) ↔ V 2 e = 4 := a_eq (b := 4) (by omega) (by omega)
      by_cases c2 : V 2 e = 2
      · rw [if_pos (e2.mpr c2)]; simp [c2]
      · rw [if_neg (fun z => c2 (e2.mp z))]
        by_cases c1 : V 2 e = 1
        · rw [if_pos (e1.mpr c1)]; simp [c1]
        · rw [if_neg (fun z => c1 (e1.mp z))]
          by_cases c4 : V 2 e = 4
          · rw [if_pos (e4.mpr c4)]; simp [c4]
          · rw [if_neg (fun z => c4 (e4.mp z))]
            by_cases c5 : V 8 l ≤ V 3 e
            · rw [if_neg (by rw [a_lt (by omega) (by omega)]; omega)]; simp [c2, c5]
            · rw [if_pos ((a_lt (by omega) (by omega)).mpr (by omega))]; simp [c1, c4, c5]
  · have b1' : (V 1 0).testBit e = false := by simpa using b1
    rw [if_neg b1, if_pos rfl]
    simp [v_wt, b1']
theorem m_takes {μ : q_S} {kd c : Nat} {e p : Nat} (he : e < 4) (h2 : μ 2 e = nI kd) (hk : kd ≤ 4) (h5 : μ 5 e = nI c) (hp : p < 2 ^ 31) : zX4_takes μ (nI e) (nI p) = some (q_u μ 5 e (nI (c + v_c kd p))) := by
  have g4 : q_ib (nI e) 4 = true := a_ib he (by omega)
  unfold zX4_takes v_c
  simp only [a_gd g4, a_lt', a_cl (show e < 2 ^ 31 by omega)]
  rw [h2, h5]
  have e3 : (nI kd = (3 : Int32)) ↔ kd = 3 := a_eq (b := 3) (by omega) (by omega)
  by_cases h : kd = 3
  · rw [if_pos (e3.mpr h), if_pos h, show (2 : Int32) = nI 2 from rfl, pk_div hp (by omega) (by omega), nI_add]
  · rw [if_neg (fun z => h (e3.mp z)), if_neg h, nI_add]
theorem m_tires {μ : q_S} {hg : Nat} {e b : Nat} (he : e < 4) (h3 : μ 3 e = nI hg) (hh : hg ≤ 9) (hb : b ≤ 2) : zX4_tires μ (nI e) (nI b) = some (q_u μ 3 e (nI (hg - b))) := by
  have g4 : q_ib (nI e) 4 = true := a_ib he (by omega)
  unfold zX4_tires
  simp only [a_gd g4, a_lt', a_cl (show e < 2 ^ 31 by omega)]
  rw [h3]
  by_cases h : b ≤ hg
  · rw [if_pos ((a_le (by omega) (by omega)).mpr h), pk_sub h]
  · rw [if_neg (by rw [a_le (by omega) (by omega)]; exact h), show hg - b = 0 by omega]; rfl
theorem m_eats {μ : q_S} {V : q_V} (hA : m_A μ V) (hW : v_W V) {e l : Nat} (he : e < V 0 0) (hl : l < V 6 0) : ∃ μ', zX4_eats μ (nI e) (nI l) = some μ' ∧ m_A μ' (v_eat V e l) ∧ m_fr μ μ' := by
  have hE := hW.E
  have hL := hW.L
  have hbL := hW.bL
  obtain ⟨h2, h3, h4, h5, h6⟩ := hA.2.1 e he
  obtain ⟨h8, h9⟩ := hA.2.2.1 l hl
  have g4 : q_ib (nI e) 4 = true := a_ib (by omega) (by omega)
  have g8 : q_ib (nI l) 8 = true := a_ib (by omega) (by omega)
  have k1 := hW.kd (e := e) (by omega)
  have k2 := hW.hg (e := e) (by omega)
  have k3 := hW.dh hl
  refine Exists.intro ?w (And.intro ?h1 (And.intro ?h2 ?h3))
  case h1 =>
    unfold zX4_eats
    simp only [a_gd g4, a_gd g8, a_lt', a_cl (show e < 2 ^ 31 by omega), a_cl (show l < 2 ^ 31 by omega)]
    rw [h6, h8, nI_add]
    have t1 := m_takes (μ := q_u μ 6 e (nI (V 5 e + V 8 l))) (kd := V 2 e) (c := V 4 e) (e := e) (p := V 8 l + V 9 l) (by omega) (by rw [q_u_k (by decide)]; exact h2) k1 (by rw [q_u_k (by decide)]; exact h5) (by omega)
    rw [q_u_k (k' := 8) (by decide), q_u_k (k' := 9) (by decide), h8, h9, nI_add, t1, a_b1]
    have t2 := m_tires (μ := q_u (q_u μ 6 e (nI (V 5 e + V 8 l))) 5 e (nI (V 4 e + v_c (V 2 e) (V 8 l + V 9 l)))) (hg := V 3 e) (e := e) (b := 2) (by omega) (by rw [q_u_k (by decide), q_u_k (by decide)]; exact h3) k2 (by omega)
    rw [show (2 : Int32) = nI 2 from rfl, t2, a_b1]
  case h2 =>
    obtain ⟨⟨a1, a2, a3, a4⟩, b, c, d⟩ := hA
    unfold m_A
    simp only [v_eat_k (V := V) (e := e) (l := l) (k := 0) (by decide), v_eat_k (V := V) (e := e) (l := l) (k := 6) (by decide), v_eat_k (V := V) (e := e) (l := l) (k := 1) (by decide), v_eat_k (V := V) (e := e) (l := l) (k := 2) (by decide), v_eat_k (V := V) (e := e) (l := l) (k := 8) (by decide), v_eat_k (V := V) (e := e) (l := l) (k := 9) (by decide), v_eat_k (V := V) (e := e) (l := l) (k := 11) (by decide), v_eat_k (V := V) (e := e) (l := l) (k := 12) (by decide), v_eat_k (V := V) (e := e) (l := l) (k := 13) (by decide), v_eat_k (V := V) (e := e) (l := l) (k := 14) (by decide), v_eat_7, v_eat_3, v_eat_4, v_eat_5]
    refine ⟨⟨a1, a2, by rw [q_u_s, q_u_k (k' := 10) (by decide), q_u_k (k' := 10) (by decide), q_u_k (k' := 10) (by decide), a3, a_shl (by omega), a_or (by omega) (Nat.pow_lt_pow_right (by omega) (by omega))], a4⟩, fun e' he' => ?_, c, d⟩
    obtain ⟨f2, f3, f4, f5, f6⟩ := b e' he'
    refine ⟨f2, ?_, f4, ?_, ?_⟩
    · rw [q_u_k (k' := 3) (by decide), q_u_if, q_u_k (k' := 3) (by decide), q_u_k (k' := 3) (by decide), f3]
      split <;> rfl
    · rw [q_u_k (k' := 5) (by decide), q_u_k (k' := 5) (by decide), q_u_if, q_u_k (k' := 5) (by decide), f5]
      split <;> rfl
    · rw [q_u_k (k' := 6) (by decide), q_u_k (k' := 6) (by decide), q_u_k (k' := 6) (by decide), q_u_if, f6]
      split <;> rfl
  case h3 => exact (((m_fr.rf.u (by decide)).u (by decide)).u (by decide)).u (by decide)
