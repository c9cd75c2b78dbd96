/-! the reference: sums, winters, saving and loading, what would be taken -/
theorem v_su_up {g : Nat → Nat} {m : Nat} (h : ∀ j, m ≤ j → j < 4 → g j = 0) (hm : m ≤ 4) : v_su g 4 = v_su g m := by
  have : ∀ n, m ≤ n → n ≤ 4 → v_su g n = v_su g m := by
    intro n
    induction n with
    | zero => intro h1 _; have : m = 0 := by omega
              subst this; rfl
    | succ n ih =>
      intro h1 h2
      by_cases q : m = n + 1
      · rw [q]
      · rw [v_su_s, h n (by omega) (by omega), ih (by omega) (by omega), Nat.add_zero]
  exact this 4 hm (Nat.le_refl _)
theorem v_mx_up {g : Nat → Nat} {m : Nat} (h : ∀ j, m ≤ j → j < 4 → g j = 0) (hm : m ≤ 4) : v_mx g 4 = v_mx g m := by
  have : ∀ n, m ≤ n → n ≤ 4 → v_mx g n = v_mx g m := by
    intro n
    induction n with
    | zero => intro h1 _; have : m = 0 := by omega
              subst this; rfl
    | succ n ih =>
      intro h1 h2
      by_cases q : m = n + 1
      · rw [q]
      · rw [v_mx_s, h n (by omega) (by omega), ih (by omega) (by omega), Nat.max_eq_left (Nat.zero_le _)]
  exact this 4 hm (Nat.le_refl _)
theorem v_pc_up {b m : Nat} (h : b < 2 ^ m) : ∀ d, v_pc b (m + d) = v_pc b m := by
  intro d
  induction d with
  | zero => rfl
  | succ d ih =>
    show v_pc b (m + d + 1) = _
    rw [v_pc_s, ih, if_neg, Nat.add_zero]
    rw [Nat.testBit_lt_two_pow (Nat.lt_of_lt_of_le h (Nat.pow_le_pow_right (by omega) (by omega)))]
    decide
theorem m_carriesAll_l {μ : q_S} {V : q_V} (hA : m_A μ V) (hW : v_W V) : ∀ (d i : Nat), i + d = V 0 0 → ∀ (n : Nat), d < n → zX4_carriesAll_4 μ n (nI (v_su (V 4) i)) (nI i) = some (nI (v_su (V 4) (V 0 0))) := by
  have hE := hW.E
  intro d
  induction d with
  | zero =>
    intro i hi n hn
    obtain ⟨n, rfl⟩ : ∃ k, n = k + 1 := ⟨n - 1, by omega⟩
    rw [zX4_carriesAll_4_s]
    unfold jX4_carriesAll_4
    rw [hA.1.1, if_pos ((a_le (by omega) (by omega)).mpr (by omega)), show i = V 0 0 by omega]
  | succ d ih =>
    intro i hi n hn
    obtain ⟨n, rfl⟩ : ∃ k, n = k + 1 := ⟨n - 1, by omega⟩
    have q := ih (i + 1) (by omega) n (by omega)
    rw [v_su_s] at q
    rw [zX4_carriesAll_4_s]
    unfold jX4_carriesAll_4
    simp only [a_lt']
    rw [hA.1.1, if_neg (by rw [a_le (by omega) (by omega)]; omega), a_gd (a_ib (by omega) (by omega)), a_cl (by omega), (hA.2.1 i (by omega)).2.2.2.1, nI_add, nI_1]
    exact q
theorem m_carriesAll {μ : q_S} {V : q_V} (hA : m_A μ V) (hW : v_W V) : zX4_carriesAll μ = some (nI (v_su (V 4) 4)) := by
  have hE := hW.E
  rw [v_su_up (m := V 0 0) (fun j h1 h2 => (hW.2.2.2.1 j h1 h2).1) hE]
  exact m_carriesAll_l hA hW (V 0 0) 0 (by omega) 70000 (by omega)
theorem m_paidAll_l {μ : q_S} {V : q_V} (hA : m_A μ V) (hW : v_W V) : ∀ (d i : Nat), i + d = V 0 0 → ∀ (n : Nat), d < n → zX4_paidAll_4 μ n (nI (v_su (V 5) i)) (nI i) = some (nI (v_su (V 5) (V 0 0))) := by
  have hE := hW.E
  intro d
  induction d with
  | zero =>
    intro i hi n hn
    obtain ⟨n, rfl⟩ : ∃ k, n = k + 1 := ⟨n - 1, by omega⟩
    rw [zX4_paidAll_4_s]
    unfold jX4_paidAll_4
    rw [hA.1.1, if_pos ((a_le (by omega) (by omega)).mpr (by omega)), show i = V 0 0 by omega]
  | succ d ih =>
    intro i hi n hn
    obtain ⟨n, rfl⟩ : ∃ k, n = k + 1 := ⟨n - 1, by omega⟩
    have q := ih (i + 1) (by omega) n (by omega)
    rw [v_su_s] at q
    rw [zX4_paidAll_4_s]
    unfold jX4_paidAll_4
    simp only [a_lt']
    rw [hA.1.1, if_neg (by rw [a_le (by omega) (by omega)]; omega), a_gd (a_ib (by omega) (by omega)), a_cl (by omega), (hA.2.1 i (by omega)).2.2.2.2, nI_add, nI_1]
    exact q
theorem m_paidAll {μ : q_S} {V : q_V} (hA : m_A μ V) (hW : v_W V) : zX4_paidAll μ = some (nI (v_su (V 5) 4)) := by
  have hE := hW.E
  rw [v_su_up (m := V 0 0) (fun j h1 h2 => (hW.2.2.2.1 j h1 h2).2) hE]
  exact m_paidAll_l hA hW (V 0 0) 0 (by omega) 70000 (by omega)
theorem m_living_l {μ : q_S} {V : q_V} (hA : m_A μ V) (hW : v_W V) : ∀ (d i : Nat), i + d = V 0 0 → ∀ (n : Nat), d < n → zX4_living_4 μ n (nI (v_pc (V 1 0) i)) (nI i) = some (nI (v_pc (V 1 0) (V 0 0))) := by
  have hE := hW.E
  intro d
  induction d with
  | zero =>
    intro i hi n hn
    obtain ⟨n, rfl⟩ : ∃ k, n = k + 1 := ⟨n - 1, by omega⟩
    rw [zX4_living_4_s]
    unfold jX4_living_4
    rw [hA.1.1, if_pos ((a_le (by omega) (by omega)).mpr (by omega)), show i = V 0 0 by omega]
  | succ d ih =>
    intro i hi n hn
    obtain ⟨n, rfl⟩ : ∃ k, n = k + 1 := ⟨n - 1, by omega⟩
    have q := ih (i + 1) (by omega) n (by omega)
    rw [v_pc_s] at q
    rw [zX4_living_4_s]
    unfold jX4_living_4
    simp only [a_lt']
    rw [hA.1.1, if_neg (by rw [a_le (by omega) (by omega)]; omega), a_gd (a_ib (by omega) (by omega)), a_cl (by omega), (hA.2.1 i (by omega)).2.2.1, nI_1]
    by_cases h : (V 1 0).testBit i = true
    · rw [if_pos h] at q
      rw [if_pos h, if_neg (by decide), nI_1]
      exact q
    · rw [if_neg h, Nat.add_zero] at q
      rw [if_neg h, if_pos rfl, show (0 : Int32) = nI 0 from rfl, nI_add, Nat.add_zero]
      exact q
theorem m_living {μ : q_S} {V : q_V} (hA : m_A μ V) (hW : v_W V) : zX4_living μ = some (nI (v_pc (V 1 0) 10)) := by
  have hE := hW.E
  have h := v_pc_up hW.2.1.1 (10 - V 0 0)
  rw [show V 0 0 + (10 - V 0 0) = 10 by omega] at h
  rw [h]
  exact m_living_l hA hW (V 0 0) 0 (by omega) 70000 (by omega)
/-- how many loaves are left -/
def v_lv (b : Nat) : Nat → Nat
  | 0 => 0
  | n + 1 => v_lv b n + (if b.testBit n = true then 0 else 1)
theorem v_lv_s {b n : Nat} : v_lv b (n + 1) = v_lv b n + (if b.testBit n = true then 0 else 1) := rfl
theorem v_lv_pc (b : Nat) : ∀ n, v_lv b n + v_pc b n = n := by
  intro n
  induction n with
  | zero => rfl
  | succ n ih => rw [v_lv_s, v_pc_s]; split <;> omega
theorem m_leftMany_l {μ : q_S} {V : q_V} (hA : m_A μ V) (hW : v_W V) : ∀ (d i : Nat), i + d = V 6 0 → ∀ (n : Nat), d < n → zX4_leftMany_4 μ n (nI (v_lv (V 7 0) i)) (nI i) = some (nI (v_lv (V 7 0) (V 6 0))) := by
  have hL := hW.L
  have hbL := hW.bL
  intro d
  induction d with
  | zero =>
    intro i hi n hn
    obtain ⟨n, rfl⟩ : ∃ k, n = k + 1 := ⟨n - 1, by omega⟩
    rw [zX4_leftMany_4_s]
    unfold jX4_leftMany_4
    rw [hA.1.2.1, if_pos ((a_le (by omega) (by omega)).mpr (by omega)), show i = V 6 0 by omega]
  | succ d ih =>
    intro i hi n hn
    obtain ⟨n, rfl⟩ : ∃ k, n = k + 1 := ⟨n - 1, by omega⟩
    have q := ih (i + 1) (by omega) n (by omega)
    rw [v_lv_s] at q
    rw [zX4_leftMany_4_s]
    unfold jX4_leftMany_4
    simp only [a_lt']
    rw [hA.1.2.1, if_neg (by rw [a_le (by omega) (by omega)]; omega), hA.1.2.2.1, a_isIn (by omega) (by omega), a_b1, nI_1 i]
    by_cases h : (V 7 0).testBit i = true
    · rw [if_pos h, Nat.add_zero] at q
      rw [if_pos h, if_neg (by decide), show (0 : Int32) = nI 0 from rfl, nI_add, Nat.add_zero]
      exact q
    · rw [if_neg h] at q
      rw [if_neg h, if_pos rfl, nI_1]
      exact q
theorem m_leftMany {μ : q_S} {V : q_V} (hA : m_A μ V) (hW : v_W V) : zX4_leftMany μ = some (nI (v_lv (V 7 0) (V 6 0))) := by
  have hL := hW.L
  exact m_leftMany_l hA hW (V 6 0) 0 (by omega) 70000 (by omega)
theorem m_eatenMany {V : q_V} (hW : v_W V) : nI (V 6 0) - nI (v_lv (V 7 0) (V 6 0)) = nI (v_pc (V 7 0) 10) := by
  have hL := hW.L
  have h1 := v_lv_pc (V 7 0) (V 6 0)
  have h2 := v_pc_up hW.2.1.2 (10 - V 6 0)
  rw [show V 6 0 + (10 - V 6 0) = 10 by omega] at h2
  rw [pk_sub (by omega), h2]
  congr 1
  omega
theorem m_most_l {μ : q_S} {V : q_V} (hA : m_A μ V) (hW : v_W V) : ∀ (d i : Nat), i + d = V 0 0 → ∀ (n : Nat), d < n → zX4_most_4 μ n (nI (v_mx (V 4) i)) (nI i) = some (nI (v_mx (V 4) (V 0 0))) := by
  have hE := hW.E
  intro d
  induction d with
  | zero =>
    intro i hi n hn
    obtain ⟨n, rfl⟩ : ∃ k, n = k + 1 := ⟨n - 1, by omega⟩
    rw [zX4_most_4_s]
    unfold jX4_most_4
    rw [hA.1.1, if_pos ((a_le (by omega) (by omega)).mpr (by omega)), show i = V 0 0 by omega]
  | succ d ih =>
    intro i hi n hn
    obtain ⟨n, rfl⟩ : ∃ k, n = k + 1 := ⟨n - 1, by omega⟩
    have q := ih (i + 1) (by omega) n (by omega)
    have hm := v_mx_le (g := V 4) (m := 90) i (fun j hj => hW.cr (by omega))
    have hc := hW.cr (e := i) (by omega)
    rw [v_mx_s] at q
    rw [zX4_most_4_s]
    unfold jX4_most_4
    have g4 : q_ib (nI i) 4 = true := a_ib (by omega) (by omega)
    simp only [a_lt', a_gd g4, a_cl (show i < 2 ^ 31 by omega)]
    rw [hA.1.1, if_neg (by rw [a_le (by omega) (by omega)]; omega), (hA.2.1 i (by omega)).2.2.2.1, nI_1]
    by_cases h : v_mx (V 4) i < V 4 i
    · rw [Nat.max_eq_right (by omega)] at q
      rw [if_neg (by rw [a_le (by omega) (by omega)]; omega)]
      exact q
    · rw [Nat.max_eq_left (by omega)] at q
      rw [if_pos ((a_le (by omega) (by omega)).mpr (by omega))]
      exact q
theorem m_most {μ : q_S} {V : q_V} (hA : m_A μ V) (hW : v_W V) : zX4_most μ = some (nI (v_mx (V 4) 4)) := by
  have hE := hW.E
  rw [v_mx_up (m := V 0 0) (fun j h1 h2 => (hW.2.2.2.1 j h1 h2).1) hE]
  exact m_most_l hA hW (V 0 0) 0 (by omega) 70000 (by omega)
theorem v_wn_up {V : q_V} : ∀ d, v_wn V (V 0 0 + d) = v_wn V (V 0 0) := by
  intro d
  induction d with
  | zero => rfl
  | succ d ih =>
    show v_w1 (v_wn V (V 0 0 + d)) (V 0 0 + d) = _
    rw [ih]
    unfold v_w1
    rw [v_wn_k (by decide), if_neg (fun z => by omega)]
