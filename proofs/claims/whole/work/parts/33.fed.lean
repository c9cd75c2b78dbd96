/-! the reference: one's best set -/
theorem v_wt_L {V : q_V} {e l : Nat} (h : V 6 0 ≤ l) : v_wt V e l = false := by
  unfold v_wt
  rw [show decide (l < V 6 0) = false from decide_eq_false (by omega)]
  simp
theorem m_wouldBits_l {μ : q_S} {V : q_V} (hA : m_A μ V) (hW : v_W V) {e : Nat} (he : e < V 0 0) : ∀ (d i : Nat), i + d = V 6 0 → ∀ (n : Nat), d < n → zX4_wouldBits_4 μ (nI e) n (nI (v_bits (v_wt V e) i)) (nI i) = some (nI (v_bits (v_wt V e) (V 6 0))) := by
  have hL := hW.L
  intro d
  induction d with
  | zero =>
    intro i hi n hn
    obtain ⟨n, rfl⟩ : ∃ k, n = k + 1 := ⟨n - 1, by omega⟩
    rw [zX4_wouldBits_4_s]
    unfold jX4_wouldBits_4
    rw [hA.1.2.1, if_pos ((a_le (by omega) (by omega)).mpr (by omega)), show i = V 6 0 by omega]
  | succ d ih =>
    intro i hi n hn
    obtain ⟨n, rfl⟩ : ∃ k, n = k + 1 := ⟨n - 1, by omega⟩
    have hb := v_bits_lt (v_wt V e) i
    have hb2 : 2 ^ i < 2 ^ 31 := Nat.pow_lt_pow_right (by omega) (by omega)
    rw [zX4_wouldBits_4_s]
    unfold jX4_wouldBits_4
    simp only [a_lt']
    rw [hA.1.2.1, if_neg (by rw [a_le (by omega) (by omega)]; omega), m_would hA hW he (by omega), a_b1, nI_1]
    by_cases h : v_wt V e i = true
    · rw [if_pos h, if_neg (by decide), a_bits (by omega) h]
      exact ih (i + 1) (by omega) n (by omega)
    · rw [if_neg h, if_pos rfl, show (0 : Int32) = nI 0 from rfl, a_or (by omega) (by omega), Nat.or_zero, a_bits0 h]
      exact ih (i + 1) (by omega) n (by omega)
theorem m_wouldBits {μ : q_S} {V : q_V} (hA : m_A μ V) (hW : v_W V) {e : Nat} (he : e < V 0 0) : zX4_wouldBits μ (nI e) = some (nI (v_bits (v_wt V e) 8)) := by
  have hL := hW.L
  rw [v_bits_up (p := v_wt V e) hL (fun l h1 _ => v_wt_L h1)]
  exact m_wouldBits_l hA hW he (V 6 0) 0 (by omega) 70000 (by omega)
/-- whether one could take all of a set, one behind the other, from loaf i on -/
def v_fe (V : q_V) (e b : Nat) : Nat → Nat → Nat → Bool
  | 0, _, _ => true
  | d + 1, i, h => if b.testBit i = true then (((V 1 0).testBit e && !(V 7 0).testBit i && v_k (V 2 e) h (V 8 i)) && v_fe V e b d (i + 1) (h - 2)) else v_fe V e b d (i + 1) h
theorem v_fe_s {V : q_V} {e b d i h : Nat} : v_fe V e b (d + 1) i h = if b.testBit i = true then (((V 1 0).testBit e && !(V 7 0).testBit i && v_k (V 2 e) h (V 8 i)) && v_fe V e b d (i + 1) (h - 2)) else v_fe V e b d (i + 1) h := rfl
theorem v_k_mono {kd h h' d : Nat} (hk : v_k kd h d = true) (hh : h ≤ h') : v_k kd h' d = true := by
  simp only [v_k, Bool.and_eq_true, Bool.or_eq_true, decide_eq_true_eq] at hk ⊢
  refine ⟨hk.1, ?_⟩
  rcases hk.2 with h1 | h1
  · exact Or.inl h1
  · exact Or.inr (by omega)
theorem v_ct_end {V : q_V} {kd b : Nat} : ∀ (d i h : Nat), V 6 0 ≤ i → v_ct V kd b d i h = true := by
  intro d
  induction d with
  | zero => intro i h _; rfl
  | succ d ih =>
    intro i h hi
    rw [v_ct_s, if_neg (fun z => by omega)]
    exact ih _ _ (by omega)
theorem v_fe_iff {V : q_V} (hW : v_W V) {e b : Nat} (he : e < V 0 0) : ∀ (d i h : Nat), i + d = V 6 0 → h ≤ V 3 e → (v_fe V e b d i h = true ↔ (∀ j, i ≤ j → j < V 6 0 → b.testBit j = true → v_wt V e j = true) ∧ v_ct V (V 2 e) b (8 - i) i h = true) := by
  have hL := hW.L
  intro d
  induction d with
  | zero =>
    intro i h hi hh
    refine ⟨fun _ => ⟨fun j h1 h2 _ => by omega, v_ct_end _ _ _ (by omega)⟩, fun _ => rfl⟩
  | succ d ih =>
    intro i h hi hh
    have hs : 8 - i = (8 - (i + 1)) + 1 := by omega
    rw [v_fe_s, hs, v_ct_s]
    by_cases hb : b.testBit i = true
    · rw [if_pos hb, if_pos ⟨by omega, hb⟩]
      have q := ih (i + 1) (h - 2) (by omega) (by omega)
      simp only [Bool.and_eq_true, Bool.not_eq_true'] at *
      constructor
      · rintro ⟨⟨⟨h1, h2⟩, h3⟩, h4⟩
        obtain ⟨q1, q2⟩ := q.mp h4
        refine ⟨fun j a1 a2 a3 => ?_, h3, q2⟩
        by_cases hj : j = i
        · subst hj
          simp [v_wt, he, a2, h1, h2, v_k_mono h3 hh]
        · exact q1 j (by omega) a2 a3
      · rintro ⟨h1, h3, h4⟩
        have hw := v_wt_of (h1 i (Nat.le_refl _) (by omega) hb)
        exact ⟨⟨⟨hw.2.2.1, hw.2.2.2.1⟩, h3⟩, q.mpr ⟨fun j a1 a2 a3 => h1 j (by omega) a2 a3, h4⟩⟩
    · rw [if_neg hb, if_neg (fun z => hb z.2)]
      have q := ih (i + 1) h (by omega) hh
      rw [q]
      constructor
      · rintro ⟨h1, h2⟩
        refine ⟨fun j a1 a2 a3 => ?_, h2⟩
        by_cases hj : j = i
        · subst hj; exact absurd a3 hb
        · exact h1 j (by omega) a2 a3
      · rintro ⟨h1, h2⟩
        exact ⟨fun j a1 a2 a3 => h1 j (by omega) a2 a3, h2⟩
theorem v_sub_iff {V : q_V} (hW : v_W V) {e b : Nat} (hb : b < 2 ^ V 6 0) : (b &&& v_bits (v_wt V e) 8 = b) ↔ ∀ j, 0 ≤ j → j < V 6 0 → b.testBit j = true → v_wt V e j = true := by
  have hL := hW.L
  constructor
  · intro h j _ h2 h3
    have := congrArg (fun z => z.testBit j) h
    simp only [Nat.testBit_and, v_bits_tb, h3, Bool.true_and] at this
    simp only [Bool.and_eq_true] at this
    exact this.2
  · intro h
    apply Nat.eq_of_testBit_eq
    intro j
    rw [Nat.testBit_and, v_bits_tb]
    by_cases h2 : j < V 6 0
    · by_cases h3 : b.testBit j = true
      · rw [h3, h j (Nat.zero_le _) h2 h3, show decide (j < 8) = true from decide_eq_true (by omega)]
        rfl
      · have : b.testBit j = false := by simpa using h3
        rw [this]; rfl
    · have : b.testBit j = false := Nat.testBit_lt_two_pow (Nat.lt_of_lt_of_le hb (Nat.pow_le_pow_right (by omega) (by omega)))
      rw [this]; rfl
theorem v_ds_L {V : q_V} (hW : v_W V) (b : Nat) : v_ds V b 8 = v_ds V b (V 6 0) := by
  have hL := hW.L
  have : ∀ d, v_ds V b (V 6 0 + d) = v_ds V b (V 6 0) := by
    intro d
    induction d with
    | zero => rfl
    | succ d ih =>
      show v_ds V b (V 6 0 + d + 1) = _
      rw [v_ds_s, if_neg (fun z => by omega), ih, Nat.add_zero]
  have h := this (8 - V 6 0)
  rw [show V 6 0 + (8 - V 6 0) = 8 by omega] at h
  exact h
/-- in paidBy's loop: what has been taken so far -/
def m_PB (V : q_V) (e b i h : Nat) (V' : q_V) : Prop := (∀ k j, k ≠ 3 → k ≠ 4 → k ≠ 5 → k ≠ 7 → V' k j = V k j) ∧ (∀ j, i ≤ j → (V' 7 0).testBit j = (V 7 0).testBit j) ∧ V' 3 e = h ∧ V' 5 e = V 5 e + v_ds V b i
theorem m_PB_wt {V V' : q_V} {e b i h : Nat} (hP : m_PB V e b i h V') (he : e < V 0 0) (hi : i < V 6 0) : v_wt V' e i = ((V 1 0).testBit e && !(V 7 0).testBit i && v_k (V 2 e) h (V 8 i)) := by
  obtain ⟨p1, p2, p3, p4⟩ := hP
  unfold v_wt
  rw [p1 0 0 (by decide) (by decide) (by decide) (by decide), p1 6 0 (by decide) (by decide) (by decide) (by decide), p1 1 0 (by decide) (by decide) (by decide) (by decide), p1 2 e (by decide) (by decide) (by decide) (by decide), p1 8 i (by decide) (by decide) (by decide) (by decide), p2 i (Nat.le_refl _), p3]
  simp [he, hi]
theorem m_PB_eat {V V' : q_V} {e b i h : Nat} (hP : m_PB V e b i h V') (hi : i < V 6 0) (hb : b.testBit i = true) : m_PB V e b (i + 1) (h - 2) (v_eat V' e i) := by
  obtain ⟨p1, p2, p3, p4⟩ := hP
  refine ⟨fun k j a1 a2 a3 a4 => ?_, fun j hj => ?_, ?_, ?_⟩
  · rw [v_eat_k ⟨a1, a2, a3, a4⟩]; exact p1 k j a1 a2 a3 a4
  · rw [v_eat_7, v_bit, p2 j (by omega), show decide (i = j) = false from decide_eq_false (by omega), Bool.or_false]
  · rw [v_eat_3, if_pos rfl, p3]
  · rw [v_eat_5, if_pos rfl, p4, p1 8 i (by decide) (by decide) (by decide) (by decide), v_ds_s, if_pos ⟨hi, hb⟩, Nat.add_assoc]
theorem m_PB_skip {V V' : q_V} {e b i h : Nat} (hP : m_PB V e b i h V') (hb : ¬ b.testBit i = true) : m_PB V e b (i + 1) h V' := by
  obtain ⟨p1, p2, p3, p4⟩ := hP
  refine ⟨p1, fun j hj => p2 j (by omega), p3, ?_⟩
  rw [p4, v_ds_s, if_neg (fun z => hb z.2), Nat.add_zero]
theorem m_paidBy_end {μ0 : q_S} {V V' : q_V} (hS : m_S μ0) {μ : q_S} (hf : m_fr μ0 μ) (hA : m_A μ V') {e : Nat} (he : e < V' 0 0) (hE : V' 0 0 ≤ 4) (v3 : Int32) : ∃ μ', zX4_paidBy_60 μ (nI e) v3 (nI (V 5 e)) = some ((if v3 = 0 then -1 else nI (V' 5 e) - nI (V 5 e)), μ') ∧ m_q μ0 μ' := by
  obtain ⟨μ', h1, h2⟩ := m_load hS hf
  refine ⟨μ', ?_, h2⟩
  unfold zX4_paidBy_60
  rw [a_gd (a_ib (by omega) (by omega)), a_lt', h1, a_b1, a_cl (by omega), (hA.2.1 e he).2.2.2.2]
  split <;> rfl
theorem m_paidBy_l {μ0 : q_S} {V : q_V} (hS : m_S μ0) (hW : v_W V) {e b : Nat} (he : e < V 0 0) (hb : b < 2 ^ 31) : ∀ (d i : Nat), i + d = V 6 0 → ∀ (n : Nat), d < n → ∀ (μ : q_S) (V' : q_V) (h : Nat), m_fr μ0 μ → m_A μ V' → v_W V' → m_PB V e b i h V' → ∃ μ', zX4_paidBy_13 (nI e) (nI b) (nI (V 5 e)) n μ (1 : Int32) (nI i) = some ((if v_fe V e b d i h then nI (v_ds V b (V 6 0)) else -1), μ') ∧ m_q μ0 μ' := by
  have hE := hW.E
  have hL := hW.L
  intro d
  induction d with
  | zero =>
    intro i hi n hn μ V' h hf hA hW' hP
    obtain ⟨n, rfl⟩ : ∃ k, n = k + 1 := ⟨n - 1, by omega⟩
    have p0 := hP.1 0 0 (by decide) (by decide) (by decide) (by decide)
    have p6 := hP.1 6 0 (by decide) (by decide) (by decide) (by decide)
    obtain ⟨μ', h1, h2⟩ := m_paidBy_end (V := V) hS hf hA (e := e) (by omega) (by omega) 1
    refine ⟨μ', ?_, h2⟩
    rw [zX4_paidBy_13_s]
    unfold jX4_paidBy_13
    rw [hA.1.2.1, p6, if_pos ((a_le (by omega) (by omega)).mpr (by omega)), h1, if_neg (by decide), hP.2.2.2, pk_sub (by omega), show i = V 6 0 by omega]
    congr 2
    show nI _ = nI _
    congr 1
    omega
  | succ d ih =>
    intro i hi n hn μ V' h hf hA hW' hP
    obtain ⟨n, rfl⟩ : ∃ k, n = k + 1 := ⟨n - 1, by omega⟩
    have p0 := hP.1 0 0 (by decide) (by decide) (by decide) (by decide)
    have p6 := hP.1 6 0 (by decide) (by decide) (by decide) (by decide)
    rw [zX4_paidBy_13_s, v_fe_s]
    unfold jX4_paidBy_13
    simp only [a_lt']
    rw [hA.1.2.1, p6]
    by_cases h1 : b.testBit i = true
    · rw [if_pos h1, if_neg (by rw [a_le (by omega) (by omega)]; omega), if_neg (by decide), a_isIn hb (by omega), a_b1, if_pos h1, if_neg (by decide), m_would hA hW' (by omega) (by omega), a_b1, m_PB_wt hP he (by omega)]
      by_cases h2 : ((V 1 0).testBit e && !(V 7 0).testBit i && v_k (V 2 e) h (V 8 i)) = true
      · have hw : v_wt V' e i = true := by rw [m_PB_wt hP he (by omega)]; exact h2
        have hw' := v_wt_of hw
        obtain ⟨μ1, e1, hA1, hf1⟩ := m_eats hA hW' (e := e) (l := i) (by omega) (by omega)
        obtain ⟨μ2, e2, hq⟩ := ih (i + 1) (by omega) n (by omega) μ1 (v_eat V' e i) (h - 2) (hf.tr hf1) hA1 (hW'.eat hw'.1 hw'.2.1 hw'.2.2.2.1) (m_PB_eat hP (by omega) h1)
        refine ⟨μ2, ?_, hq⟩
        rw [h2, if_pos rfl, if_neg (by decide), e1, a_b1, nI_1, Bool.true_and]
        exact e2
      · have h2' : ((V 1 0).testBit e && !(V 7 0).testBit i && v_k (V 2 e) h (V 8 i)) = false := by simpa using h2
        obtain ⟨μ', k1, k2⟩ := m_paidBy_end (V := V) hS hf hA (e := e) (by omega) (by omega) 0
        refine ⟨μ', ?_, k2⟩
        obtain ⟨n, rfl⟩ : ∃ k, n = k + 1 := ⟨n - 1, by omega⟩
        rw [h2', show (if false = true then (1 : Int32) else 0) = 0 from rfl, if_pos rfl, nI_1, zX4_paidBy_13_s]
        unfold jX4_paidBy_13
        rw [if_pos rfl] at k1
        simp only [Bool.false_and]
        rw [if_neg (show ¬ (false = true) by decide)]
        split
        · exact k1
        · rw [if_pos trivial]; exact k1
    · obtain ⟨μ2, e2, hq⟩ := ih (i + 1) (by omega) n (by omega) μ V' h hf hA hW' (m_PB_skip hP h1)
      refine ⟨μ2, ?_, hq⟩
      rw [if_neg h1, if_neg (by rw [a_le (by omega) (by omega)]; omega), if_neg (by decide), a_isIn hb (by omega), a_b1, if_neg h1, if_pos rfl, nI_1]
      exact e2
theorem m_paidBy {μ : q_S} {V : q_V} (hS : m_S μ) (hA : m_A μ V) (hW : v_W V) {e b : Nat} (he : e < V 0 0) (hb : b < 2 ^ V 6 0) : ∃ μ', zX4_paidBy μ (nI e) (nI b) = some ((if b &&& v_bits (v_wt V e) 8 = b ∧ v_ct V (V 2 e) b 8 0 (V 3 e) = true then nI (v_ds V b 8) else -1), μ') ∧ m_q μ μ' := by
  have hE := hW.E
  have hL := hW.L
  have hb2 : b < 2 ^ 31 := Nat.lt_of_lt_of_le hb (Nat.pow_le_pow_right (by omega) (by omega))
  obtain ⟨μ', h1, h2⟩ := m_paidBy_l hS hW he hb2 (V 6 0) 0 (by omega) 70000 (by omega) μ V (V 3 e) m_fr.rf hA hW ⟨fun _ _ _ _ _ _ => rfl, fun _ _ => rfl, rfl, rfl⟩
  refine ⟨μ', ?_, h2⟩
  have hiff := v_fe_iff hW (b := b) he (V 6 0) 0 (V 3 e) (by omega) (Nat.le_refl _)
  rw [← v_sub_iff hW hb] at hiff
  unfold zX4_paidBy
  rw [a_gd (a_ib (by omega) (by omega)), a_lt', a_cl (by omega), (hA.2.1 e he).2.2.2.2]
  refine Eq.trans h1 ?_
  rw [v_ds_L hW]
  by_cases q : v_fe V e b (V 6 0) 0 (V 3 e) = true
  · rw [if_pos q, if_pos (hiff.mp q)]
  · rw [if_neg q, if_neg (fun z => q (hiff.mpr z))]
theorem m_fed_l {μ0 : q_S} {V : q_V} (hW : v_W V) {e f : Nat} (he : e < V 0 0) (hf : f < 2) : ∀ (d i : Nat), i + d = 2 ^ V 6 0 → ∀ (n : Nat), d < n → ∀ (μ : q_S), m_S μ → m_A μ V → m_q μ0 μ → ∃ μ', zX4_fedNow_12 (nI e) (nI f) n μ (nI (v_f V e i).1) (nI (v_f V e i).2) (nI i) = some ((if f = 0 then nI (v_f V e (2 ^ V 6 0)).1 else nI (v_f V e (2 ^ V 6 0)).2), μ') ∧ m_q μ0 μ' := by
  have hE := hW.E
  have hL := hW.L
  have h2L : 2 ^ V 6 0 ≤ 256 := Nat.pow_le_pow_right (j := 8) (by omega) hL
  intro d
  induction d with
  | zero =>
    intro i hi n hn μ hS hA hq
    obtain ⟨n, rfl⟩ : ∃ k, n = k + 1 := ⟨n - 1, by omega⟩
    refine ⟨μ, ?_, hq⟩
    rw [zX4_fedNow_12_s]
    unfold jX4_fedNow_12
    rw [hA.1.2.1, a_shl (by omega), if_pos ((a_le (by omega) (by omega)).mpr (by omega)), show i = 2 ^ V 6 0 by omega]
    by_cases h : f = 0
    · rw [if_pos (by rw [h]; rfl), if_pos h]
    · rw [if_neg (show ¬ nI f = (0 : Int32) from fun z => h ((a_eq (b := 0) (by omega) (by omega)).mp z)), if_neg h]
  | succ d ih =>
    intro i hi n hn μ hS hA hq
    obtain ⟨n, rfl⟩ : ∃ k, n = k + 1 := ⟨n - 1, by omega⟩
    obtain ⟨μ1, h1, hq1⟩ := m_paidBy hS hA hW he (b := i) (by omega)
    obtain ⟨μ2, h2, hq2⟩ := ih (i + 1) (by omega) n (by omega) μ1 (hq1.S hS) (hA.q hE hq1) (hq.tr hq1)
    refine ⟨μ2, ?_, hq2⟩
    have hle := (v_f_le hW e i).2
    have hds := v_ds_le hW i 8
    rw [v_f_s] at h2
    rw [zX4_fedNow_12_s]
    unfold jX4_fedNow_12 zX4_fedNow_45
    simp only [a_lt']
    rw [hA.1.2.1, a_shl (by omega), if_neg (by rw [a_le (by omega) (by omega)]; omega), h1, a_b2, nI_1]
    by_cases q : i &&& v_bits (v_wt V e) 8 = i ∧ v_ct V (V 2 e) i 8 0 (V 3 e) = true
    · have hp : v_pv V e i = v_ds V i 8 := by unfold v_pv; rw [if_pos q]
      rw [hp] at h2
      rw [if_pos q]
      by_cases q2 : (v_f V e i).2 < v_ds V i 8
      · rw [if_pos q2] at h2
        have qn : ¬ nI (v_ds V i 8) ≤ nI (v_f V e i).2 := by rw [a_le (by omega) (by omega)]; omega
        rw [if_neg qn, if_neg qn]
        exact h2
      · rw [if_neg q2] at h2
        have qn : nI (v_ds V i 8) ≤ nI (v_f V e i).2 := (a_le (by omega) (by omega)).mpr (by omega)
        rw [if_pos qn, if_pos qn]
        exact h2
    · have hp : v_pv V e i = 0 := by unfold v_pv; rw [if_neg q]
      rw [hp, if_neg (Nat.not_lt_zero _)] at h2
      rw [if_neg q]
      have qn : (-1 : Int32) ≤ nI (v_f V e i).2 := by
        rw [Int32.le_iff_toInt_le, nI_toInt (by omega), show ((-1 : Int32)).toInt = -1 from by decide]
        omega
      rw [if_pos qn, if_pos qn]
      exact h2
theorem m_fed {μ : q_S} {V : q_V} (hA : m_A μ V) (hW : v_W V) {e f : Nat} (he : e < V 0 0) (hf : f < 2) : ∃ μ', zX4_fedNow μ (nI e) (nI f) = some ((if f = 0 then nI (v_f V e (v_bits (v_wt V e) 8 + 1)).1 else nI (v_f V e (v_bits (v_wt V e) 8 + 1)).2), μ') ∧ m_A μ' V ∧ ∀ k j, (k < 22 ∨ 25 < k) → ((k = 3 ∨ k = 5 ∨ k = 6) → j < 4) → (k = 10 → j = 0) → μ' k j = μ k j := by
  have hE := hW.E
  have hL := hW.L
  obtain ⟨μ1, h1, hs, hS⟩ := m_save μ
  have hA1 := hA.sv hs
  obtain ⟨μ2, h2, hq⟩ := m_fed_l (μ0 := μ1) hW he hf (2 ^ V 6 0) 0 (by omega) 70000 (by have h2L : 2 ^ V 6 0 ≤ 256 := Nat.pow_le_pow_right (j := 8) (by omega) hL
                                                                                        omega) μ1 hS hA1 m_q.rf
  refine ⟨μ2, ?_, hA1.q hE hq, fun k j a b c => ?_⟩
  · unfold zX4_fedNow
    rw [h1, a_b1]
    refine Eq.trans h2 ?_
    have htk : v_bits (v_wt V e) 8 < 2 ^ V 6 0 := by
      rw [v_bits_up (p := v_wt V e) hL (fun l h1 _ => v_wt_L h1)]
      exact v_bits_lt _ _
    have hu := v_f_up (V := V) e (m := v_bits (v_wt V e) 8 + 1) (by omega) (2 ^ V 6 0 - (v_bits (v_wt V e) 8 + 1))
    rw [show v_bits (v_wt V e) 8 + 1 + (2 ^ V 6 0 - (v_bits (v_wt V e) 8 + 1)) = 2 ^ V 6 0 by omega] at hu
    rw [hu]
  · rw [hq k j b c, hs k a]
