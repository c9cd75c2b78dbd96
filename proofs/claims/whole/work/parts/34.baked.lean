/-! the reference: what is said, baked, asked -/
theorem m_muchOf_l {μ : q_S} {V : q_V} (hW : v_W V) {b dl x : Nat} (hb : b < 2 ^ V 6 0) (hm : ∀ l, l < V 6 0 → μ 8 l = nI (V 8 l) ∧ μ 9 l = nI (if l = dl then x else V 9 l)) : ∀ (d i : Nat), i + d = 8 → ∀ (n : Nat), d < n → zX4_muchOf_4 μ (nI b) n (nI (v_cs V b dl x i)) (nI i) = some (nI (v_cs V b dl x 8)) := by
  have hL := hW.L
  have hb2 : b < 2 ^ 31 := Nat.lt_of_lt_of_le hb (Nat.pow_le_pow_right (by omega) (by omega))
  intro d
  induction d with
  | zero =>
    intro i hi n hn
    obtain ⟨n, rfl⟩ : ∃ k, n = k + 1 := ⟨n - 1, by omega⟩
    have : i = 8 := by omega
    subst this
    rw [zX4_muchOf_4_s]
    unfold jX4_muchOf_4
    rw [if_pos (by decide)]
  | succ d ih =>
    intro i hi n hn
    obtain ⟨n, rfl⟩ : ∃ k, n = k + 1 := ⟨n - 1, by omega⟩
    have q := ih (i + 1) (by omega) n (by omega)
    rw [v_cs_s] at q
    rw [zX4_muchOf_4_s]
    unfold jX4_muchOf_4
    have g8 : q_ib (nI i) 8 = true := a_ib (by omega) (by omega)
    simp only [a_lt', a_gd g8, a_cl (show i < 2 ^ 31 by omega)]
    rw [if_neg (by rw [show (8 : Int32) = nI 8 from rfl, a_le (by omega) (by omega)]; omega), a_isIn hb2 (by omega), a_b1, nI_1 i]
    by_cases h2 : b.testBit i = true
    · have hi2 : i < V 6 0 := by
        apply Nat.lt_of_not_le
        intro z
        rw [Nat.testBit_lt_two_pow (Nat.lt_of_lt_of_le hb (Nat.pow_le_pow_right (by omega) z))] at h2
        cases h2
      obtain ⟨m8, m9⟩ := hm i hi2
      rw [if_pos ⟨hi2, h2⟩] at q
      rw [if_pos h2, if_neg (by decide), m8, m9, nI_add, nI_add]
      exact q
    · rw [if_neg (fun z => h2 z.2), Nat.add_zero] at q
      rw [if_neg h2, if_pos rfl, show (0 : Int32) = nI 0 from rfl, nI_add, Nat.add_zero]
      exact q
theorem m_muchOf {μ : q_S} {V : q_V} (hW : v_W V) {b dl x : Nat} (hb : b < 2 ^ V 6 0) (hm : ∀ l, l < V 6 0 → μ 8 l = nI (V 8 l) ∧ μ 9 l = nI (if l = dl then x else V 9 l)) : zX4_muchOf μ (nI b) = some (nI (v_cs V b dl x 8)) := m_muchOf_l hW hb hm 8 0 rfl 70000 (by omega)
theorem m_isSaid_l {μ : q_S} {V : q_V} (hW : v_W V) {dl x : Nat} (hx : x < 10) (h12 : μ 12 0 = nI (V 11 0)) (hs : ∀ k, k < V 11 0 → μ 13 k = nI (V 12 k) ∧ μ 14 k = nI (V 13 k) ∧ μ 15 k = (if (V 14 0).testBit k then 1 else 0)) (hm : ∀ l, l < V 6 0 → μ 8 l = nI (V 8 l) ∧ μ 9 l = nI (if l = dl then x else V 9 l)) : ∀ (d i : Nat), i + d = V 11 0 → ∀ (n : Nat), d < n → zX4_isSaid_4 μ n (if v_all (v_sq V dl x) i then 1 else 0) (nI i) = some (if v_sd V dl x then 1 else 0) := by
  have h6 : V 11 0 ≤ 6 := hW.2.2.2.2.2.2.1.1
  intro d
  induction d with
  | zero =>
    intro i hi n hn
    obtain ⟨n, rfl⟩ : ∃ k, n = k + 1 := ⟨n - 1, by omega⟩
    rw [zX4_isSaid_4_s]
    unfold jX4_isSaid_4
    rw [h12, if_pos ((a_le (by omega) (by omega)).mpr (by omega)), a_gd (a_is _), show i = V 11 0 by omega]
    rfl
  | succ d ih =>
    intro i hi n hn
    obtain ⟨n, rfl⟩ : ∃ k, n = k + 1 := ⟨n - 1, by omega⟩
    have q := ih (i + 1) (by omega) n (by omega)
    rw [v_all_s] at q
    rw [zX4_isSaid_4_s]
    unfold jX4_isSaid_4 zX4_isSaid_40 zX4_isSaid_55
    have g6 : q_ib (nI i) 6 = true := a_ib (by omega) (by omega)
    simp only [a_lt', a_gd g6, a_cl (show i < 2 ^ 31 by omega)]
    rw [h12, if_neg (by rw [a_le (by omega) (by omega)]; omega), nI_1]
    by_cases ha : v_all (v_sq V dl x) i = true
    · obtain ⟨e13, e14, e15⟩ := hs i (by omega)
      have hb := (hW.2.2.2.2.2.2.1.2 i (by omega)).1
      have hmu := (hW.2.2.2.2.2.2.1.2 i (by omega)).2
      have hcs := v_cs_le hW (b := V 12 i) (dl := dl) hx 8
      rw [ha, Bool.true_and] at q
      rw [ha, if_pos rfl, if_neg (by decide), e13, m_muchOf hW hb hm, a_b1, e14, e15]
      by_cases h1 : v_cs V (V 12 i) dl x 8 ≤ V 13 i
      · rw [if_pos ((a_le (by omega) (by omega)).mpr h1)]
        by_cases h2 : (V 14 0).testBit i = true
        · have hq : v_sq V dl x i = false := by unfold v_sq; simp [show ¬ V 13 i < v_cs V (V 12 i) dl x 8 by omega, h2]
          rw [hq] at q
          rw [if_pos h2, if_pos rfl, if_neg (by decide)]
          exact q
        · have hq : v_sq V dl x i = true := by unfold v_sq; simp [show ¬ V 13 i < v_cs V (V 12 i) dl x 8 by omega, h2]
          rw [hq] at q
          rw [if_neg h2, if_neg (show ¬ (0 : Int32) = 1 by decide), if_pos trivial]
          exact q
      · rw [if_neg (by rw [a_le (by omega) (by omega)]; exact h1)]
        by_cases h2 : (V 14 0).testBit i = true
        · have hq : v_sq V dl x i = true := by unfold v_sq; simp [show V 13 i < v_cs V (V 12 i) dl x 8 by omega, h2]
          rw [hq] at q
          rw [if_pos h2, if_pos rfl, if_pos trivial]
          exact q
        · have hq : v_sq V dl x i = false := by unfold v_sq; simp [show V 13 i < v_cs V (V 12 i) dl x 8 by omega, h2]
          rw [hq] at q
          rw [if_neg h2, if_neg (show ¬ (0 : Int32) = 1 by decide), if_neg (by decide)]
          exact q
    · have ha' : v_all (v_sq V dl x) i = false := by simpa using ha
      rw [ha', Bool.false_and] at q
      rw [ha', if_pos (show (if false = true then (1 : Int32) else 0) = 0 from rfl)]
      exact q
theorem m_isSaid {μ : q_S} {V : q_V} (hW : v_W V) {dl x : Nat} (hx : x < 10) (h12 : μ 12 0 = nI (V 11 0)) (hs : ∀ k, k < V 11 0 → μ 13 k = nI (V 12 k) ∧ μ 14 k = nI (V 13 k) ∧ μ 15 k = (if (V 14 0).testBit k then 1 else 0)) (hm : ∀ l, l < V 6 0 → μ 8 l = nI (V 8 l) ∧ μ 9 l = nI (if l = dl then x else V 9 l)) : zX4_isSaid μ = some (if v_sd V dl x then 1 else 0) := by
  have h6 : V 11 0 ≤ 6 := hW.2.2.2.2.2.2.1.1
  exact m_isSaid_l hW hx h12 hs hm (V 11 0) 0 (by omega) 70000 (by omega)
/-- but for one loaf's hidden -/
def m_h (μ μ' : q_S) (dl : Nat) : Prop := ∀ k j, ¬ (k = 9 ∧ j = dl) → μ' k j = μ k j
theorem m_h.u {μ μ' : q_S} {dl : Nat} (h : m_h μ μ' dl) (x : Int32) : m_h μ (q_u μ' 9 dl x) dl := by
  intro k j hn
  by_cases q : k = 9
  · subst q
    rw [q_u_j (fun z => hn ⟨rfl, z⟩)]
    exact h 9 j hn
  · rw [q_u_k q]
    exact h k j hn
theorem m_baked_l {μ : q_S} {V : q_V} (hA : m_A μ V) (hW : v_W V) {dl : Nat} (hdl : dl < V 6 0) : ∀ (d i : Nat), i + d = 10 → ∀ (n : Nat), d < n → ∀ μ', m_h μ μ' dl → zX4_bakedNow_12 (nI dl) (μ 9 dl) n μ' (nI (v_bits (v_sd V dl) i)) (nI i) = some (nI (v_bits (v_sd V dl) 10), μ) := by
  have hL := hW.L
  have g8 : q_ib (nI dl) 8 = true := a_ib (by omega) (by omega)
  intro d
  induction d with
  | zero =>
    intro i hi n hn μ' hh
    obtain ⟨n, rfl⟩ : ∃ k, n = k + 1 := ⟨n - 1, by omega⟩
    have : i = 10 := by omega
    subst this
    rw [zX4_bakedNow_12_s]
    unfold jX4_bakedNow_12
    rw [if_pos (by decide), a_gd g8, a_lt', a_cl (by omega)]
    have e : q_u μ' 9 dl (μ 9 dl) = μ := by
      funext k j
      by_cases q : k = 9 ∧ j = dl
      · rw [q.1, q.2, q_u_s]
      · exact hh.u (μ 9 dl) k j q
    rw [e]
  | succ d ih =>
    intro i hi n hn μ' hh
    obtain ⟨n, rfl⟩ : ∃ k, n = k + 1 := ⟨n - 1, by omega⟩
    have hh1 := hh.u (nI i)
    have hb := v_bits_lt (v_sd V dl) i
    have hb2 : 2 ^ i < 2 ^ 31 := Nat.pow_lt_pow_right (by omega) (by omega)
    have hm : ∀ l, l < V 6 0 → (q_u μ' 9 dl (nI i)) 8 l = nI (V 8 l) ∧ (q_u μ' 9 dl (nI i)) 9 l = nI (if l = dl then i else V 9 l) := by
      intro l hl
      obtain ⟨a8, a9⟩ := hA.2.2.1 l hl
      refine ⟨(hh1 8 l (by omega)).trans a8, ?_⟩
      by_cases q : l = dl
      · subst q; rw [q_u_s, if_pos rfl]
      · rw [if_neg q]; exact (hh1 9 l (fun z => q z.2)).trans a9
    have hs := m_isSaid (μ := q_u μ' 9 dl (nI i)) hW (dl := dl) (x := i) (by omega) ((hh1 12 0 (by omega)).trans hA.1.2.2.2) (fun k hk => by
      obtain ⟨a, b, c⟩ := hA.2.2.2 k hk
      exact ⟨(hh1 13 k (by omega)).trans a, (hh1 14 k (by omega)).trans b, (hh1 15 k (by omega)).trans c⟩) hm
    rw [zX4_bakedNow_12_s]
    unfold jX4_bakedNow_12
    simp only [a_lt', a_gd g8, a_cl (show dl < 2 ^ 31 by omega)]
    rw [if_neg (by rw [show (9 : Int32) = nI 9 from rfl, a_lt (by omega) (by omega)]; omega), hs, a_b1, nI_1]
    by_cases h : v_sd V dl i = true
    · rw [if_pos h, if_neg (by decide), a_bits (by omega) h]
      exact ih (i + 1) (by omega) n (by omega) _ hh1
    · rw [if_neg h, if_pos rfl, show (0 : Int32) = nI 0 from rfl, a_or (by omega) (by omega), Nat.or_zero, a_bits0 h]
      exact ih (i + 1) (by omega) n (by omega) _ hh1
theorem m_baked {μ : q_S} {V : q_V} (hA : m_A μ V) (hW : v_W V) {dl : Nat} (hdl : dl < V 6 0) : zX4_bakedNow μ (nI dl) = some (nI (v_bits (v_sd V dl) 10), μ) := by
  have hL := hW.L
  have g8 : q_ib (nI dl) 8 = true := a_ib (by omega) (by omega)
  unfold zX4_bakedNow
  rw [a_gd g8, a_lt', a_cl (by omega)]
  exact m_baked_l hA hW hdl 10 0 rfl 70000 (by omega) μ (fun _ _ _ => rfl)
theorem a_bit {b i : Nat} (hb : b < 2 ^ 31) (hi : i < 31) : (nI b >>> (nI i &&& 31)) &&& (1 : Int32) = nI (if b.testBit i = true then 1 else 0) := by
  have h2 : b / 2 ^ i < 2 ^ 31 := Nat.lt_of_le_of_lt (Nat.div_le_self _ _) hb
  rw [a_shr hb hi, a_and1 h2, Nat.testBit_eq_decide_div_mod_eq]
  congr 1
  by_cases h : b / 2 ^ i % 2 = 1
  · simp [h]
  · have : b / 2 ^ i % 2 = 0 := by omega
    simp [this]
theorem m_ask_in {μ : q_S} {k15 : Int32 → Int32 → Int32 → Option (Int32 × q_S)} {dl b dd t : Nat} (hdl : dl < 8) (hb : b < 1024) (hd : dd < 10) (ht : t < 21) (h8 : μ 8 dl = nI dd) (v3 v4 : Int32) : ∀ (d i : Nat), i + d = 10 → ∀ (n : Nat), d < n → zX4_askNow_35 k15 μ (nI dl) (nI b) v3 v4 (nI t) n (nI (v_mo b dd t i)) (nI (v_pc b i)) (nI i) = zX4_askNow_112 k15 v3 v4 (nI t) (nI (v_lw b dd t)) := by
  have h1 := v_mo_le b dd t 10
  have h2 := v_pc_le b 10
  have g8 : q_ib (nI dl) 8 = true := a_ib (by omega) (by omega)
  intro d
  induction d with
  | zero =>
    intro i hi n hn
    obtain ⟨n, rfl⟩ : ∃ k, n = k + 1 := ⟨n - 1, by omega⟩
    have : i = 10 := by omega
    subst this
    rw [zX4_askNow_35_s]
    unfold jX4_askNow_35 v_lw
    rw [if_pos (by decide), pk_sub h1]
    by_cases q : v_mo b dd t 10 < v_pc b 10 - v_mo b dd t 10
    · rw [if_pos ((a_le (by omega) (by omega)).mpr (by omega)), if_pos q]
    · rw [if_neg q]
      by_cases q2 : v_mo b dd t 10 ≤ v_pc b 10 - v_mo b dd t 10
      · rw [if_pos ((a_le (by omega) (by omega)).mpr q2), show v_pc b 10 - v_mo b dd t 10 = v_mo b dd t 10 by omega]
      · rw [if_neg (by rw [a_le (by omega) (by omega)]; exact q2)]
  | succ d ih =>
    intro i hi n hn
    obtain ⟨n, rfl⟩ : ∃ k, n = k + 1 := ⟨n - 1, by omega⟩
    have q := ih (i + 1) (by omega) n (by omega)
    rw [v_mo_s, v_pc_s] at q
    rw [zX4_askNow_35_s]
    unfold jX4_askNow_35 zX4_askNow_82
    simp only [a_lt', a_gd g8, a_cl (show dl < 2 ^ 31 by omega)]
    rw [if_neg (by rw [show (9 : Int32) = nI 9 from rfl, a_lt (by omega) (by omega)]; omega), a_bit (by omega) (by omega), nI_add, a_isIn (by omega) (by omega), a_b1, h8, nI_add, nI_1 i]
    by_cases h : b.testBit i = true
    · rw [if_pos h] at q
      rw [if_pos h, if_pos h, if_neg (by decide)]
      by_cases h3 : t < dd + i
      · rw [if_pos ⟨h, h3⟩] at q
        rw [if_neg (by rw [a_le (by omega) (by omega)]; omega), nI_1]
        exact q
      · rw [if_neg (fun z => h3 z.2), Nat.add_zero] at q
        rw [if_pos ((a_le (by omega) (by omega)).mpr (by omega)), show (0 : Int32) = nI 0 from rfl, nI_add, Nat.add_zero]
        exact q
    · rw [if_neg h, if_neg (fun z => h z.1)] at q
      rw [if_neg h, if_neg h, if_pos rfl, show (0 : Int32) = nI 0 from rfl, nI_add]
      exact q
theorem m_ask_l {μ : q_S} {dl b dd : Nat} (hdl : dl < 8) (hb : b < 1024) (hb0 : b ≠ 0) (hd : dd < 10) (h8 : μ 8 dl = nI dd) : ∀ (d i : Nat), i + d = 20 → ∀ (n : Nat), d < n → zX4_askNow_15 μ (nI dl) (nI b) n (nI (v_bq (v_lw b dd) i).1) (nI (v_bq (v_lw b dd) i).2) (nI (i + 1)) = some (nI (v_bq (v_lw b dd) 20).1, μ) := by
  have hb1 : ¬ nI b = (0 : Int32) := fun z => hb0 ((a_eq (b := 0) (by omega) (by omega)).mp z)
  intro d
  induction d with
  | zero =>
    intro i hi n hn
    obtain ⟨n, rfl⟩ : ∃ k, n = k + 1 := ⟨n - 1, by omega⟩
    have : i = 20 := by omega
    subst this
    rw [zX4_askNow_15_s]
    unfold jX4_askNow_15
    rw [if_pos (show (20 : Int32) < nI (20 + 1) by decide)]
  | succ d ih =>
    intro i hi n hn
    obtain ⟨n, rfl⟩ : ∃ k, n = k + 1 := ⟨n - 1, by omega⟩
    have q := ih (i + 1) (by omega) n (by omega)
    have hle := v_bq_le (v_lw_le b dd) i
    have hl := v_lw_le b dd (i + 1)
    rw [v_bq_s] at q
    rw [zX4_askNow_15_s]
    unfold jX4_askNow_15
    have hin := m_ask_in (k15 := zX4_askNow_15 μ (nI dl) (nI b) n) hdl hb hd (t := i + 1) (by omega) h8 (nI (v_bq (v_lw b dd) i).1) (nI (v_bq (v_lw b dd) i).2) 10 0 rfl 70000 (by omega)
    rw [show v_mo b dd (i + 1) 0 = 0 from rfl, show v_pc b 0 = 0 from rfl] at hin
    rw [if_neg (by rw [show (20 : Int32) = nI 20 from rfl, a_lt (by omega) (by omega)]; omega), if_neg hb1, show (0 : Int32) = nI 0 from rfl, hin]
    unfold zX4_askNow_112 zX4_askNow_127
    simp only [a_lt']
    rw [nI_1]
    by_cases h : v_lw b dd (i + 1) < (v_bq (v_lw b dd) i).2
    · rw [if_pos h] at q
      rw [if_neg (by rw [a_le (by omega) (by omega)]; omega), if_neg (by rw [a_le (by omega) (by omega)]; omega)]
      exact q
    · rw [if_neg h] at q
      rw [if_pos ((a_le (by omega) (by omega)).mpr (by omega)), if_pos ((a_le (by omega) (by omega)).mpr (by omega))]
      exact q
theorem m_ask {μ : q_S} {V : q_V} (hA : m_A μ V) (hW : v_W V) {dl : Nat} (hdl : dl < V 6 0) : zX4_askNow μ (nI dl) = some ((if v_bits (v_sd V dl) 10 = 0 then -1 else nI (v_bq (v_lw (v_bits (v_sd V dl) 10) (V 8 dl)) 20).1), μ) := by
  have hL := hW.L
  have hb := v_bits_lt (v_sd V dl) 10
  have hd := hW.dd hdl
  unfold zX4_askNow
  rw [m_baked hA hW hdl, a_b2]
  show zX4_askNow_15 μ (nI dl) (nI (v_bits (v_sd V dl) 10)) (69999 + 1) (-1 : Int32) (268435456 : Int32) (0 : Int32) = _
  rw [zX4_askNow_15_s]
  unfold jX4_askNow_15
  rw [if_neg (by decide)]
  by_cases h : v_bits (v_sd V dl) 10 = 0
  · rw [if_pos (by rw [h]; rfl), if_pos h]
  · rw [if_neg (show ¬ nI (v_bits (v_sd V dl) 10) = (0 : Int32) from fun z => h ((a_eq (b := 0) (by omega) (by omega)).mp z)), if_neg h]
    have hin := m_ask_in (k15 := zX4_askNow_15 μ (nI dl) (nI (v_bits (v_sd V dl) 10)) 69999) (by omega) hb (by omega) (t := 0) (by omega) (hA.2.2.1 dl hdl).1 (-1 : Int32) (268435456 : Int32) 10 0 rfl 70000 (by omega)
    rw [show v_mo (v_bits (v_sd V dl) 10) (V 8 dl) 0 0 = 0 from rfl, show v_pc (v_bits (v_sd V dl) 10) 0 = 0 from rfl] at hin
    rw [show (0 : Int32) = nI 0 from rfl, hin]
    have hl := v_lw_le (v_bits (v_sd V dl) 10) (V 8 dl) 0
    unfold zX4_askNow_112 zX4_askNow_127
    simp only [a_lt']
    have hn : ¬ (268435456 : Int32) ≤ nI (v_lw (v_bits (v_sd V dl) 10) (V 8 dl) 0) := by
      rw [show (268435456 : Int32) = nI 268435456 from rfl, a_le (by omega) (by omega)]; omega
    rw [if_neg hn, if_neg hn, nI_1]
    exact m_ask_l (by omega) hb h (by omega) (hA.2.2.1 dl hdl).1 20 0 rfl 69999 (by omega)
