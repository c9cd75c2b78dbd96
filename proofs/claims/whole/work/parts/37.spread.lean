/-! spread: the class's and the reference's answer -/
def s_st (V : q_V) : Option (Nat × Nat) := s_T (V 7 0) (V 6 0) (V 6 0) 0 V 0 none
def s_an (V : q_V) (w : Option Nat) : Int32 := match s_st V with
  | none => -1
  | some (c, m) => match w with
    | none => nI m
    | some i => s_w (V 7 0) (V 6 0) c i
def s_w2 (w : Option Nat) : Int32 := match w with
  | none => 0
  | some _ => 1
theorem c_spread34 {σ0 σ2 σ4 σ5 : q_S} {V : q_V} (hA : v_A σ2 V) (hW : v_W V) (h0 : V 0 0 ≠ 0) {sp : Nat} (hsp : sp < 12) (h7 : σ0 7 0 = nI sp) (w : Option Nat) (v2 : Int32) (hw : ∀ i, w = some i → i < 8 ∧ v2 = nI i) : ∃ σ4' σ5', zX3_spread_34 σ0 σ2 σ4 σ5 v2 (s_w2 w) = some (s_an V w, q_u σ0 7 0 (nI (sp + 1)), σ4', σ5') := by
  have hL := hW.L
  obtain ⟨y6, e1, hA6⟩ := c_copyFrom (σ0 := σ4) hA hW
  obtain ⟨y8, e2, n1, n2⟩ := s_start σ5
  have e3 := c_greatest (f := y6 4) (g := V 4) (fun j hj => hA6 4 j hj) (fun j hj => hW.cr hj)
  obtain ⟨y12, y13, e4, hA12, hQ, hB⟩ := s_try hL (V 6 0) 30 (by omega) 0 (by omega) y6 V y8 0 none hA6 hW ⟨rfl, fun _ _ => rfl⟩ ⟨fun j _ _ _ hj => by omega, fun j hj _ => n1 j hj⟩ n2
  refine ⟨y12, y13, ?_⟩
  unfold zX3_spread_34
  rw [c_isRead hA hW, a_b1, if_neg (show ¬ V 0 0 = 0 from h0), if_neg (by decide), h7, if_pos (by rw [show (12 : Int32) = nI 12 from rfl, a_lt (by omega) (by omega)]; exact hsp), a_lt', e1, a_b1, e2, a_b1, e3, a_b1]
  have e4' : zX3_tryLoavesFrom 30 y6 y8 (0 : Int32) (nI (v_mx (V 4) 4)) = some (y12, y13) := e4
  rw [e4', a_b2, show nI sp + (1 : Int32) = nI (sp + 1) from nI_1 sp]
  have hst : s_T (V 7 0) (V 6 0) (V 6 0) 0 V 0 none = s_st V := rfl
  rw [hst] at hB
  unfold s_an
  cases q : s_st V with
  | none =>
    rw [q] at hB
    rw [if_pos (show y13 3 0 = 0 from hB)]
  | some cm =>
    obtain ⟨c, m⟩ := cm
    rw [q] at hB
    obtain ⟨b1, b2, b3, b4⟩ := hB
    rw [if_neg (show ¬ y13 3 0 = 0 by rw [b1]; decide)]
    cases w with
    | none => rw [if_pos (show s_w2 none = 0 from rfl), b2]
    | some i =>
      obtain ⟨k1, k2⟩ := hw i rfl
      rw [if_neg (show ¬ s_w2 (some i) = 0 from (by decide : ¬ (1 : Int32) = 0)), k2, a_gd (a_ib k1 (by omega)), a_cl (by omega), b4 i k1]
theorem a_dig {c k : Nat} (hc : c < 2 ^ 31) (hk : k < 15) : (nI c >>> (((2 : Int32) * nI k) &&& 31)) &&& (3 : Int32) = nI (c / 4 ^ k % 4) := by
  have e : (2 : Int32) * nI k = nI (2 * k) := pk_mul 2 k
  have e2 : (4 : Nat) ^ k = 2 ^ (2 * k) := by rw [Nat.pow_mul]
  rw [e, a_shr hc (by omega), e2]
  exact pk_andN (n := c / 2 ^ (2 * k)) (Nat.lt_of_le_of_lt (Nat.div_le_self _ _) (by omega)) 2 (by decide)
def s_v (r : Option Nat) : Int32 := match r with
  | none => 268435456
  | some m => nI m
theorem m_by_end {μ0 μ : q_S} {V : q_V} (hS : m_S μ0) (hf : m_fr μ0 μ) (hA : m_A μ V) (hW : v_W V) (v5 : Int32) : ∃ μ', zX4_mostBy_96 μ v5 = some ((if v5 = 0 then 268435456 else nI (v_mx (V 4) 4)), μ') ∧ m_q μ0 μ' := by
  obtain ⟨μ', h1, h2⟩ := m_load hS hf
  refine ⟨μ', ?_, h2⟩
  unfold zX4_mostBy_96
  rw [m_most hA hW, a_b1, h1, a_b1]
  by_cases h : v5 = 0
  · rw [if_pos h, if_pos h]
  · rw [if_neg h, if_neg h]
theorem m_by_fail {μ0 μ : q_S} {V : q_V} (hS : m_S μ0) (hf : m_fr μ0 μ) (hA : m_A μ V) (hW : v_W V) (c b : Int32) (n : Nat) (k l : Int32) (hn : 0 < n) : ∃ μ', zX4_mostBy_14 c b n μ k (0 : Int32) l = some (268435456, μ') ∧ m_q μ0 μ' := by
  obtain ⟨n, rfl⟩ : ∃ k, n = k + 1 := ⟨n - 1, by omega⟩
  obtain ⟨μ', h1, h2⟩ := m_by_end hS hf hA hW 0
  refine ⟨μ', ?_, h2⟩
  rw [if_pos rfl] at h1
  rw [zX4_mostBy_14_s]
  unfold jX4_mostBy_14
  split
  · exact h1
  · rw [if_pos rfl]; exact h1
theorem m_by_l {μ0 : q_S} (hS : m_S μ0) {c b L : Nat} (hL : L ≤ 8) (hc : c < 2 ^ 31) (hb : b < 2 ^ 31) : ∀ (d l : Nat), l + d = L → ∀ (n : Nat), d < n → ∀ (μ : q_S) (V : q_V), m_fr μ0 μ → m_A μ V → v_W V → s_X b L l V → ∃ μ', zX4_mostBy_14 (nI c) (nI b) n μ (nI (s_k b L l)) (1 : Int32) (nI l) = some (s_v (s_m b L c d l V), μ') ∧ m_q μ0 μ' := by
  intro d
  induction d with
  | zero =>
    intro l hl n hn μ V hf hA hW hX
    obtain ⟨n, rfl⟩ : ∃ k, n = k + 1 := ⟨n - 1, by omega⟩
    obtain ⟨μ', h1, h2⟩ := m_by_end hS hf hA hW 1
    refine ⟨μ', ?_, h2⟩
    rw [if_neg (by decide)] at h1
    have h6 := hX.1
    rw [zX4_mostBy_14_s]
    unfold jX4_mostBy_14
    rw [hA.1.2.1, h6, if_pos ((a_le (by omega) (by omega)).mpr (by omega))]
    exact h1
  | succ d ih =>
    intro l hl n hn μ V hf hA hW hX
    obtain ⟨n, rfl⟩ : ∃ k, n = k + 1 := ⟨n - 1, by omega⟩
    have h6 := hX.1
    have hkl := s_k_le (b := b) (L := L) (l := l + 1)
    have hE := hW.E
    rw [s_m_s]
    by_cases q : b.testBit l = true
    · obtain ⟨μ', h1, h2⟩ := ih (l + 1) (by omega) n (by omega) μ V hf hA hW hX.up
      refine ⟨μ', ?_, h2⟩
      rw [zX4_mostBy_14_s]
      unfold jX4_mostBy_14
      rw [hA.1.2.1, h6, if_neg (by rw [a_le (by omega) (by omega)]; omega), if_neg (by decide), a_isIn hb (by omega), a_b1, if_pos q, if_neg (by decide), a_lt', nI_1, s_k_1 q, if_pos q]
      exact h1
    · have hk := s_k_0 (L := L) (by omega) q
      have hkk : nI (s_k b L l) + (-1 : Int32) = nI (s_k b L (l + 1)) := by
        rw [show nI (s_k b L l) + (-1 : Int32) = nI (s_k b L l) - nI 1 from by rw [Int32.sub_eq_add_neg]; rfl, pk_sub (by omega), hk, Nat.add_sub_cancel]
      rw [if_neg q]
      have he : c / 4 ^ s_k b L (l + 1) % 4 < 4 := Nat.mod_lt _ (by omega)
      by_cases q2 : v_wt V (c / 4 ^ s_k b L (l + 1) % 4) l = true
      · obtain ⟨w1, w2, w3, w4, w5⟩ := v_wt_of q2
        obtain ⟨μ1, e1, hA1, hf1⟩ := m_eats hA hW w1 w2
        obtain ⟨μ', h1, h2⟩ := ih (l + 1) (by omega) n (by omega) μ1 _ (hf.tr hf1) hA1 (hW.eat w1 w2 w4) hX.eat
        refine ⟨μ', ?_, h2⟩
        rw [zX4_mostBy_14_s]
        unfold jX4_mostBy_14 zX4_mostBy_75
        simp only [a_lt']
        rw [hA.1.2.1, h6, if_neg (by rw [a_le (by omega) (by omega)]; omega), if_neg (by decide), a_isIn hb (by omega), a_b1, if_neg q, if_pos rfl, hkk, a_dig hc (by omega), m_isEater hA hW (by omega), a_b1, if_pos w1, if_neg (by decide), m_would hA hW w1 w2, a_b1, if_pos q2, if_neg (by decide), if_neg (by decide), e1, a_b1, nI_1, if_pos q2]
        exact h1
      · obtain ⟨μ', h1, h2⟩ := m_by_fail hS hf hA hW (nI c) (nI b) n (nI (s_k b L (l + 1))) (nI (l + 1)) (by omega)
        refine ⟨μ', ?_, h2⟩
        rw [zX4_mostBy_14_s]
        unfold jX4_mostBy_14 zX4_mostBy_74 zX4_mostBy_75
        simp only [a_lt']
        rw [hA.1.2.1, h6, if_neg (by rw [a_le (by omega) (by omega)]; omega), if_neg (by decide), a_isIn hb (by omega), a_b1, if_neg q, if_pos rfl, hkk, a_dig hc (by omega), m_isEater hA hW (by omega), a_b1, nI_1, if_neg q2]
        by_cases q3 : c / 4 ^ s_k b L (l + 1) % 4 < V 0 0
        · rw [if_pos q3, if_neg (by decide), m_would hA hW q3 (by omega), a_b1, if_neg q2, if_pos rfl, if_pos trivial]
          exact h1
        · rw [if_neg q3, if_pos rfl, if_pos trivial]
          exact h1
def s_F (V : q_V) (c : Nat) : Option Nat := s_m (V 7 0) (V 6 0) c (V 6 0) 0 V
theorem s_k_s {b L : Nat} : s_k b L 0 = v_lv b L := by unfold s_k; rw [show v_lv b 0 = 0 from rfl, Nat.sub_zero]
theorem m_by {μ : q_S} {V : q_V} (hS : m_S μ) (hA : m_A μ V) (hW : v_W V) {c : Nat} (hc : c < 2 ^ 31) : ∃ μ', zX4_mostBy μ (nI c) (nI (v_lv (V 7 0) (V 6 0))) = some (s_v (s_F V c), μ') ∧ m_q μ μ' := by
  have hb := hW.bL
  have hL := hW.L
  obtain ⟨μ', h1, h2⟩ := m_by_l hS (c := c) hL hc (b := V 7 0) (by omega) (V 6 0) 0 (by omega) 70000 (by omega) μ V m_fr.rf hA hW ⟨rfl, fun _ _ => rfl⟩
  refine ⟨μ', ?_, h2⟩
  rw [s_k_s] at h1
  unfold zX4_mostBy
  rw [a_lt', hA.1.2.2.1]
  exact h1
