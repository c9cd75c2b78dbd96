def m_z (μ μ' : q_S) : Prop := ∀ k j, (k < 22 ∨ 25 < k) → ((k = 3 ∨ k = 5 ∨ k = 6) → j < 4) → (k = 10 → j = 0) → μ' k j = μ k j
theorem m_z.rf {μ : q_S} : m_z μ μ := fun _ _ _ _ _ => rfl
theorem m_z.tr {a b c : q_S} (h1 : m_z a b) (h2 : m_z b c) : m_z a c := fun k j x y z => (h2 k j x y z).trans (h1 k j x y z)
theorem m_z.A {μ μ' : q_S} {V : q_V} (hA : m_A μ V) (hE : V 0 0 ≤ 4) (h : m_z μ μ') : m_A μ' V := by
  obtain ⟨⟨a1, a2, a3, a4⟩, a5, a6, a7⟩ := hA
  refine ⟨⟨?_, ?_, ?_, ?_⟩, fun e he => ?_, fun l hl => ?_, fun k hk => ?_⟩
  · rw [h 1 0 (by omega) (by omega) (by omega)]; exact a1
  · rw [h 7 0 (by omega) (by omega) (by omega)]; exact a2
  · rw [h 10 0 (by omega) (by omega) (by omega)]; exact a3
  · rw [h 12 0 (by omega) (by omega) (by omega)]; exact a4
  · rw [h 2 e (by omega) (by omega) (by omega), h 3 e (by omega) (by omega) (by omega), h 4 e (by omega) (by omega) (by omega), h 5 e (by omega) (by omega) (by omega), h 6 e (by omega) (by omega) (by omega)]
    exact a5 e he
  · rw [h 8 l (by omega) (by omega) (by omega), h 9 l (by omega) (by omega) (by omega)]
    exact a6 l hl
  · rw [h 13 k (by omega) (by omega) (by omega), h 14 k (by omega) (by omega) (by omega), h 15 k (by omega) (by omega) (by omega)]
    exact a7 k hk
theorem m_z.of {μ μ1 μ2 : q_S} (h1 : m_sv μ μ1) (h2 : m_q μ1 μ2) : m_z μ μ2 := fun k j a b c => by rw [h2 k j b c, h1 k a]
theorem s_m_le {b L c : Nat} : ∀ d l V m, v_W V → s_m b L c d l V = some m → m ≤ 90 := by
  intro d
  induction d with
  | zero => intro l V m hW h; injection h with h; rw [← h]; exact s_mx90 hW
  | succ d ih =>
    intro l V m hW h
    rw [s_m_s] at h
    by_cases h1 : b.testBit l = true
    · rw [if_pos h1] at h
      exact ih _ _ _ hW h
    · rw [if_neg h1] at h
      by_cases h2 : v_wt V (c / 4 ^ s_k b L (l + 1) % 4) l = true
      · rw [if_pos h2] at h
        obtain ⟨w1, w2, w3, w4, w5⟩ := v_wt_of h2
        exact ih _ _ _ (hW.eat w1 w2 w4) h
      · rw [if_neg h2] at h
        cases h
def s_b (st : Option (Nat × Nat)) : Int32 := match st with
  | none => -1
  | some (c, _) => nI c
def s_l (st : Option (Nat × Nat)) : Int32 := match st with
  | none => 268435456
  | some (_, m) => nI m
def s_ok (c : Nat) (st : Option (Nat × Nat)) : Prop := match st with
  | none => True
  | some (c0, m0) => c0 < c ∧ m0 ≤ 90
theorem s_ok_f {V : q_V} (hW : v_W V) : ∀ c, s_ok c (s_f (s_F V) 0 c none) := by
  intro c
  induction c with
  | zero => trivial
  | succ c ih =>
    rw [s_f_s, Nat.zero_add]
    cases hF : s_F V c with
    | none =>
      show s_ok (c + 1) (s_f (s_F V) 0 c none)
      cases q : s_f (s_F V) 0 c none with
      | none => trivial
      | some cm => rw [q] at ih; exact ⟨Nat.lt_succ_of_lt ih.1, ih.2⟩
    | some m =>
      have hm := s_m_le _ _ _ _ hW hF
      cases q : s_f (s_F V) 0 c none with
      | none => exact ⟨Nat.lt_succ_self _, hm⟩
      | some cm =>
        obtain ⟨c0, m0⟩ := cm
        rw [q] at ih
        show s_ok (c + 1) (if m < m0 then some (c, m) else some (c0, m0))
        by_cases z : m < m0
        · rw [if_pos z]; exact ⟨Nat.lt_succ_self _, hm⟩
        · rw [if_neg z]; exact ⟨Nat.lt_succ_of_lt ih.1, ih.2⟩
theorem s_st_F {V : q_V} : s_f (s_F V) 0 (4 ^ v_lv (V 7 0) (V 6 0)) none = s_st V := by
  unfold s_st s_T
  rw [s_k_s, Nat.zero_mul]
  rfl
theorem m_behind {μ : q_S} {V : q_V} (hA : m_A μ V) (hW : v_W V) {c i1 : Nat} (hc : c < 2 ^ 31) : ∀ (d l : Nat), l + d = V 6 0 → i1 ≤ l → ∀ (n : Nat), d < n → zX4_spreadNow_132 μ (nI c) n (nI (v_lv (V 7 0) l - v_lv (V 7 0) i1)) (nI l) = some (nI (c / 4 ^ s_k (V 7 0) (V 6 0) i1 % 4), μ) := by
  have hL := hW.L
  have hbL := hW.bL
  intro d
  induction d with
  | zero =>
    intro l hl hi n hn
    obtain ⟨n, rfl⟩ : ∃ k, n = k + 1 := ⟨n - 1, by omega⟩
    have h1 := v_lv_le (b := V 7 0) l
    rw [zX4_spreadNow_132_s]
    unfold jX4_spreadNow_132
    rw [hA.1.2.1, if_pos ((a_le (by omega) (by omega)).mpr (by omega)), a_dig hc (by omega)]
    unfold s_k
    rw [show V 6 0 = l by omega]
  | succ d ih =>
    intro l hl hi n hn
    obtain ⟨n, rfl⟩ : ∃ k, n = k + 1 := ⟨n - 1, by omega⟩
    have q := ih (l + 1) (by omega) (by omega) n (by omega)
    have hm := v_lv_mono (b := V 7 0) (l - i1) i1
    rw [show i1 + (l - i1) = l by omega] at hm
    rw [zX4_spreadNow_132_s]
    unfold jX4_spreadNow_132
    simp only [a_lt']
    rw [hA.1.2.1, if_neg (by rw [a_le (by omega) (by omega)]; omega), hA.1.2.2.1, a_isIn (by omega) (by omega), a_b1, nI_1 l]
    by_cases z : (V 7 0).testBit l = true
    · rw [v_lv_s, if_pos z, Nat.add_zero] at q
      rw [if_pos z, if_neg (by decide), show (0 : Int32) = nI 0 from rfl, nI_add, Nat.add_zero]
      exact q
    · rw [v_lv_s, if_neg z, show v_lv (V 7 0) l + 1 - v_lv (V 7 0) i1 = v_lv (V 7 0) l - v_lv (V 7 0) i1 + 1 by omega] at q
      rw [if_neg z, if_pos rfl, nI_1]
      exact q
def s_x (w : Option Nat) : Int32 := match w with
  | none => 0
  | some i => nI (10 + i)
theorem m_sp_l {μ0 : q_S} {V : q_V} (hW : v_W V) {w : Option Nat} (hw : ∀ i, w = some i → i < 8) : ∀ (d c : Nat), c + d = 4 ^ v_lv (V 7 0) (V 6 0) → ∀ (n : Nat), d < n → ∀ (μ : q_S), m_S μ → m_A μ V → m_q μ0 μ → ∃ μ', zX4_spreadNow_18 (s_x w) (nI (v_lv (V 7 0) (V 6 0))) n μ (s_b (s_f (s_F V) 0 c none)) (s_l (s_f (s_F V) 0 c none)) (nI c) = some (s_an V w, μ') ∧ m_q μ0 μ' := by
  have hE := hW.E
  have hL := hW.L
  have hbL := hW.bL
  have hk := v_lv_le (b := V 7 0) (V 6 0)
  have h4 : 4 ^ v_lv (V 7 0) (V 6 0) ≤ 65536 := Nat.pow_le_pow_right (n := 4) (j := 8) (by omega) (by omega)
  have hsh : (1 : Int32) <<< (((2 : Int32) * nI (v_lv (V 7 0) (V 6 0))) &&& 31) = nI (4 ^ v_lv (V 7 0) (V 6 0)) := by
    rw [show (2 : Int32) * nI (v_lv (V 7 0) (V 6 0)) = nI (2 * v_lv (V 7 0) (V 6 0)) from pk_mul 2 _, a_shl (by omega), Nat.pow_mul]
  intro d
  induction d with
  | zero =>
    intro c hc n hn μ hS hA hq
    obtain ⟨n, rfl⟩ : ∃ k, n = k + 1 := ⟨n - 1, by omega⟩
    refine ⟨μ, ?_, hq⟩
    have hcc : c = 4 ^ v_lv (V 7 0) (V 6 0) := by omega
    rw [zX4_spreadNow_18_s]
    unfold jX4_spreadNow_18 zX4_spreadNow_82
    have hok := s_ok_f hW c
    rw [hcc, s_st_F] at hok
    rw [hsh, if_pos ((a_le (by omega) (by omega)).mpr (by omega)), hcc, s_st_F]
    unfold s_an
    cases q : s_st V with
    | none => rw [if_pos (show s_b none = -1 from rfl), if_pos (show s_b none = -1 from rfl)]
    | some cm =>
      obtain ⟨c0, m0⟩ := cm
      rw [q] at hok
      obtain ⟨o1, o2⟩ := hok
      have hneg : ¬ s_b (some (c0, m0)) = -1 := by
        show ¬ nI c0 = -1
        intro z
        exact absurd (show nI c0 < 0 by rw [z]; decide) (a_neg (by omega))
      rw [if_neg hneg]
      cases w with
      | none => rw [if_pos (show s_x none = 0 from rfl), if_neg hneg]; rfl
      | some i =>
        have hi := hw i rfl
        have hx0 : ¬ s_x (some i) = 0 := by
          show ¬ nI (10 + i) = 0
          intro z
          have := (a_eq (b := 0) (by omega) (by omega)).mp z
          omega
        have hx1 : s_x (some i) - (10 : Int32) = nI i := by
          show nI (10 + i) - nI 10 = nI i
          rw [pk_sub (by omega), show 10 + i - 10 = i by omega]
        rw [if_neg hx0, a_lt', hx1, hA.1.2.1]
        show _ = some (s_w (V 7 0) (V 6 0) c0 i, μ)
        unfold s_w
        by_cases z : i < V 6 0
        · rw [if_neg (by rw [a_le (by omega) (by omega)]; omega), hA.1.2.2.1, a_isIn (by omega) (by omega), a_b1]
          by_cases z2 : (V 7 0).testBit i = true
          · rw [if_pos z2, if_neg (by decide), if_neg (fun y => y.2 z2)]
          · rw [if_neg z2, if_pos rfl, if_pos ⟨z, z2⟩, a_lt', show nI i + (1 : Int32) = nI (i + 1) from nI_1 i]
            have h := m_behind hA hW (c := c0) (i1 := i + 1) (by omega) (V 6 0 - (i + 1)) (i + 1) (by omega) (by omega) 70000 (by omega)
            rw [Nat.sub_self] at h
            exact h
        · rw [if_pos ((a_le (by omega) (by omega)).mpr (by omega)), if_neg (fun y => z y.1)]
  | succ d ih =>
    intro c hc n hn μ hS hA hq
    obtain ⟨n, rfl⟩ : ∃ k, n = k + 1 := ⟨n - 1, by omega⟩
    obtain ⟨μ1, h1, hq1⟩ := m_by hS hA hW (c := c) (by omega)
    obtain ⟨μ2, h2, hq2⟩ := ih (c + 1) (by omega) n (by omega) μ1 (hq1.S hS) (hA.q hE hq1) (hq.tr hq1)
    refine ⟨μ2, ?_, hq2⟩
    have hok := s_ok_f hW c
    rw [s_f_s, Nat.zero_add] at h2
    rw [zX4_spreadNow_18_s]
    unfold jX4_spreadNow_18 zX4_spreadNow_50
    simp only [a_lt']
    rw [hsh, if_neg (by rw [a_le (by omega) (by omega)]; omega), h1, a_b2, nI_1]
    cases hF : s_F V c with
    | none =>
      rw [hF] at h2
      have e : s_l (s_f (s_F V) 0 c none) ≤ s_v none := by
        cases q : s_f (s_F V) 0 c none with
        | none => exact (by decide : (268435456 : Int32) ≤ 268435456)
        | some cm =>
          obtain ⟨c0, m0⟩ := cm
          rw [q] at hok
          obtain ⟨o1, o2⟩ := hok
          show nI m0 ≤ nI 268435456
          exact (a_le (by omega) (by omega)).mpr (by omega)
      rw [if_pos e, if_pos e]
      exact h2
    | some m =>
      have hm := s_m_le _ _ _ _ hW hF
      rw [hF] at h2
      cases q : s_f (s_F V) 0 c none with
      | none =>
        rw [q] at h2
        have e : ¬ s_l none ≤ s_v (some m) := by
          show ¬ nI 268435456 ≤ nI m
          rw [a_le (by omega) (by omega)]
          omega
        rw [if_neg e, if_neg e]
        exact h2
      | some cm =>
        obtain ⟨c0, m0⟩ := cm
        rw [q] at h2 hok
        obtain ⟨o1, o2⟩ := hok
        have h2' : zX4_spreadNow_18 (s_x w) (nI (v_lv (V 7 0) (V 6 0))) n μ1 (s_b (if m < m0 then some (c, m) else some (c0, m0))) (s_l (if m < m0 then some (c, m) else some (c0, m0))) (nI (c + 1)) = some (s_an V w, μ2) := h2
        by_cases z : m < m0
        · rw [if_pos z] at h2'
          have e : ¬ s_l (some (c0, m0)) ≤ s_v (some m) := by
            show ¬ nI m0 ≤ nI m
            rw [a_le (by omega) (by omega)]
            omega
          rw [if_neg e, if_neg e]
          exact h2'
        · rw [if_neg z] at h2'
          have e : s_l (some (c0, m0)) ≤ s_v (some m) := (a_le (by omega) (by omega)).mpr (by omega)
          rw [if_pos e, if_pos e]
          exact h2'
theorem m_spreadNow {μ : q_S} {V : q_V} (hA : m_A μ V) (hW : v_W V) {w : Option Nat} (hw : ∀ i, w = some i → i < 8) : ∃ μ', zX4_spreadNow μ (s_x w) = some (s_an V w, μ') ∧ m_z μ μ' := by
  have hL := hW.L
  have hk := v_lv_le (b := V 7 0) (V 6 0)
  have h4 : 4 ^ v_lv (V 7 0) (V 6 0) ≤ 65536 := Nat.pow_le_pow_right (n := 4) (j := 8) (by omega) (by omega)
  obtain ⟨μ1, h1, hs, hS⟩ := m_save μ
  have hA1 := hA.sv hs
  obtain ⟨μ2, h2, hq⟩ := m_sp_l (μ0 := μ1) hW hw (4 ^ v_lv (V 7 0) (V 6 0)) 0 (by omega) 70000 (by omega) μ1 hS hA1 m_q.rf
  refine ⟨μ2, ?_, m_z.of hs hq⟩
  unfold zX4_spreadNow
  rw [h1, a_b1, m_leftMany hA1 hW, a_b1]
  exact h2
