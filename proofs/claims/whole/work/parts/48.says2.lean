/-! say, spread, winters -/
theorem v_say_k {V : q_V} {b mu mo k j : Nat} (h : k ≠ 11 ∧ k ≠ 12 ∧ k ≠ 13 ∧ k ≠ 14) : v_say V b mu mo k j = V k j := by
  unfold v_say
  rw [v_u_k h.1, v_u_k h.2.2.2, v_u_k h.2.2.1, v_u_k h.2.1]
theorem v_say_11 {V : q_V} {b mu mo : Nat} : v_say V b mu mo 11 0 = V 11 0 + 1 := by unfold v_say; rw [v_u_s]
theorem v_u_if {V : q_V} {k j j' x : Nat} : v_u V k j x k j' = if j' = j then x else V k j' := by
  by_cases h : j' = j
  · subst h; rw [v_u_s, if_pos rfl]
  · rw [v_u_j h, if_neg h]
theorem v_say_12 {V : q_V} {b mu mo j : Nat} : v_say V b mu mo 12 j = if j = V 11 0 then b else V 12 j := by
  unfold v_say; rw [v_u_k (by decide), v_u_k (by decide), v_u_k (by decide), v_u_if]
theorem v_say_13 {V : q_V} {b mu mo j : Nat} : v_say V b mu mo 13 j = if j = V 11 0 then mu else V 13 j := by
  unfold v_say; rw [v_u_k (by decide), v_u_k (by decide), v_u_if, v_u_k (by decide)]
theorem v_say_14 {V : q_V} {b mu mo : Nat} : v_say V b mu mo 14 0 = v_b14 (V 14 0) (V 11 0) mo := by
  unfold v_say; rw [v_u_k (by decide), v_u_s]
theorem v_W.say {V : q_V} (h : v_W V) {b mu mo : Nat} (hs : V 11 0 < 6) (hb : b < 2 ^ V 6 0) (hm : mu ≤ 99) (hmo : mo < 2) : v_W (v_say V b mu mo) := by
  obtain ⟨a1, a2, a3, a4, a5, a6, a7, a8⟩ := h
  unfold v_W v_T v_lf at *
  simp only [v_say_k (V := V) (b := b) (mu := mu) (mo := mo) (k := 0) (by decide), v_say_k (V := V) (b := b) (mu := mu) (mo := mo) (k := 1) (by decide), v_say_k (V := V) (b := b) (mu := mu) (mo := mo) (k := 2) (by decide), v_say_k (V := V) (b := b) (mu := mu) (mo := mo) (k := 3) (by decide), v_say_k (V := V) (b := b) (mu := mu) (mo := mo) (k := 4) (by decide), v_say_k (V := V) (b := b) (mu := mu) (mo := mo) (k := 5) (by decide), v_say_k (V := V) (b := b) (mu := mu) (mo := mo) (k := 6) (by decide), v_say_k (V := V) (b := b) (mu := mu) (mo := mo) (k := 7) (by decide), v_say_k (V := V) (b := b) (mu := mu) (mo := mo) (k := 8) (by decide), v_say_k (V := V) (b := b) (mu := mu) (mo := mo) (k := 9) (by decide), v_say_11, v_say_12, v_say_13, v_say_14]
  refine ⟨a1, a2, a3, a4, a5, a6, ⟨by omega, fun k hk => ?_⟩, v_b14_lt _ a8 _ hs _ hmo⟩
  · by_cases z : k = V 11 0
    · rw [if_pos z, if_pos z]; exact ⟨hb, hm⟩
    · rw [if_neg z, if_neg z]; exact a7.2 k (by omega)
theorem r_C.say {V K : q_V} {b mu mo : Nat} (h : r_C V K) : r_C (v_say V b mu mo) K := by
  obtain ⟨h1, h2, h3, h4⟩ := h
  refine ⟨h1.trans (v_say_k (by decide)).symm, by rw [v_say_k (by decide)]; exact h2, fun e' he => (h3 e' he).trans (v_say_k (by decide)).symm, fun l' hl => ?_⟩
  rw [v_say_k (by decide), v_say_k (by decide)]
  exact h4 l' hl
theorem m_say {μ : q_S} {V : q_V} (hA : m_A μ V) (hW : v_W V) (hs : V 11 0 < 6) {b mu mo : Nat} (hmo : mo < 2) : m_A (q_u (q_u (q_u (q_u μ 13 (V 11 0) (nI b)) 14 (V 11 0) (nI mu)) 15 (V 11 0) (nI mo)) 12 0 (nI (V 11 0 + 1))) (v_say V b mu mo) := by
  obtain ⟨⟨a1, a2, a3, a4⟩, bb, c, d⟩ := hA
  unfold m_A
  simp only [v_say_k (V := V) (b := b) (mu := mu) (mo := mo) (k := 0) (by decide), v_say_k (V := V) (b := b) (mu := mu) (mo := mo) (k := 1) (by decide), v_say_k (V := V) (b := b) (mu := mu) (mo := mo) (k := 2) (by decide), v_say_k (V := V) (b := b) (mu := mu) (mo := mo) (k := 3) (by decide), v_say_k (V := V) (b := b) (mu := mu) (mo := mo) (k := 4) (by decide), v_say_k (V := V) (b := b) (mu := mu) (mo := mo) (k := 5) (by decide), v_say_k (V := V) (b := b) (mu := mu) (mo := mo) (k := 6) (by decide), v_say_k (V := V) (b := b) (mu := mu) (mo := mo) (k := 7) (by decide), v_say_k (V := V) (b := b) (mu := mu) (mo := mo) (k := 8) (by decide), v_say_k (V := V) (b := b) (mu := mu) (mo := mo) (k := 9) (by decide), v_say_11, v_say_12, v_say_13, v_say_14]
  have k0 : ∀ k, k ≠ 12 → k ≠ 13 → k ≠ 14 → k ≠ 15 → (q_u (q_u (q_u (q_u μ 13 (V 11 0) (nI b)) 14 (V 11 0) (nI mu)) 15 (V 11 0) (nI mo)) 12 0 (nI (V 11 0 + 1))) k = μ k := fun k k12 k13 k14 k15 => by rw [q_u_k k12, q_u_k k15, q_u_k k14, q_u_k k13]
  rw [k0 1 (by decide) (by decide) (by decide) (by decide), k0 2 (by decide) (by decide) (by decide) (by decide), k0 3 (by decide) (by decide) (by decide) (by decide), k0 4 (by decide) (by decide) (by decide) (by decide), k0 5 (by decide) (by decide) (by decide) (by decide), k0 6 (by decide) (by decide) (by decide) (by decide), k0 7 (by decide) (by decide) (by decide) (by decide), k0 8 (by decide) (by decide) (by decide) (by decide), k0 9 (by decide) (by decide) (by decide) (by decide), k0 10 (by decide) (by decide) (by decide) (by decide)]
  refine ⟨⟨a1, a2, a3, q_u_s⟩, bb, c, fun k hk => ?_⟩
  rw [q_u_k (show 13 ≠ 12 by decide), q_u_k (show 13 ≠ 15 by decide), q_u_k (show 13 ≠ 14 by decide), q_u_if, q_u_k (show 14 ≠ 12 by decide), q_u_k (show 14 ≠ 15 by decide), q_u_if, q_u_k (show 14 ≠ 13 by decide), q_u_k (show 15 ≠ 12 by decide), q_u_if, q_u_k (show 15 ≠ 14 by decide), q_u_k (show 15 ≠ 13 by decide), v_b14_t _ hW.2.2.2.2.2.2.2 _ hs _ hmo _ (by omega)]
  by_cases z : k = V 11 0
  · rw [if_pos z, if_pos z, if_pos z, if_pos z, if_pos z, if_pos z]
    refine ⟨rfl, rfl, ?_⟩
    rcases (show mo = 0 ∨ mo = 1 by omega) with w | w <;> subst w <;> rfl
  · rw [if_neg z, if_neg z, if_neg z, if_neg z, if_neg z, if_neg z]
    exact d k (by omega)
theorem o_say {b : Nat} {s0 s1 s2 s3 μ : q_S} (h : r_R b s0 s1 s2 s3 μ) (x y : Int32) {mo : Nat} (hmo : mo < 2) : ∃ r s2' μ', zX3_say s2 x y (nI mo) = some (r, s2') ∧ zX4_say μ x y (nI mo) = some (r, μ') ∧ r_R (b + 1) s0 s1 s2' s3 μ' := by
  have hup := h.up
  obtain ⟨V, K, n, c, vr, sp, h⟩ := h
  have h' := h
  obtain ⟨⟨hA, hW, hM, h11⟩, h2, h3, h6, h9⟩ := h
  have hE := hW.E
  have hL := hW.L
  have h2L : 2 ^ V 6 0 ≤ 256 := Nat.pow_le_pow_right (j := 8) (by omega) hL
  have hp : 1 ≤ 2 ^ V 6 0 := Nat.pow_pos (by omega)
  have no : ∀ r : Int32, ∃ r' s2' μ', some (r, s2) = some (r', s2') ∧ some (r, μ) = some (r', μ') ∧ r_R (b + 1) s0 s1 s2' s3 μ' := fun r => ⟨r, s2, μ, rfl, rfl, hup⟩
  have ms : zX4_say μ x y (nI mo) = zX4_say_19 μ x y (nI mo) (nI (2 ^ V 6 0 - 1)) := by
    unfold zX4_say
    rw [hM.1.1, hM.1.2.1]
    by_cases z : V 0 0 = 0
    · rw [if_pos (by rw [z]; rfl), hW.1.2.2.mp z]; rfl
    · rw [if_neg (fun k => z ((a_z0 (by omega)).mp k)), a_shl (by omega), show nI (2 ^ V 6 0) - (1 : Int32) = nI (2 ^ V 6 0 - 1) from pk_sub (b := 1) hp]
  rw [ms]
  unfold zX3_say zX4_say_19 zX4_within
  rw [hA 6 0 (by decide), a_shl (by omega)]
  by_cases x0 : x < 0
  · rw [if_pos x0, if_pos x0, a_b1, a_0e]
    exact no _
  · obtain ⟨bb, hb, rfl⟩ := nI_of x0
    rw [if_neg x0, if_neg x0]
    by_cases xb : bb < 2 ^ V 6 0
    · rw [if_neg (show ¬ nI (2 ^ V 6 0) ≤ nI bb by rw [a_le (by omega) (by omega)]; omega), if_neg (show ¬ nI (2 ^ V 6 0 - 1) < nI bb by rw [a_lt (by omega) (by omega)]; omega), a_b1, a_1e]
      by_cases y0 : y < 0
      · rw [if_pos y0, if_pos y0, a_b1, a_0e]
        exact no _
      · obtain ⟨mu, hmu, rfl⟩ := nI_of y0
        rw [if_neg y0, if_neg y0]
        by_cases y9 : mu ≤ 99
        · rw [if_pos (show nI mu ≤ (99 : Int32) by rw [show (99 : Int32) = nI 99 from rfl, a_le (by omega) (by omega)]; exact y9), if_neg (show ¬ (99 : Int32) < nI mu by rw [show (99 : Int32) = nI 99 from rfl, a_lt (by omega) (by omega)]; omega), a_b1, a_1e, c_isRead hA hW, a_b1, hM.1.1]
          by_cases z : V 0 0 = 0
          · rw [if_pos z, a_0e, if_pos (by rw [z]; rfl)]
            exact no _
          · rw [if_neg z, a_1e, if_neg (fun k => z ((a_z0 (by omega)).mp k)), hA 11 0 (by decide), hM.1.2.2.2]
            by_cases q : V 11 0 < 6
            · obtain ⟨s2', k1, k2⟩ := c_addSaid hA hW q (b := bb) (mu := mu) hmo
              have hi : q_ib (nI (V 11 0)) 6 = true := a_ib (by omega) (by omega)
              have hc := a_cl (i := V 11 0) (by omega)
              have end1 : (if nI mo = 0 then zX4_say_103 (q_u (q_u μ 13 (V 11 0) (nI bb)) 14 (V 11 0) (nI mu)) (nI (V 11 0)) 0 else zX4_say_103 (q_u (q_u μ 13 (V 11 0) (nI bb)) 14 (V 11 0) (nI mu)) (nI (V 11 0)) 1) = some (nI (V 11 0 + 1), q_u (q_u (q_u (q_u μ 13 (V 11 0) (nI bb)) 14 (V 11 0) (nI mu)) 15 (V 11 0) (nI mo)) 12 0 (nI (V 11 0 + 1))) := by
                have e103 : zX4_say_103 (q_u (q_u μ 13 (V 11 0) (nI bb)) 14 (V 11 0) (nI mu)) (nI (V 11 0)) (nI mo) = some (nI (V 11 0 + 1), q_u (q_u (q_u (q_u μ 13 (V 11 0) (nI bb)) 14 (V 11 0) (nI mu)) 15 (V 11 0) (nI mo)) 12 0 (nI (V 11 0 + 1))) := by
                  unfold zX4_say_103
                  rw [a_gd hi, a_lt', a_lt', hc, q_u_s, q_u_k (show 12 ≠ 15 by decide), q_u_k (show 12 ≠ 14 by decide), q_u_k (show 12 ≠ 13 by decide), hM.1.2.2.2, nI_1]
                by_cases w : mo = 0
                · subst w; rw [if_pos (show nI 0 = (0 : Int32) from rfl)]; exact e103
                · have : mo = 1 := by omega
                  subst this
                  rw [if_neg (by decide)]
                  exact e103
              rw [if_pos (by rw [show (6 : Int32) = nI 6 from rfl, a_lt (by omega) (by omega)]; exact q), k1, a_b1, if_neg (show ¬ nI (V 11 0) = (6 : Int32) from fun k => by
                have := (a_eq (b := 6) (by omega) (by omega)).mp k
                omega), a_gd hi, a_lt', hc, q_u_k (show 12 ≠ 13 by decide), hM.1.2.2.2, a_gd hi, a_lt', hc, q_u_k (show 12 ≠ 14 by decide), q_u_k (show 12 ≠ 13 by decide), hM.1.2.2.2, end1, k2 11 0 (by decide), v_say_11]
              exact ⟨_, s2', _, rfl, rfl, h'.upd k2 (hW.say q xb y9 hmo) (m_say hM hW q hmo) (by rw [q_u_k (by decide), q_u_k (by decide), q_u_k (by decide), q_u_k (by decide), v_say_k (by decide)]; exact h11) ((((r_fr.rf.u (by decide) (by decide) (by decide)).u (by decide) (by decide) (by decide)).u (by decide) (by decide) (by decide)).u (by decide) (by decide) (by decide)) (fun k => k.say)⟩
            · have : V 11 0 = 6 := by have := hW.2.2.2.2.2.2.1.1; omega
              rw [if_neg (by rw [show (6 : Int32) = nI 6 from rfl, a_lt (by omega) (by omega)]; exact q), if_pos (by rw [this]; rfl)]
              exact no _
        · rw [if_neg (show ¬ nI mu ≤ (99 : Int32) by rw [show (99 : Int32) = nI 99 from rfl, a_le (by omega) (by omega)]; exact y9), if_pos (show (99 : Int32) < nI mu by rw [show (99 : Int32) = nI 99 from rfl, a_lt (by omega) (by omega)]; omega), a_b1, a_0e]
          exact no _
    · rw [if_pos (show nI (2 ^ V 6 0) ≤ nI bb from (a_le (by omega) (by omega)).mpr (by omega)), if_pos (show nI (2 ^ V 6 0 - 1) < nI bb from (a_lt (by omega) (by omega)).mpr (by omega)), a_b1, a_0e]
      exact no _
theorem o_spread {b : Nat} {s0 s1 s2 s3 s4 s5 μ : q_S} (h : r_R b s0 s1 s2 s3 μ) (x : Int32) : ∃ r s0' s4' s5' μ', zX3_spread s0 s2 s4 s5 x = some (r, s0', s4', s5') ∧ zX4_spread μ x = some (r, μ') ∧ r_R (b + 1) s0' s1 s2 s3 μ' := by
  have hup := h.up
  obtain ⟨V, K, n, c, vr, sp, h⟩ := h
  have h' := h
  obtain ⟨⟨hA, hW, hM, h11⟩, ⟨hR, hP⟩, h3, h6, h9⟩ := h
  have hE := hW.E
  have hL := hW.L
  have no : ∀ r : Int32, ∃ r' s0' s4' s5' μ', some (r, s0, s4, s5) = some (r', s0', s4', s5') ∧ some (r, μ) = some (r', μ') ∧ r_R (b + 1) s0' s1 s2 s3 μ' := fun r => ⟨r, s0, s4, s5, μ, rfl, rfl, hup⟩
  have yes : ∀ (w : Option Nat) (v2 : Int32), (∀ i, w = some i → i < 8 ∧ v2 = nI i) → ∃ r s0' s4' s5' μ', zX3_spread_34 s0 s2 s4 s5 v2 (s_w2 w) = some (r, s0', s4', s5') ∧ zX4_spread_18 μ (s_x w) = some (r, μ') ∧ r_R (b + 1) s0' s1 s2 s3 μ' := by
    intro w v2 hw
    unfold zX4_spread_18
    rw [hM.1.1, h6.2.1]
    by_cases z : V 0 0 = 0
    · unfold zX3_spread_34
      rw [c_isRead hA hW, a_b1, if_pos z, a_0e, if_pos (by rw [z]; rfl)]
      exact no _
    · rw [if_neg (fun k => z ((a_z0 (by omega)).mp k))]
      by_cases q : sp < 12
      · obtain ⟨s4', s5', k1⟩ := c_spread34 (σ0 := s0) (σ4 := s4) (σ5 := s5) hA hW z q h6.1 w v2 hw
        have hM2 : m_A (q_u μ 16 0 (nI (sp + 1))) V := hM.fr (fun k a1 a2 => q_u_k (by omega))
        obtain ⟨μ', k2, k3⟩ := m_spreadNow hM2 hW (w := w) (fun i hi => (hw i hi).1)
        rw [k1, if_neg (show ¬ nI sp = (12 : Int32) from fun k => by
          have := (a_eq (b := 12) (by omega) (by omega)).mp k
          omega), a_lt', nI_1, k2, a_b2]
        refine ⟨_, _, s4', s5', μ', rfl, rfl, V, K, n, c, vr, sp + 1, ⟨hA, hW, k3.A hM2 hE, ?_⟩, ⟨hR, ?_⟩, ⟨?_, ?_, by omega⟩, ⟨q_u_s, ?_, by omega⟩, ?_⟩
        · rw [k3 11 0 (by decide) (by decide) (by decide), q_u_k (by decide)]; exact h11
        · exact hP.fr (by rw [k3 17 0 (by decide) (by decide) (by decide), q_u_k (by decide)]) (fun j => by rw [k3 18 j (by omega) (by omega) (by omega), q_u_k (by decide)])
        · rw [q_u_k (by decide)]; exact h3.1
        · rw [k3 0 0 (by decide) (by decide) (by decide), q_u_k (by decide)]; exact h3.2.1
        · rw [k3 16 0 (by decide) (by decide) (by decide), q_u_s]
        · have := h9.fr (μ' := μ') (V' := V) (fun k j hk => by rw [k3 k j (by omega) (by omega) (by omega), q_u_k (by omega)]) id
          unfold r_I at this ⊢
          rw [q_u_k (by decide)]
          exact this
      · unfold zX3_spread_34
        have : sp = 12 := by have := h6.2.2; omega
        rw [c_isRead hA hW, a_b1, if_neg z, a_1e, h6.1, if_neg (by rw [show (12 : Int32) = nI 12 from rfl, a_lt (by omega) (by omega)]; exact q), if_pos (by rw [this]; rfl)]
        exact no _
  unfold zX3_spread zX4_spread zX3_spread_21 zX3_spread_22 zX4_within
  rw [a_lt']
  by_cases x10 : x < 10
  · rw [if_pos x10]
    by_cases x0 : x = 0
    · rw [if_pos x0, if_pos x0]
      have := yes none (x - 10) (fun i hi => by cases hi)
      rw [x0] at this ⊢
      exact this
    · rw [if_neg x0, if_neg x0, a_0e, if_pos x10, a_b1, a_0e]
      exact no _
  · have xn : ¬ x < 0 := fun k => x10 (Int32.lt_trans k (by decide))
    obtain ⟨a, ha, rfl⟩ := nI_of xn
    rw [show (10 : Int32) = nI 10 from rfl, a_lt (by omega) (by omega)] at x10
    have hx0 : ¬ nI a = (0 : Int32) := fun k => by
      have := (a_z0 (by omega)).mp k
      omega
    have h10 : ¬ nI a < (10 : Int32) := by rw [show (10 : Int32) = nI 10 from rfl, a_lt (by omega) (by omega)]; exact x10
    have hs : nI a - (10 : Int32) = nI (a - 10) := pk_sub (b := 10) (by omega)
    rw [if_neg h10, hs]
    by_cases x17 : a ≤ 17
    · rw [if_neg (show ¬ (8 : Int32) ≤ nI (a - 10) by rw [show (8 : Int32) = nI 8 from rfl, a_le (by omega) (by omega)]; omega), if_neg hx0, a_1e, if_neg hx0, if_neg h10, if_neg (show ¬ (17 : Int32) < nI a by rw [show (17 : Int32) = nI 17 from rfl, a_lt (by omega) (by omega)]; omega), a_b1, a_1e]
      have := yes (some (a - 10)) (nI (a - 10)) (fun i hi => by
        injection hi with hi
        exact ⟨by omega, by rw [hi]⟩)
      have e : s_x (some (a - 10)) = nI a := by
        show nI (10 + (a - 10)) = _
        rw [show 10 + (a - 10) = a by omega]
      rw [e] at this
      exact this
    · rw [if_pos (show (8 : Int32) ≤ nI (a - 10) by rw [show (8 : Int32) = nI 8 from rfl, a_le (by omega) (by omega)]; omega), if_neg hx0, a_0e, if_neg hx0, if_neg h10, if_pos (show (17 : Int32) < nI a by rw [show (17 : Int32) = nI 17 from rfl, a_lt (by omega) (by omega)]; omega), a_b1, a_0e]
      exact no _
theorem o_winters {b : Nat} {s0 s1 s2 s3 s4 μ : q_S} {g : q_G} (h : r_R b s0 s1 s2 s3 μ) (x y v : Int32) : ∃ r s4' g' μ', zX3_winters s2 s4 x y v = some (r, s4') ∧ zX4_winters μ g x y v = some (r, g', μ') ∧ r_R (b + 1) s0 s1 s2 s3 μ' := by
  have hup := h.up
  obtain ⟨V, K, n, c, vr, sp, h⟩ := h
  have h' := h
  obtain ⟨⟨hA, hW, hM, h11⟩, h2, h3, h6, h9⟩ := h
  have hE := hW.E
  have no : ∀ r : Int32, ∃ r' s4' g' μ', some (r, s4) = some (r', s4') ∧ some (r, g, μ) = some (r', g', μ') ∧ r_R (b + 1) s0 s1 s2 s3 μ' := fun r => ⟨r, s4, g, μ, rfl, rfl, hup⟩
  by_cases x1 : x < 1
  · unfold zX3_winters zX4_winters zX4_within
    rw [if_pos x1, if_pos x1, a_b1, a_0e]
    exact no _
  · by_cases x60 : (60 : Int32) < x
    · unfold zX3_winters zX4_winters zX4_within
      rw [if_neg x1, if_neg x1, if_pos x60, if_pos x60, a_b1, a_0e]
      exact no _
    · by_cases y0 : y < 0
      · unfold zX3_winters zX4_winters zX4_within
        rw [if_neg x1, if_neg x1, if_neg x60, if_neg x60, a_b1, a_1e, if_pos y0, if_pos y0]
        exact no _
      · by_cases v0 : v < 0
        · unfold zX3_winters zX4_winters zX4_within
          rw [if_neg x1, if_neg x1, if_neg x60, if_neg x60, a_b1, a_1e, if_neg y0, if_neg y0, if_pos v0, if_pos v0, a_b1, a_0e]
          exact no _
        · by_cases v2 : v ≤ 2
          · have v2' : ¬ (2 : Int32) < v := Int32.not_lt.mpr v2
            by_cases z : V 0 0 = 0
            · unfold zX3_winters zX4_winters zX4_within
              rw [if_neg x1, if_neg x1, if_neg x60, if_neg x60, a_b1, a_1e, if_neg y0, if_neg y0, if_neg v0, if_neg v0, if_pos v2, if_neg v2', a_b1, a_1e, c_isRead hA hW, a_b1, if_pos z, a_0e, hM.1.1, if_pos (by rw [z]; rfl)]
              exact no _
            · have xn : ¬ x < 0 := fun k => x1 (Int32.lt_trans k (by decide))
              obtain ⟨t, ht, rfl⟩ := nI_of xn
              obtain ⟨s, hs, rfl⟩ := nI_of y0
              have t1 : 1 ≤ t := by
                rw [show (1 : Int32) = nI 1 from rfl, a_lt (by omega) (by omega)] at x1
                omega
              have t60 : t ≤ 60 := by
                rw [show (60 : Int32) = nI 60 from rfl, a_lt (by omega) (by omega)] at x60
                omega
              obtain ⟨s4', k1⟩ := c_winters (σ4 := s4) hA hW z t1 t60 hs v0 v2
              obtain ⟨g', μ', k2, k3⟩ := m_wintersNow (g := g) hM hW z t1 t60 hs v
              refine ⟨_, s4', g', μ', k1, ?_, h'.upd hA hW (k3.A hM hE) (by rw [k3 11 0 (by decide) (by decide) (by decide)]; exact h11) (r_fr.z k3) id⟩
              unfold zX4_winters zX4_within
              rw [if_neg x1, if_neg x60, a_b1, a_1e, if_neg y0, if_neg v0, if_neg v2', a_b1, a_1e, hM.1.1, if_neg (fun k => z ((a_z0 (by omega)).mp k)), k2, a_b3]
          · have v2' : (2 : Int32) < v := Int32.not_le.mp v2
            unfold zX3_winters zX4_winters zX4_within
            rw [if_neg x1, if_neg x1, if_neg x60, if_neg x60, a_b1, a_1e, if_neg y0, if_neg y0, if_neg v0, if_neg v0, if_neg v2, if_pos v2', a_b1, a_0e]
            exact no _
