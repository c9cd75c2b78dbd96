/-! image, restore, count -/
theorem m_img2 {μ0 : q_S} : ∀ (d i : Nat), i + d = 6 → ∀ (n : Nat), d < n → ∀ (μ : q_S), (∀ k, k < 37 → μ k = μ0 k) → (∀ j, j < i → μ 37 j = μ0 13 j ∧ μ 38 j = μ0 14 j ∧ μ 39 j = μ0 15 j) → ∃ μ', zX4_image_118 n μ (nI i) = (q_b1 (zX4_leftMany μ') fun x2 => some (μ' 7 0 - x2, μ')) ∧ (∀ k, k < 37 → μ' k = μ0 k) ∧ (∀ j, j < 6 → μ' 37 j = μ0 13 j ∧ μ' 38 j = μ0 14 j ∧ μ' 39 j = μ0 15 j) := by
  intro d
  induction d with
  | zero =>
    intro i hi n hn μ h1 h2
    obtain ⟨n, rfl⟩ : ∃ k, n = k + 1 := ⟨n - 1, by omega⟩
    have : i = 6 := by omega
    subst this
    refine ⟨μ, ?_, h1, h2⟩
    rw [zX4_image_118_s]
    unfold jX4_image_118
    rw [if_pos (by decide)]
  | succ d ih =>
    intro i hi n hn μ h1 h2
    obtain ⟨n, rfl⟩ : ∃ k, n = k + 1 := ⟨n - 1, by omega⟩
    have hg : q_ib (nI i) 6 = true := a_ib (by omega) (by omega)
    rw [zX4_image_118_s]
    unfold jX4_image_118
    simp only [a_gd hg, a_lt', a_cl (show i < 2 ^ 31 by omega), nI_1]
    rw [if_neg (by rw [show (6 : Int32) = nI 6 from rfl, a_le (by omega) (by omega)]; omega)]
    refine ih (i + 1) (by omega) n (by omega) _ (fun k hk => ?_) (fun j hj => ?_)
    · rw [q_u_k (by omega), q_u_k (by omega), q_u_k (by omega)]; exact h1 k hk
    · rw [q_u_k (show 37 ≠ 39 by decide), q_u_k (show 37 ≠ 38 by decide), q_u_if, q_u_k (show 38 ≠ 39 by decide), q_u_if, q_u_if, q_u_k (show 15 ≠ 38 by decide), q_u_k (show 15 ≠ 37 by decide), q_u_k (show 14 ≠ 37 by decide), h1 13 (by decide), h1 14 (by decide), h1 15 (by decide), q_u_k (show 38 ≠ 37 by decide), q_u_k (show 39 ≠ 38 by decide), q_u_k (show 39 ≠ 37 by decide)]
      by_cases z : j = i
      · rw [if_pos z, if_pos z, if_pos z, z]
        exact ⟨rfl, rfl, rfl⟩
      · rw [if_neg z, if_neg z, if_neg z]
        exact h2 j (by omega)
theorem m_img1 {μ0 : q_S} : ∀ (d i : Nat), i + d = 4 → ∀ (n : Nat), d < n → ∀ (μ : q_S), (∀ k, k < 33 → μ k = μ0 k) → (∀ j, j < i → μ 33 j = μ0 3 j ∧ μ 34 j = vp_nar .boolean (μ0 4 j) ∧ μ 35 j = μ0 5 j ∧ μ 36 j = μ0 6 j) → ∃ μ', zX4_image_57 n μ (nI i) = (q_b1 (zX4_leftMany μ') fun x2 => some (μ' 7 0 - x2, μ')) ∧ (∀ k, k < 33 → μ' k = μ0 k) ∧ (∀ j, j < 4 → μ' 33 j = μ0 3 j ∧ μ' 34 j = vp_nar .boolean (μ0 4 j) ∧ μ' 35 j = μ0 5 j ∧ μ' 36 j = μ0 6 j) ∧ (∀ j, j < 6 → μ' 37 j = μ0 13 j ∧ μ' 38 j = μ0 14 j ∧ μ' 39 j = μ0 15 j) := by
  intro d
  induction d with
  | zero =>
    intro i hi n hn μ h1 h2
    obtain ⟨n, rfl⟩ : ∃ k, n = k + 1 := ⟨n - 1, by omega⟩
    have : i = 4 := by omega
    subst this
    obtain ⟨μ', r1, r2, r3⟩ := m_img2 (μ0 := μ) 6 0 rfl 70000 (by omega) μ (fun _ _ => rfl) (fun j hj => by omega)
    refine ⟨μ', ?_, fun k hk => (r2 k (by omega)).trans (h1 k hk), fun j hj => ?_, fun j hj => ?_⟩
    · rw [zX4_image_57_s]
      unfold jX4_image_57
      rw [if_pos (by decide)]
      exact r1
    · rw [r2 33 (by decide), r2 34 (by decide), r2 35 (by decide), r2 36 (by decide)]
      exact h2 j hj
    · rw [← h1 13 (by decide), ← h1 14 (by decide), ← h1 15 (by decide)]
      exact r3 j hj
  | succ d ih =>
    intro i hi n hn μ h1 h2
    obtain ⟨n, rfl⟩ : ∃ k, n = k + 1 := ⟨n - 1, by omega⟩
    have hg : q_ib (nI i) 4 = true := a_ib (by omega) (by omega)
    rw [zX4_image_57_s]
    unfold jX4_image_57
    simp only [a_gd hg, a_lt', a_cl (show i < 2 ^ 31 by omega), nI_1]
    rw [if_neg (by rw [show (4 : Int32) = nI 4 from rfl, a_le (by omega) (by omega)]; omega)]
    refine ih (i + 1) (by omega) n (by omega) _ (fun k hk => ?_) (fun j hj => ?_)
    · rw [q_u_k (by omega), q_u_k (by omega), q_u_k (by omega), q_u_k (by omega)]; exact h1 k hk
    · rw [q_u_k (show 33 ≠ 36 by decide), q_u_k (show 33 ≠ 35 by decide), q_u_k (show 33 ≠ 34 by decide), q_u_if, q_u_k (show 34 ≠ 36 by decide), q_u_k (show 34 ≠ 35 by decide), q_u_if, q_u_k (show 35 ≠ 36 by decide), q_u_if, q_u_if, q_u_k (show 4 ≠ 33 by decide), q_u_k (show 5 ≠ 34 by decide), q_u_k (show 5 ≠ 33 by decide), q_u_k (show 6 ≠ 35 by decide), q_u_k (show 6 ≠ 34 by decide), q_u_k (show 6 ≠ 33 by decide), h1 3 (by decide), h1 4 (by decide), h1 5 (by decide), h1 6 (by decide), q_u_k (show 34 ≠ 33 by decide), q_u_k (show 35 ≠ 34 by decide), q_u_k (show 35 ≠ 33 by decide), q_u_k (show 36 ≠ 35 by decide), q_u_k (show 36 ≠ 34 by decide), q_u_k (show 36 ≠ 33 by decide)]
      by_cases z : j = i
      · rw [if_pos z, if_pos z, if_pos z, if_pos z, z]
        exact ⟨rfl, rfl, rfl, rfl⟩
      · rw [if_neg z, if_neg z, if_neg z, if_neg z]
        exact h2 j (by omega)
theorem a_nb01 {b : Bool} : vp_nar .boolean (if b = true then (1 : Int32) else 0) = if b = true then 1 else 0 := by cases b <;> decide
theorem r_C.rf {V : q_V} : r_C V V := ⟨rfl, Nat.le_refl _, fun _ _ => rfl, fun _ _ => ⟨rfl, rfl⟩⟩
theorem o_image {b : Nat} {s0 s1 s2 s3 μ : q_S} (h : r_R b s0 s1 s2 s3 μ) : ∃ r s0' s3' μ', zX3_image s0 s2 s3 = some (r, s0', s3') ∧ zX4_image μ = some (r, μ') ∧ r_R (b + 1) s0' s1 s2 s3' μ' := by
  have hup := h.up
  obtain ⟨V, K, n, c, vr, sp, h⟩ := h
  obtain ⟨⟨hA, hW, hM, h11⟩, ⟨hR, hP⟩, h3, h6, h9⟩ := h
  have hE := hW.E
  have hbL := hW.bL
  have hsd := hW.2.2.2.2.2.2.1.1
  unfold zX3_image zX4_image
  rw [c_isRead hA hW, a_b1, hM.1.1]
  by_cases z : V 0 0 = 0
  · rw [if_pos z, a_0e, if_pos (by rw [z]; rfl)]
    exact ⟨_, s0, s3, μ, rfl, rfl, hup⟩
  · obtain ⟨s3', k1, k2⟩ := c_copyFrom (σ0 := s3) hA hW
    rw [if_neg z, a_1e, if_neg (fun k => z ((a_z0 (by omega)).mp k)), k1, a_b1, a_lt', k2 7 0 (by decide), a_pc _ (by omega), a_b1]
    rw [a_lt', a_lt', a_lt', a_lt', a_lt', a_lt']
    obtain ⟨μ', r1, r2, r3, r4⟩ := m_img1 (μ0 := q_u (q_u (q_u (q_u (q_u (q_u μ 27 0 1) 28 0 (q_u μ 27 0 1 0 0)) 29 0 (q_u (q_u μ 27 0 1) 28 0 (q_u μ 27 0 1 0 0) 7 0)) 30 0 (q_u (q_u (q_u μ 27 0 1) 28 0 (q_u μ 27 0 1 0 0)) 29 0 (q_u (q_u μ 27 0 1) 28 0 (q_u μ 27 0 1 0 0) 7 0) 10 0)) 31 0 (q_u (q_u (q_u (q_u μ 27 0 1) 28 0 (q_u μ 27 0 1 0 0)) 29 0 (q_u (q_u μ 27 0 1) 28 0 (q_u μ 27 0 1 0 0) 7 0)) 30 0 (q_u (q_u (q_u μ 27 0 1) 28 0 (q_u μ 27 0 1 0 0)) 29 0 (q_u (q_u μ 27 0 1) 28 0 (q_u μ 27 0 1 0 0) 7 0) 10 0) 11 0)) 32 0 (q_u (q_u (q_u (q_u (q_u μ 27 0 1) 28 0 (q_u μ 27 0 1 0 0)) 29 0 (q_u (q_u μ 27 0 1) 28 0 (q_u μ 27 0 1 0 0) 7 0)) 30 0 (q_u (q_u (q_u μ 27 0 1) 28 0 (q_u μ 27 0 1 0 0)) 29 0 (q_u (q_u μ 27 0 1) 28 0 (q_u μ 27 0 1 0 0) 7 0) 10 0)) 31 0 (q_u (q_u (q_u (q_u μ 27 0 1) 28 0 (q_u μ 27 0 1 0 0)) 29 0 (q_u (q_u μ 27 0 1) 28 0 (q_u μ 27 0 1 0 0) 7 0)) 30 0 (q_u (q_u (q_u μ 27 0 1) 28 0 (q_u μ 27 0 1 0 0)) 29 0 (q_u (q_u μ 27 0 1) 28 0 (q_u μ 27 0 1 0 0) 7 0) 10 0) 11 0) 12 0)) 4 0 rfl 70000 (by omega) _ (fun _ _ => rfl) (fun j hj => by omega)
    have fr : ∀ k, k < 27 → μ' k = μ k := fun k hk => by
      rw [r2 k (by omega), q_u_k (by omega), q_u_k (by omega), q_u_k (by omega), q_u_k (by omega), q_u_k (by omega), q_u_k (by omega)]
    have e27 : μ' 27 0 = 1 := by
      rw [r2 27 (by decide), q_u_k (by decide), q_u_k (by decide), q_u_k (by decide), q_u_k (by decide), q_u_k (by decide), q_u_s]
    have e28 : μ' 28 0 = μ 0 0 := by
      rw [r2 28 (by decide), q_u_k (by decide), q_u_k (by decide), q_u_k (by decide), q_u_k (by decide), q_u_s, q_u_k (by decide)]
    have e29 : μ' 29 0 = μ 7 0 := by
      rw [r2 29 (by decide), q_u_k (by decide), q_u_k (by decide), q_u_k (by decide), q_u_s, q_u_k (by decide), q_u_k (by decide)]
    have e30 : μ' 30 0 = μ 10 0 := by
      rw [r2 30 (by decide), q_u_k (by decide), q_u_k (by decide), q_u_s, q_u_k (by decide), q_u_k (by decide), q_u_k (by decide)]
    have e31 : μ' 31 0 = μ 11 0 := by
      rw [r2 31 (by decide), q_u_k (by decide), q_u_s, q_u_k (by decide), q_u_k (by decide), q_u_k (by decide), q_u_k (by decide)]
    have e32 : μ' 32 0 = μ 12 0 := by
      rw [r2 32 (by decide), q_u_s, q_u_k (by decide), q_u_k (by decide), q_u_k (by decide), q_u_k (by decide), q_u_k (by decide)]
    have fr0 : ∀ k, k < 27 → ∀ j, (q_u (q_u (q_u (q_u (q_u (q_u μ 27 0 1) 28 0 (q_u μ 27 0 1 0 0)) 29 0 (q_u (q_u μ 27 0 1) 28 0 (q_u μ 27 0 1 0 0) 7 0)) 30 0 (q_u (q_u (q_u μ 27 0 1) 28 0 (q_u μ 27 0 1 0 0)) 29 0 (q_u (q_u μ 27 0 1) 28 0 (q_u μ 27 0 1 0 0) 7 0) 10 0)) 31 0 (q_u (q_u (q_u (q_u μ 27 0 1) 28 0 (q_u μ 27 0 1 0 0)) 29 0 (q_u (q_u μ 27 0 1) 28 0 (q_u μ 27 0 1 0 0) 7 0)) 30 0 (q_u (q_u (q_u μ 27 0 1) 28 0 (q_u μ 27 0 1 0 0)) 29 0 (q_u (q_u μ 27 0 1) 28 0 (q_u μ 27 0 1 0 0) 7 0) 10 0) 11 0)) 32 0 (q_u (q_u (q_u (q_u (q_u μ 27 0 1) 28 0 (q_u μ 27 0 1 0 0)) 29 0 (q_u (q_u μ 27 0 1) 28 0 (q_u μ 27 0 1 0 0) 7 0)) 30 0 (q_u (q_u (q_u μ 27 0 1) 28 0 (q_u μ 27 0 1 0 0)) 29 0 (q_u (q_u μ 27 0 1) 28 0 (q_u μ 27 0 1 0 0) 7 0) 10 0)) 31 0 (q_u (q_u (q_u (q_u μ 27 0 1) 28 0 (q_u μ 27 0 1 0 0)) 29 0 (q_u (q_u μ 27 0 1) 28 0 (q_u μ 27 0 1 0 0) 7 0)) 30 0 (q_u (q_u (q_u μ 27 0 1) 28 0 (q_u μ 27 0 1 0 0)) 29 0 (q_u (q_u μ 27 0 1) 28 0 (q_u μ 27 0 1 0 0) 7 0) 10 0) 11 0) 12 0)) k j = μ k j := fun k hk j => by
      rw [q_u_k (by omega), q_u_k (by omega), q_u_k (by omega), q_u_k (by omega), q_u_k (by omega), q_u_k (by omega)]
    have hM' : m_A μ' V := hM.fr (fun k a a' => fr k (by omega))
    refine ⟨_, _, s3', μ', rfl, Eq.trans r1 ?_, V, V, n, c, vr, sp, ⟨hA, hW, hM', by rw [fr 11 (by decide)]; exact h11⟩, ⟨hR, hP.fr (by rw [fr 17 (by decide)]) (fun j => by rw [fr 18 (by decide)])⟩, ⟨by rw [q_u_k (by decide)]; exact h3.1, by rw [fr 0 (by decide)]; exact h3.2.1, by omega⟩, ⟨by rw [q_u_k (by decide)]; exact h6.1, by rw [fr 16 (by decide)]; exact h6.2.1, h6.2.2⟩, Or.inr ⟨q_u_s, e27, e28.trans h3.2.1, k2, hW, ⟨⟨e29.trans hM.1.2.1, e30.trans hM.1.2.2.1, e31.trans h11, e32.trans hM.1.2.2.2⟩, fun e he => ?_, fun k hk => ?_⟩, r_C.rf⟩⟩
    · rw [m_leftMany hM' hW, a_b1, hM'.1.2.1, m_eatenMany hW]
    · obtain ⟨t1, t2, t3, t4⟩ := r3 e (by omega)
      obtain ⟨f2, f3, f4, f5, f6⟩ := hM.2.1 e he
      rw [t1, t2, t3, t4, fr0 3 (by decide), fr0 4 (by decide), fr0 5 (by decide), fr0 6 (by decide), f3, f4, f5, f6, a_nb01]
      exact ⟨rfl, rfl, rfl, rfl⟩
    · obtain ⟨t1, t2, t3⟩ := r4 k (by omega)
      rw [t1, t2, t3, fr0 13 (by decide), fr0 14 (by decide), fr0 15 (by decide)]
      exact hM.2.2.2 k hk
theorem m_res2 {μ0 : q_S} : ∀ (d i : Nat), i + d = 6 → ∀ (n : Nat), d < n → ∀ (μ : q_S), (∀ k, k ≠ 13 → k ≠ 14 → k ≠ 15 → μ k = μ0 k) → (∀ j, j < i → μ 13 j = μ0 37 j ∧ μ 14 j = μ0 38 j ∧ μ 15 j = μ0 39 j) → ∃ μ', zX4_restore_116 n μ (nI i) = (q_b1 (zX4_leftMany μ') fun x2 => some (μ' 7 0 - x2, μ')) ∧ (∀ k, k ≠ 13 → k ≠ 14 → k ≠ 15 → μ' k = μ0 k) ∧ (∀ j, j < 6 → μ' 13 j = μ0 37 j ∧ μ' 14 j = μ0 38 j ∧ μ' 15 j = μ0 39 j) := by
  intro d
  induction d with
  | zero =>
    intro i hi n hn μ h1 h2
    obtain ⟨n, rfl⟩ : ∃ k, n = k + 1 := ⟨n - 1, by omega⟩
    have : i = 6 := by omega
    subst this
    refine ⟨μ, ?_, h1, h2⟩
    rw [zX4_restore_116_s]
    unfold jX4_restore_116
    rw [if_pos (by decide)]
  | succ d ih =>
    intro i hi n hn μ h1 h2
    obtain ⟨n, rfl⟩ : ∃ k, n = k + 1 := ⟨n - 1, by omega⟩
    have hg : q_ib (nI i) 6 = true := a_ib (by omega) (by omega)
    rw [zX4_restore_116_s]
    unfold jX4_restore_116
    simp only [a_gd hg, a_lt', a_cl (show i < 2 ^ 31 by omega), nI_1]
    rw [if_neg (by rw [show (6 : Int32) = nI 6 from rfl, a_le (by omega) (by omega)]; omega)]
    refine ih (i + 1) (by omega) n (by omega) _ (fun k k1 k2 k3 => ?_) (fun j hj => ?_)
    · rw [q_u_k k3, q_u_k k2, q_u_k k1]; exact h1 k k1 k2 k3
    · rw [q_u_k (show 13 ≠ 15 by decide), q_u_k (show 13 ≠ 14 by decide), q_u_if, q_u_k (show 14 ≠ 15 by decide), q_u_if, q_u_if, q_u_k (show 39 ≠ 14 by decide), q_u_k (show 39 ≠ 13 by decide), q_u_k (show 38 ≠ 13 by decide), h1 37 (by decide) (by decide) (by decide), h1 38 (by decide) (by decide) (by decide), h1 39 (by decide) (by decide) (by decide), q_u_k (show 14 ≠ 13 by decide), q_u_k (show 15 ≠ 14 by decide), q_u_k (show 15 ≠ 13 by decide)]
      by_cases z : j = i
      · rw [if_pos z, if_pos z, if_pos z, z]
        exact ⟨rfl, rfl, rfl⟩
      · rw [if_neg z, if_neg z, if_neg z]
        exact h2 j (by omega)
theorem m_res1 {μ0 : q_S} : ∀ (d i : Nat), i + d = 4 → ∀ (n : Nat), d < n → ∀ (μ : q_S), (∀ k, k ≠ 3 → k ≠ 4 → k ≠ 5 → k ≠ 6 → μ k = μ0 k) → (∀ j, j < i → μ 3 j = μ0 33 j ∧ μ 4 j = vp_nar .boolean (μ0 34 j) ∧ μ 5 j = μ0 35 j ∧ μ 6 j = μ0 36 j) → ∃ μ', zX4_restore_55 n μ (nI i) = (q_b1 (zX4_leftMany μ') fun x2 => some (μ' 7 0 - x2, μ')) ∧ (∀ k, k ≠ 3 → k ≠ 4 → k ≠ 5 → k ≠ 6 → k ≠ 13 → k ≠ 14 → k ≠ 15 → μ' k = μ0 k) ∧ (∀ j, j < 4 → μ' 3 j = μ0 33 j ∧ μ' 4 j = vp_nar .boolean (μ0 34 j) ∧ μ' 5 j = μ0 35 j ∧ μ' 6 j = μ0 36 j) ∧ (∀ j, j < 6 → μ' 13 j = μ0 37 j ∧ μ' 14 j = μ0 38 j ∧ μ' 15 j = μ0 39 j) := by
  intro d
  induction d with
  | zero =>
    intro i hi n hn μ h1 h2
    obtain ⟨n, rfl⟩ : ∃ k, n = k + 1 := ⟨n - 1, by omega⟩
    have : i = 4 := by omega
    subst this
    obtain ⟨μ', r1, r2, r3⟩ := m_res2 (μ0 := μ) 6 0 rfl 70000 (by omega) μ (fun _ _ _ _ => rfl) (fun j hj => by omega)
    refine ⟨μ', ?_, fun k k3 k4 k5 k6 k13 k14 k15 => (r2 k k13 k14 k15).trans (h1 k k3 k4 k5 k6), fun j hj => ?_, fun j hj => ?_⟩
    · rw [zX4_restore_55_s]
      unfold jX4_restore_55
      rw [if_pos (by decide)]
      exact r1
    · rw [r2 3 (by decide) (by decide) (by decide), r2 4 (by decide) (by decide) (by decide), r2 5 (by decide) (by decide) (by decide), r2 6 (by decide) (by decide) (by decide)]
      exact h2 j hj
    · rw [← h1 37 (by decide) (by decide) (by decide) (by decide), ← h1 38 (by decide) (by decide) (by decide) (by decide), ← h1 39 (by decide) (by decide) (by decide) (by decide)]
      exact r3 j hj
  | succ d ih =>
    intro i hi n hn μ h1 h2
    obtain ⟨n, rfl⟩ : ∃ k, n = k + 1 := ⟨n - 1, by omega⟩
    have hg : q_ib (nI i) 4 = true := a_ib (by omega) (by omega)
    rw [zX4_restore_55_s]
    unfold jX4_restore_55
    simp only [a_gd hg, a_lt', a_cl (show i < 2 ^ 31 by omega), nI_1]
    rw [if_neg (by rw [show (4 : Int32) = nI 4 from rfl, a_le (by omega) (by omega)]; omega)]
    refine ih (i + 1) (by omega) n (by omega) _ (fun k k3 k4 k5 k6 => ?_) (fun j hj => ?_)
    · rw [q_u_k k6, q_u_k k5, q_u_k k4, q_u_k k3]; exact h1 k k3 k4 k5 k6
    · rw [q_u_k (show 3 ≠ 6 by decide), q_u_k (show 3 ≠ 5 by decide), q_u_k (show 3 ≠ 4 by decide), q_u_if, q_u_k (show 4 ≠ 6 by decide), q_u_k (show 4 ≠ 5 by decide), q_u_if, q_u_k (show 5 ≠ 6 by decide), q_u_if, q_u_if, q_u_k (show 34 ≠ 3 by decide), q_u_k (show 35 ≠ 4 by decide), q_u_k (show 35 ≠ 3 by decide), q_u_k (show 36 ≠ 5 by decide), q_u_k (show 36 ≠ 4 by decide), q_u_k (show 36 ≠ 3 by decide), h1 33 (by decide) (by decide) (by decide) (by decide), h1 34 (by decide) (by decide) (by decide) (by decide), h1 35 (by decide) (by decide) (by decide) (by decide), h1 36 (by decide) (by decide) (by decide) (by decide), q_u_k (show 4 ≠ 3 by decide), q_u_k (show 5 ≠ 4 by decide), q_u_k (show 5 ≠ 3 by decide), q_u_k (show 6 ≠ 5 by decide), q_u_k (show 6 ≠ 4 by decide), q_u_k (show 6 ≠ 3 by decide)]
      by_cases z : j = i
      · rw [if_pos z, if_pos z, if_pos z, if_pos z, z]
        exact ⟨rfl, rfl, rfl, rfl⟩
      · rw [if_neg z, if_neg z, if_neg z, if_neg z]
        exact h2 j (by omega)
theorem o_restore {b : Nat} {s0 s1 s2 s3 μ : q_S} (hb : b < 1000) (h : r_R b s0 s1 s2 s3 μ) : ∃ r s2' μ', zX3_restore s0 s2 s3 = some (r, s2') ∧ zX4_restore μ = some (r, μ') ∧ r_R (b + 1) s0 s1 s2' s3 μ' := by
  have hup := h.up
  obtain ⟨V, K, n, c, vr, sp, h⟩ := h
  obtain ⟨⟨hA, hW, hM, h11⟩, ⟨hR, hP⟩, h3, h6, h9⟩ := h
  unfold zX3_restore zX4_restore
  rcases h9 with ⟨a1, a2⟩ | ⟨a1, a2, a3, a4, a5, a6, a7⟩
  · rw [if_pos a1]
    rcases a2 with a2 | ⟨kv, a2, a3⟩
    · rw [if_pos a2]
      exact ⟨_, s2, μ, rfl, rfl, hup⟩
    · by_cases z : μ 27 0 = 0
      · rw [if_pos z]
        exact ⟨_, s2, μ, rfl, rfl, hup⟩
      · rw [if_neg z, a3, h3.2.1, if_neg (show ¬ nI kv = nI vr from fun k => by
          have := (a_eq (by omega) (by omega)).mp k
          omega)]
        exact ⟨_, s2, μ, rfl, rfl, hup⟩
  · obtain ⟨s2', k1, k2⟩ := c_copyFrom (σ0 := s2) a4 a5
    have hbL := a5.bL
    have hE := a5.E
    have hsd := a5.2.2.2.2.2.2.1.1
    obtain ⟨⟨q1, q2, q3, q4⟩, q5, q6⟩ := a6
    obtain ⟨c1, c2, c3, c4⟩ := a7
    rw [if_neg (show ¬ s0 5 0 = 0 by rw [a1]; decide), if_neg (show ¬ μ 27 0 = 0 by rw [a2]; decide), a3, h3.2.1, if_pos rfl, k1, a_b1, k2 7 0 (by decide), a_pc _ (by omega), a_b1]
    rw [a_lt', a_lt', a_lt', a_lt']
    rw [q_u_k (show 30 ≠ 7 by decide), q_u_k (show 31 ≠ 10 by decide), q_u_k (show 31 ≠ 7 by decide), q_u_k (show 32 ≠ 11 by decide), q_u_k (show 32 ≠ 10 by decide), q_u_k (show 32 ≠ 7 by decide), q1, q2, q3, q4]
    obtain ⟨μ', r1, r2, r3, r4⟩ := m_res1 (μ0 := q_u (q_u (q_u (q_u μ 7 0 (nI (K 6 0))) 10 0 (nI (K 7 0))) 11 0 (nI (K 10 0))) 12 0 (nI (K 11 0))) 4 0 rfl 70000 (by omega) _ (fun _ _ _ _ _ => rfl) (fun j hj => by omega)
    have fr : ∀ k, k ≠ 3 → k ≠ 4 → k ≠ 5 → k ≠ 6 → k ≠ 7 → k ≠ 10 → k ≠ 11 → k ≠ 12 → k ≠ 13 → k ≠ 14 → k ≠ 15 → μ' k = μ k := fun k k3 k4 k5 k6 k7 k10 k11 k12 k13 k14 k15 => by
      rw [r2 k k3 k4 k5 k6 k13 k14 k15, q_u_k k12, q_u_k k11, q_u_k k10, q_u_k k7]
    have fb : ∀ k j, 27 ≤ k → (q_u (q_u (q_u (q_u μ 7 0 (nI (K 6 0))) 10 0 (nI (K 7 0))) 11 0 (nI (K 10 0))) 12 0 (nI (K 11 0))) k j = μ k j := fun k j hk => by
      rw [q_u_k (by omega), q_u_k (by omega), q_u_k (by omega), q_u_k (by omega)]
    have fbb : ∀ k j, 27 ≤ k → μ' k j = μ k j := fun k j hk => by
      rw [fr k (by omega) (by omega) (by omega) (by omega) (by omega) (by omega) (by omega) (by omega) (by omega) (by omega) (by omega)]
    have hM' : m_A μ' K := by
      refine ⟨⟨?_, ?_, ?_, ?_⟩, fun e he => ?_, fun l hl => ?_, fun k hk => ?_⟩
      · rw [fr 1 (by decide) (by decide) (by decide) (by decide) (by decide) (by decide) (by decide) (by decide) (by decide) (by decide) (by decide), hM.1.1, c1]
      · rw [r2 7 (by decide) (by decide) (by decide) (by decide) (by decide) (by decide) (by decide), q_u_k (by decide), q_u_k (by decide), q_u_k (by decide), q_u_s]
      · rw [r2 10 (by decide) (by decide) (by decide) (by decide) (by decide) (by decide) (by decide), q_u_k (by decide), q_u_k (by decide), q_u_s]
      · rw [r2 12 (by decide) (by decide) (by decide) (by decide) (by decide) (by decide) (by decide), q_u_s]
      · obtain ⟨t1, t2, t3, t4⟩ := r3 e (by omega)
        obtain ⟨p1, p2, p3, p4⟩ := q5 e he
        rw [fr 2 (by decide) (by decide) (by decide) (by decide) (by decide) (by decide) (by decide) (by decide) (by decide) (by decide) (by decide), t1, t2, t3, t4, fb 33 _ (by decide), fb 34 _ (by decide), fb 35 _ (by decide), fb 36 _ (by decide), p1, p2, p3, p4, a_nb01, c3 e he]
        exact ⟨(hM.2.1 e (by omega)).1, rfl, rfl, rfl, rfl⟩
      · obtain ⟨p1, p2⟩ := c4 l hl
        rw [fr 8 (by decide) (by decide) (by decide) (by decide) (by decide) (by decide) (by decide) (by decide) (by decide) (by decide) (by decide), fr 9 (by decide) (by decide) (by decide) (by decide) (by decide) (by decide) (by decide) (by decide) (by decide) (by decide) (by decide), p1, p2]
        exact hM.2.2.1 l (by omega)
      · obtain ⟨t1, t2, t3⟩ := r4 k (by omega)
        rw [t1, t2, t3, fb 37 _ (by decide), fb 38 _ (by decide), fb 39 _ (by decide)]
        exact q6 k hk
    refine ⟨_, s2', μ', rfl, Eq.trans r1 ?_, K, K, n, c, vr, sp, ⟨k2, a5, hM', ?_⟩, ⟨hR, hP.fr (by rw [fr 17 (by decide) (by decide) (by decide) (by decide) (by decide) (by decide) (by decide) (by decide) (by decide) (by decide) (by decide)]) (fun j => by rw [fr 18 (by decide) (by decide) (by decide) (by decide) (by decide) (by decide) (by decide) (by decide) (by decide) (by decide) (by decide)])⟩, ⟨h3.1, by rw [fr 0 (by decide) (by decide) (by decide) (by decide) (by decide) (by decide) (by decide) (by decide) (by decide) (by decide) (by decide)]; exact h3.2.1, by omega⟩, ⟨h6.1, by rw [fr 16 (by decide) (by decide) (by decide) (by decide) (by decide) (by decide) (by decide) (by decide) (by decide) (by decide) (by decide)]; exact h6.2.1, h6.2.2⟩, Or.inr ⟨a1, by rw [fbb 27 0 (by decide)]; exact a2, by rw [fbb 28 0 (by decide)]; exact a3, a4, a5, m_K.fr (μ := μ) ⟨⟨q1, q2, q3, q4⟩, q5, q6⟩ fbb, r_C.rf⟩⟩
    · rw [m_leftMany hM' a5, a_b1, hM'.1.2.1, m_eatenMany a5]
    · rw [r2 11 (by decide) (by decide) (by decide) (by decide) (by decide) (by decide) (by decide), q_u_k (by decide), q_u_s]
