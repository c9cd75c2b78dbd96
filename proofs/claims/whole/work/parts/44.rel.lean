/-! class and reference side by side -/
def m_K (μ : q_S) (K : q_V) : Prop := (μ 29 0 = nI (K 6 0) ∧ μ 30 0 = nI (K 7 0) ∧ μ 31 0 = nI (K 10 0) ∧ μ 32 0 = nI (K 11 0)) ∧ (∀ e, e < K 0 0 → μ 33 e = nI (K 3 e) ∧ μ 34 e = (if (K 1 0).testBit e then 1 else 0) ∧ μ 35 e = nI (K 4 e) ∧ μ 36 e = nI (K 5 e)) ∧ ∀ k, k < K 11 0 → μ 37 k = nI (K 12 k) ∧ μ 38 k = nI (K 13 k) ∧ μ 39 k = (if (K 14 0).testBit k then 1 else 0)
def r_C (V K : q_V) : Prop := K 0 0 = V 0 0 ∧ K 6 0 ≤ V 6 0 ∧ (∀ e, e < K 0 0 → K 2 e = V 2 e) ∧ ∀ l, l < K 6 0 → K 8 l = V 8 l ∧ K 9 l = V 9 l
def r_I (s0 s3 μ : q_S) (V K : q_V) (vr : Nat) : Prop := (s0 5 0 = 0 ∧ (μ 27 0 = 0 ∨ ∃ kv, kv < vr ∧ μ 28 0 = nI kv)) ∨ (s0 5 0 = 1 ∧ μ 27 0 = 1 ∧ μ 28 0 = nI vr ∧ v_A s3 K ∧ v_W K ∧ m_K μ K ∧ r_C V K)
def r_r (b : Nat) (s0 s1 s2 s3 μ : q_S) (V K : q_V) (n : Nat) (c : Nat → Nat) (vr sp : Nat) : Prop := (v_A s2 V ∧ v_W V ∧ m_A μ V ∧ μ 11 0 = nI (V 10 0)) ∧ (p_R s1 n c ∧ p_M μ n c) ∧ (s0 6 0 = nI vr ∧ μ 0 0 = nI vr ∧ vr ≤ b) ∧ (s0 7 0 = nI sp ∧ μ 16 0 = nI sp ∧ sp ≤ 12) ∧ r_I s0 s3 μ V K vr
def r_R (b : Nat) (s0 s1 s2 s3 μ : q_S) : Prop := ∃ V K n c vr sp, r_r b s0 s1 s2 s3 μ V K n c vr sp
def r_fr (μ μ' : q_S) : Prop := ∀ k, (k = 0 ∨ (16 ≤ k ∧ k ≤ 18) ∨ 27 ≤ k) → ∀ j, μ' k j = μ k j
theorem r_fr.rf {μ : q_S} : r_fr μ μ := fun _ _ _ => rfl
theorem r_fr.m {μ μ' : q_S} (h : m_fr μ μ') : r_fr μ μ' := fun k hk j => by rw [h k (by omega) (by omega) (by omega) (by omega)]
theorem r_fr.z {μ μ' : q_S} (h : m_z μ μ') : r_fr μ μ' := fun k hk j => h k j (by omega) (by omega) (by omega)
theorem r_fr.tr {a b c : q_S} (h1 : r_fr a b) (h2 : r_fr b c) : r_fr a c := fun k hk j => (h2 k hk j).trans (h1 k hk j)
theorem r_fr.u {μ μ' : q_S} (h : r_fr μ μ') {k j : Nat} {x : Int32} (hk : 1 ≤ k) (hk2 : k ≤ 26) (hk3 : ¬ (16 ≤ k ∧ k ≤ 18)) : r_fr μ (q_u μ' k j x) := fun k' hk' j' => by
  rw [q_u_k (by omega)]
  exact h k' hk' j'
theorem m_K.fr {μ μ' : q_S} {K : q_V} (h : m_K μ K) (hf : ∀ k j, 27 ≤ k → μ' k j = μ k j) : m_K μ' K := by
  obtain ⟨⟨a1, a2, a3, a4⟩, b, c⟩ := h
  refine ⟨⟨?_, ?_, ?_, ?_⟩, fun e he => ?_, fun k hk => ?_⟩
  · rw [hf 29 0 (by decide)]; exact a1
  · rw [hf 30 0 (by decide)]; exact a2
  · rw [hf 31 0 (by decide)]; exact a3
  · rw [hf 32 0 (by decide)]; exact a4
  · rw [hf 33 e (by decide), hf 34 e (by decide), hf 35 e (by decide), hf 36 e (by decide)]; exact b e he
  · rw [hf 37 k (by decide), hf 38 k (by decide), hf 39 k (by decide)]; exact c k hk
theorem m_A.fr {μ μ' : q_S} {V : q_V} (h : m_A μ V) (hf : ∀ k, 1 ≤ k → k ≤ 15 → μ' k = μ k) : m_A μ' V := by
  unfold m_A at h ⊢
  rw [hf 1 (by decide) (by decide), hf 2 (by decide) (by decide), hf 3 (by decide) (by decide), hf 4 (by decide) (by decide), hf 5 (by decide) (by decide), hf 6 (by decide) (by decide), hf 7 (by decide) (by decide), hf 8 (by decide) (by decide), hf 9 (by decide) (by decide), hf 10 (by decide) (by decide), hf 12 (by decide) (by decide), hf 13 (by decide) (by decide), hf 14 (by decide) (by decide), hf 15 (by decide) (by decide)]
  exact h
theorem r_I.fr {s0 s3 μ μ' : q_S} {V V' K : q_V} {vr : Nat} (h : r_I s0 s3 μ V K vr) (hf : ∀ k j, 27 ≤ k → μ' k j = μ k j) (hC : r_C V K → r_C V' K) : r_I s0 s3 μ' V' K vr := by
  rcases h with ⟨h1, h2⟩ | ⟨h1, h2, h3, h4, h5, h6, h7⟩
  · refine Or.inl ⟨h1, ?_⟩
    rw [hf 27 0 (by decide), hf 28 0 (by decide)]
    exact h2
  · refine Or.inr ⟨h1, ?_, ?_, h4, h5, h6.fr hf, hC h7⟩
    · rw [hf 27 0 (by decide)]; exact h2
    · rw [hf 28 0 (by decide)]; exact h3
theorem r_r.up {b : Nat} {s0 s1 s2 s3 μ : q_S} {V K : q_V} {n : Nat} {c : Nat → Nat} {vr sp : Nat} (h : r_r b s0 s1 s2 s3 μ V K n c vr sp) : r_r (b + 1) s0 s1 s2 s3 μ V K n c vr sp := by
  obtain ⟨h1, h2, ⟨h3, h4, h5⟩, h6⟩ := h
  exact ⟨h1, h2, ⟨h3, h4, by omega⟩, h6⟩
theorem r_r.upd {b : Nat} {s0 s1 s2 s3 μ s2' μ' : q_S} {V K V' : q_V} {n : Nat} {c : Nat → Nat} {vr sp : Nat} (h : r_r b s0 s1 s2 s3 μ V K n c vr sp) (hA : v_A s2' V') (hW : v_W V') (hM : m_A μ' V') (h11 : μ' 11 0 = nI (V' 10 0)) (hf : r_fr μ μ') (hC : r_C V K → r_C V' K) : r_R (b + 1) s0 s1 s2' s3 μ' := by
  obtain ⟨h1, ⟨h2, h2'⟩, ⟨h3, h4, h5⟩, ⟨h6, h7, h8⟩, h9⟩ := h
  refine ⟨V', K, n, c, vr, sp, ⟨hA, hW, hM, h11⟩, ⟨h2, h2'.fr (hf 17 (by omega) 0) (fun j => hf 18 (by omega) j)⟩, ⟨h3, by rw [hf 0 (by omega) 0]; exact h4, by omega⟩, ⟨h6, by rw [hf 16 (by omega) 0]; exact h7, h8⟩, h9.fr (fun k j hk => hf k (by omega) j) hC⟩
theorem r_R.up {b : Nat} {s0 s1 s2 s3 μ : q_S} (h : r_R b s0 s1 s2 s3 μ) : r_R (b + 1) s0 s1 s2 s3 μ := by
  obtain ⟨V, K, n, c, vr, sp, h⟩ := h
  exact ⟨V, K, n, c, vr, sp, h.up⟩
/-! letter, blank, fault, valley -/
theorem a_byte : ∀ a, a < 127 → (nI a).toInt8.toInt32 = nI a := by decide +kernel
theorem o_letter {b : Nat} {s0 s1 s2 s3 μ : q_S} (h : r_R b s0 s1 s2 s3 μ) (x : Int32) : ∃ r s1' μ', zX3_letter s1 x = some (r, s1') ∧ zX4_letter μ x = some (r, μ') ∧ r_R (b + 1) s0 s1' s2 s3 μ' := by
  have hup := h.up
  obtain ⟨V, K, n, c, vr, sp, h1, ⟨hR, hM⟩, h3, h6, h9⟩ := h
  unfold zX3_letter zX4_letter zX4_within
  by_cases x1 : x < 32
  · rw [if_pos x1, if_pos x1, a_b1, if_pos rfl]
    exact ⟨_, s1, μ, rfl, rfl, hup⟩
  · rw [if_neg x1, if_neg x1]
    by_cases x2 : x ≤ 126
    · have x2' : ¬ (126 : Int32) < x := Int32.not_lt.mpr x2
      rw [if_pos x2, if_neg x2', a_b1, if_neg (by decide)]
      have x0 : ¬ x < 0 := fun z => x1 (Int32.lt_trans z (by decide))
      obtain ⟨a, ha, rfl⟩ := nI_of x0
      rw [show (126 : Int32) = nI 126 from rfl, a_le (by omega) (by omega)] at x2
      rw [show (32 : Int32) = nI 32 from rfl, a_lt (by omega) (by omega)] at x1
      have h24 := hR.2.1
      unfold zX0_write
      rw [hR.1, if_neg (a_neg (by omega)), hM.1]
      by_cases z : n < 24
      · rw [if_pos (by rw [show (24 : Int32) = nI 24 from rfl, a_lt (by omega) (by omega)]; exact z), a_gd (a_ib z (by omega)), a_lt', a_lt', a_b2, if_neg (by decide), if_neg (show ¬ nI n = (24 : Int32) from fun y => by
          have := (a_eq (b := 24) (by omega) (by omega)).mp y
          omega), a_gd (a_ib z (by omega)), a_lt', a_lt', a_cl (by omega), pk_vb, a_byte a (by omega), q_u_s, q_u_s, q_u_k (show 1 ≠ 0 by decide), q_u_k (show 17 ≠ 18 by decide), hR.1, hM.1, nI_1]
        refine ⟨_, _, _, rfl, rfl, V, K, n + 1, fun j => if j = n then a else c j, vr, sp, ⟨h1.1, h1.2.1, h1.2.2.1.fr (fun k k1 k2 => by rw [q_u_k (by omega), q_u_k (by omega)]), by rw [q_u_k (by decide), q_u_k (by decide)]; exact h1.2.2.2⟩, ⟨⟨q_u_s, by omega, fun j hj => ?_⟩, q_u_s, by omega, fun j hj => ?_⟩, ⟨h3.1, by rw [q_u_k (by decide), q_u_k (by decide)]; exact h3.2.1, by omega⟩, ⟨h6.1, by rw [q_u_k (by decide), q_u_k (by decide)]; exact h6.2.1, h6.2.2⟩, h9.fr (fun k j hk => by rw [q_u_k (by omega), q_u_k (by omega)]) id⟩
        · rw [q_u_k (show 0 ≠ 1 by decide), q_u_if]
          by_cases y : j = n
          · rw [if_pos y]
            show _ = nI (if j = n then a else c j) ∧ 32 ≤ (if j = n then a else c j) ∧ (if j = n then a else c j) ≤ 126
            rw [if_pos y]
            exact ⟨rfl, by omega, by omega⟩
          · rw [if_neg y]
            show _ = nI (if j = n then a else c j) ∧ 32 ≤ (if j = n then a else c j) ∧ (if j = n then a else c j) ≤ 126
            rw [if_neg y]
            exact hR.2.2 j (by omega)
        · rw [q_u_k (show 18 ≠ 17 by decide), q_u_if]
          by_cases y : j = n
          · rw [if_pos y]
            show _ = nI (if j = n then a else c j) ∧ 32 ≤ (if j = n then a else c j) ∧ (if j = n then a else c j) ≤ 126
            rw [if_pos y]
            exact ⟨rfl, by omega, by omega⟩
          · rw [if_neg y]
            show _ = nI (if j = n then a else c j) ∧ 32 ≤ (if j = n then a else c j) ∧ (if j = n then a else c j) ≤ 126
            rw [if_neg y]
            exact hM.2.2 j (by omega)
      · rw [if_neg (by rw [show (24 : Int32) = nI 24 from rfl, a_lt (by omega) (by omega)]; exact z), a_b2, if_pos rfl, if_pos (by rw [show n = 24 by omega]; rfl)]
        exact ⟨_, s1, μ, rfl, rfl, hup⟩
    · have x2' : (126 : Int32) < x := Int32.not_le.mp x2
      rw [if_neg x2, if_pos x2', a_b1, if_pos rfl]
      exact ⟨_, s1, μ, rfl, rfl, hup⟩
theorem o_blank {b : Nat} {s0 s1 s2 s3 μ : q_S} (h : r_R b s0 s1 s2 s3 μ) : ∃ r s1' μ', zX3_blank s1 = some (r, s1') ∧ zX4_blank μ = some (r, μ') ∧ r_R (b + 1) s0 s1' s2 s3 μ' := by
  obtain ⟨V, K, n, c, vr, sp, h1, ⟨hR, hM⟩, h3, h6, h9⟩ := h
  unfold zX3_blank zX4_blank
  rw [a_lt', a_lt', a_lt', a_lt', hR.1, hM.1]
  exact ⟨_, _, _, rfl, rfl, V, K, 0, c, vr, sp, ⟨h1.1, h1.2.1, h1.2.2.1.fr (fun k k1 k2 => q_u_k (by omega)), by rw [q_u_k (by decide)]; exact h1.2.2.2⟩, ⟨⟨q_u_s, by omega, fun j hj => by omega⟩, q_u_s, by omega, fun j hj => by omega⟩, ⟨h3.1, by rw [q_u_k (by decide)]; exact h3.2.1, by omega⟩, ⟨h6.1, by rw [q_u_k (by decide)]; exact h6.2.1, h6.2.2⟩, h9.fr (fun k j hk => by rw [q_u_k (by omega)]) id⟩
theorem p_rd.fr {μ μ' : q_S} (h : p_rd μ μ') : r_fr μ μ' := fun k hk j => by rw [h k (by omega) (by omega) (by omega)]
theorem o_fault {b : Nat} {s0 s1 s2 s3 μ : q_S} (h : r_R b s0 s1 s2 s3 μ) : ∃ r μ', zX3_fault s1 = some r ∧ zX4_fault μ = some (r, μ') ∧ r_R (b + 1) s0 s1 s2 s3 μ' := by
  obtain ⟨V, K, n, c, vr, sp, h⟩ := h
  have h' := h
  obtain ⟨h1, ⟨hR, hM⟩, h3, h6, h9⟩ := h
  obtain ⟨e, f, k1, k2, k3, k4⟩ := p_fault hR
  obtain ⟨f', μ', k5, k6, k7, k8⟩ := p_read hM k2
  have := k4.uniq k6
  subst this
  refine ⟨nI f, μ', ?_, ?_, h'.upd h1.1 h1.2.1 (h1.2.2.1.fr (fun k a b => k7 k (by omega) (by omega) (by omega))) (by rw [k7 11 (by decide) (by decide) (by decide)]; exact h1.2.2.2) k7.fr id⟩
  · unfold zX3_fault
    rw [k3, a_b1]
  · unfold zX4_fault
    rw [k5, a_b2]
theorem o_valley {b : Nat} {s0 s1 s2 s3 μ : q_S} (h : r_R b s0 s1 s2 s3 μ) : ∃ r s0' s1' s2' μ', zX3_valley s0 s1 s2 = some (r, s0', s1', s2') ∧ zX4_valley μ = some (r, μ') ∧ r_R (b + 1) s0' s1' s2' s3 μ' := by
  obtain ⟨V, K, n, c, vr, sp, h⟩ := h
  have h' := h
  obtain ⟨h1, ⟨hR, hM⟩, h3, h6, h9⟩ := h
  obtain ⟨e, f, k1, k2, k3, k4⟩ := p_fault hR
  obtain ⟨f', μ1, k5, k6, k7, k8⟩ := p_read hM k2
  have := k4.uniq k6
  subst this
  have kv := p_isValley hR k1 k2 k3 k4
  unfold zX3_valley zX4_valley
  rw [kv, a_b1, k5, a_b2, k8.1]
  by_cases z : p_val n e f = true
  · obtain ⟨m, m1, m2, m3, m4, m5, m6⟩ := k8.2 z
    subst m4
    obtain ⟨hfn, hok⟩ := p_ok_of k4 z m2 m3 m5
    subst hfn
    have kE : zX0_eatersEnd s1 = some (nI (3 * m - 1)) := k1
    obtain ⟨s2', r1, r2⟩ := p_from h1.1 hR hok kE
    have hM1 : p_M μ1 f c := hM.fr (by rw [k7 17 (by decide) (by decide) (by decide)]) (fun j => by rw [k7 18 (by decide) (by decide) (by decide)])
    obtain ⟨μ', q1, q2, q3, q4, q5, q6⟩ := p_mv1 (V := V) rfl hok m 0 (by omega) 70000 (by omega) (q_u (q_u μ1 1 0 (nI m)) 7 0 (nI ((f - 3 * m) / 2))) (hM1.fr (by rw [q_u_k (by decide), q_u_k (by decide)]) (fun j => by rw [q_u_k (by decide), q_u_k (by decide)])) (by rw [q_u_k (by decide), q_u_s]) q_u_s (fun e he => by omega)
    rw [if_pos z, if_neg (by decide), if_neg (by decide), r1, a_b1, a_lt', a_lt', a_lt', a_lt', a_lt', m1, q_u_k (show 21 ≠ 1 by decide), m6]
    have q1' : zX4_valley_33 (nI f) 70000 (q_u (q_u μ1 1 0 (nI m)) 7 0 (nI ((f - 3 * m) / 2))) (0 : Int32) = some (nI ((f - 3 * m) / 2), μ') := q1
    rw [q1', r2 6 0 (by decide), p_V6, q_u_k (show 6 ≠ 5 by decide), h3.1, nI_1]
    have e0 : μ' 0 0 = nI (vr + 1) := by
      rw [q4, q_u_k (by decide), q_u_k (by decide), k7 0 (by decide) (by decide) (by decide), h3.2.1, nI_1]
    have eX : ∀ x j, 13 ≤ x → x ≠ 17 → x ≠ 19 → x ≠ 20 → x ≠ 21 → μ' x j = μ x j := fun x j a a1 a2 a3 a4 => by
      rw [q3 x a a1, q_u_k (by omega), q_u_k (by omega), k7 x a2 a3 a4]
    refine ⟨_, _, _, _, μ', rfl, rfl, p_V V c m ((f - 3 * m) / 2), K, 0, c, vr + 1, sp, ⟨r2, p_V_W h1.2.1 hok, q2, by rw [q5, p_V10]; rfl⟩, ⟨⟨q_u_s, by omega, fun j hj => by omega⟩, by rw [q6]; rfl, by omega, fun j hj => by omega⟩, ⟨q_u_s, e0, by omega⟩, ⟨by rw [q_u_k (by decide), q_u_k (by decide)]; exact h6.1, by rw [eX 16 0 (by decide) (by decide) (by decide) (by decide) (by decide)]; exact h6.2.1, h6.2.2⟩, Or.inl ⟨by rw [q_u_k (by decide), q_u_s], ?_⟩⟩
    rw [eX 27 0 (by decide) (by decide) (by decide) (by decide) (by decide), eX 28 0 (by decide) (by decide) (by decide) (by decide) (by decide)]
    rcases h9 with ⟨a, a1 | ⟨kv', a2, a3⟩⟩ | ⟨a, a1, a2, a3⟩
    · exact Or.inl a1
    · exact Or.inr ⟨kv', by omega, a3⟩
    · exact Or.inr ⟨vr, by omega, a2⟩
  · rw [if_neg z, if_pos rfl, if_pos rfl]
    exact ⟨_, s0, s1, s2, μ1, rfl, rfl, h'.upd h1.1 h1.2.1 (h1.2.2.1.fr (fun k a b => k7 k (by omega) (by omega) (by omega))) (by rw [k7 11 (by decide) (by decide) (by decide)]; exact h1.2.2.2) k7.fr id⟩
