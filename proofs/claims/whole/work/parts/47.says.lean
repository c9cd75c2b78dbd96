/-! die, say, forget, spread, winters -/
theorem r_C.die {V K : q_V} {e : Nat} (h : r_C V K) : r_C (v_die V e) K := by
  obtain ⟨h1, h2, h3, h4⟩ := h
  refine ⟨h1.trans (v_die_k (by decide)).symm, by rw [v_die_6]; omega, fun e' he => (h3 e' he).trans (v_die_k (by decide)).symm, fun l' hl => ?_⟩
  rw [v_die_8, v_die_9, if_neg (show ¬ l' = V 6 0 by omega), if_neg (show ¬ l' = V 6 0 by omega)]
  exact h4 l' hl
theorem m_die {μ : q_S} {V : q_V} (hA : m_A μ V) (hW : v_W V) {e : Nat} (he : e < V 0 0) (hal : (V 1 0).testBit e = true) (hl : V 6 0 < 8) : ∃ μ', zX4_die μ (nI e) = some (nI (V 6 0), μ') ∧ m_A μ' (v_die V e) ∧ (∀ k, k ≠ 4 → k ≠ 5 → k ≠ 7 → k ≠ 8 → k ≠ 9 → μ' k = μ k) := by
  have hE := hW.E
  have hbE := hW.bE
  have hc := hW.cr (e := e) (by omega)
  obtain ⟨b2, b3, b4, b5, b6⟩ := hA.2.1 e he
  have hi : q_ib (nI e) 4 = true := a_ib (by omega) (by omega)
  have h8 : q_ib (nI (V 6 0)) 8 = true := a_ib (by omega) (by omega)
  have ce := a_cl (i := e) (by omega)
  have cl := a_cl (i := V 6 0) (by omega)
  have nb : vp_nar .boolean (0 : Int32) = 0 := by decide
  refine ⟨q_u (q_u (q_u (q_u (q_u μ 8 (V 6 0) (nI (min (V 4 e) 9))) 9 (V 6 0) (nI (V 4 e - min (V 4 e) 9))) 4 e 0) 5 e 0) 7 0 (nI (V 6 0 + 1)), ?_, ?_, fun k k4 k5 k7 k8 k9 => by rw [q_u_k k7, q_u_k k5, q_u_k k4, q_u_k k9, q_u_k k8]⟩
  · have e85 : ∀ x, zX4_die_85 (q_u μ 8 (V 6 0) x) (nI e) (q_u μ 8 (V 6 0) x 7 0) (nI (V 4 e - min (V 4 e) 9)) = some (nI (V 6 0), q_u (q_u (q_u (q_u (q_u μ 8 (V 6 0) x) 9 (V 6 0) (nI (V 4 e - min (V 4 e) 9))) 4 e 0) 5 e 0) 7 0 (nI (V 6 0 + 1))) := by
      intro x
      unfold zX4_die_85
      rw [q_u_k (show 7 ≠ 8 by decide), hA.1.2.1, a_gd h8, a_lt', a_gd hi, a_lt', a_gd hi, a_lt', a_lt', cl, ce, nb, q_u_s, q_u_k (show 7 ≠ 5 by decide), q_u_k (show 7 ≠ 4 by decide), q_u_k (show 7 ≠ 9 by decide), q_u_k (show 7 ≠ 8 by decide), hA.1.2.1, nI_1, show nI (V 6 0 + 1) - (1 : Int32) = nI (V 6 0) from by rw [show (1 : Int32) = nI 1 from rfl, pk_sub (by omega), Nat.add_sub_cancel]]
    have e62 : ∀ x, zX4_die_62 μ (nI e) (nI (V 4 e)) (nI (V 6 0)) x = some (nI (V 6 0), q_u (q_u (q_u (q_u (q_u μ 8 (V 6 0) x) 9 (V 6 0) (nI (V 4 e - min (V 4 e) 9))) 4 e 0) 5 e 0) 7 0 (nI (V 6 0 + 1))) := by
      intro x
      unfold zX4_die_62
      rw [a_gd h8, a_lt', cl]
      by_cases q : V 4 e ≤ 9
      · rw [if_pos (by rw [show (9 : Int32) = nI 9 from rfl, a_le (by omega) (by omega)]; exact q), show (0 : Int32) = nI (V 4 e - min (V 4 e) 9) from by rw [show V 4 e - min (V 4 e) 9 = 0 by omega]; rfl]
        have := e85 x
        rw [show V 4 e - min (V 4 e) 9 = 0 by omega] at this ⊢
        exact this
      · rw [if_neg (by rw [show (9 : Int32) = nI 9 from rfl, a_le (by omega) (by omega)]; exact q), show nI (V 4 e) - (9 : Int32) = nI (V 4 e - min (V 4 e) 9) from by rw [show (9 : Int32) = nI 9 from rfl, pk_sub (by omega), show V 4 e - 9 = V 4 e - min (V 4 e) 9 by omega]]
        exact e85 x
    unfold zX4_die
    rw [m_isEater hA hW (by omega), a_b1, if_pos he, a_1e, a_gd hi, ce, b4, a_be, if_pos hal, hA.1.2.1, if_neg (show ¬ nI (V 6 0) = (8 : Int32) from fun k => by
      have := (a_eq (b := 8) (by omega) (by omega)).mp k
      omega), a_gd hi, a_lt', b5]
    by_cases q : V 4 e ≤ 9
    · rw [if_pos (by rw [show (9 : Int32) = nI 9 from rfl, a_le (by omega) (by omega)]; exact q), show min (V 4 e) 9 = V 4 e by omega]
      have := e62 (nI (V 4 e))
      rw [show min (V 4 e) 9 = V 4 e by omega] at this
      exact this
    · rw [if_neg (by rw [show (9 : Int32) = nI 9 from rfl, a_le (by omega) (by omega)]; exact q), show min (V 4 e) 9 = 9 by omega]
      have := e62 (nI 9)
      rw [show min (V 4 e) 9 = 9 by omega] at this
      exact this
  · obtain ⟨⟨a1, a2, a3, a4⟩, b, c, d⟩ := hA
    unfold m_A
    simp only [v_die_k (V := V) (e := e) (k := 0) (by decide), v_die_k (V := V) (e := e) (k := 7) (by decide), v_die_k (V := V) (e := e) (k := 2) (by decide), v_die_k (V := V) (e := e) (k := 3) (by decide), v_die_k (V := V) (e := e) (k := 5) (by decide), v_die_k (V := V) (e := e) (k := 11) (by decide), v_die_k (V := V) (e := e) (k := 12) (by decide), v_die_k (V := V) (e := e) (k := 13) (by decide), v_die_k (V := V) (e := e) (k := 14) (by decide), v_die_1, v_die_6, v_die_4, v_die_8, v_die_9]
    refine ⟨⟨?_, q_u_s, ?_, ?_⟩, fun e' he' => ?_, fun l' hl' => ?_, fun k hk => ?_⟩
    · rw [q_u_k (by decide), q_u_k (by decide), q_u_k (by decide), q_u_k (by decide), q_u_k (by decide)]; exact a1
    · rw [q_u_k (by decide), q_u_k (by decide), q_u_k (by decide), q_u_k (by decide), q_u_k (by decide)]; exact a3
    · rw [q_u_k (by decide), q_u_k (by decide), q_u_k (by decide), q_u_k (by decide), q_u_k (by decide)]; exact a4
    · obtain ⟨f2, f3, f4, f5, f6⟩ := b e' he'
      have hclr := a_clr3 (V 1 0) hbE e (by omega) e' (by omega)
      rw [q_u_k (show 2 ≠ 7 by decide), q_u_k (show 2 ≠ 5 by decide), q_u_k (show 2 ≠ 4 by decide), q_u_k (show 2 ≠ 9 by decide), q_u_k (show 2 ≠ 8 by decide), q_u_k (show 3 ≠ 7 by decide), q_u_k (show 3 ≠ 5 by decide), q_u_k (show 3 ≠ 4 by decide), q_u_k (show 3 ≠ 9 by decide), q_u_k (show 3 ≠ 8 by decide), q_u_k (show 4 ≠ 7 by decide), q_u_k (show 4 ≠ 5 by decide), q_u_if, q_u_k (show 4 ≠ 9 by decide), q_u_k (show 4 ≠ 8 by decide), q_u_k (show 5 ≠ 7 by decide), q_u_if, q_u_k (show 5 ≠ 4 by decide), q_u_k (show 5 ≠ 9 by decide), q_u_k (show 5 ≠ 8 by decide), q_u_k (show 6 ≠ 7 by decide), q_u_k (show 6 ≠ 5 by decide), q_u_k (show 6 ≠ 4 by decide), q_u_k (show 6 ≠ 9 by decide), q_u_k (show 6 ≠ 8 by decide), hclr]
      refine ⟨f2, f3, ?_, ?_, f6⟩
      · by_cases z : e' = e
        · rw [if_pos z, show decide (e' ≠ e) = false by simpa using z, Bool.and_false]; rfl
        · rw [if_neg z, show decide (e' ≠ e) = true by simpa using z, Bool.and_true]; exact f4
      · by_cases z : e' = e
        · rw [if_pos z, if_pos z]; rfl
        · rw [if_neg z, if_neg z]; exact f5
    · rw [q_u_k (show 8 ≠ 7 by decide), q_u_k (show 8 ≠ 5 by decide), q_u_k (show 8 ≠ 4 by decide), q_u_k (show 8 ≠ 9 by decide), q_u_if, q_u_k (show 9 ≠ 7 by decide), q_u_k (show 9 ≠ 5 by decide), q_u_k (show 9 ≠ 4 by decide), q_u_if]
      by_cases z : l' = V 6 0
      · rw [if_pos z, if_pos z, if_pos z, if_pos z]
        exact ⟨rfl, rfl⟩
      · rw [if_neg z, if_neg z, if_neg z, if_neg z, q_u_k (show 9 ≠ 8 by decide)]
        exact c l' (by omega)
    · rw [q_u_k (show 13 ≠ 7 by decide), q_u_k (show 13 ≠ 5 by decide), q_u_k (show 13 ≠ 4 by decide), q_u_k (show 13 ≠ 9 by decide), q_u_k (show 13 ≠ 8 by decide), q_u_k (show 14 ≠ 7 by decide), q_u_k (show 14 ≠ 5 by decide), q_u_k (show 14 ≠ 4 by decide), q_u_k (show 14 ≠ 9 by decide), q_u_k (show 14 ≠ 8 by decide), q_u_k (show 15 ≠ 7 by decide), q_u_k (show 15 ≠ 5 by decide), q_u_k (show 15 ≠ 4 by decide), q_u_k (show 15 ≠ 9 by decide), q_u_k (show 15 ≠ 8 by decide)]
      exact d k hk
theorem o_die {b : Nat} {s0 s1 s2 s3 μ : q_S} (h : r_R b s0 s1 s2 s3 μ) (x : Int32) : ∃ r s2' μ', zX3_die s2 x = some (r, s2') ∧ zX4_die μ x = some (r, μ') ∧ r_R (b + 1) s0 s1 s2' s3 μ' := by
  have hup := h.up
  obtain ⟨V, K, n, c, vr, sp, h⟩ := h
  have h' := h
  obtain ⟨⟨hA, hW, hM, h11⟩, h2, h3, h6, h9⟩ := h
  have hE := hW.E
  have hL := hW.L
  have no : ∀ r : Int32, ∃ r' s2' μ', some (r, s2) = some (r', s2') ∧ some (r, μ) = some (r', μ') ∧ r_R (b + 1) s0 s1 s2' s3 μ' := fun r => ⟨r, s2, μ, rfl, rfl, hup⟩
  by_cases x0 : x < 0
  · unfold zX3_die zX4_die
    rw [c_isEater_neg x0, m_isEater_neg x0, a_b1, a_b1, a_0e, a_0e]
    exact no _
  · obtain ⟨e, he, rfl⟩ := nI_of x0
    by_cases z : e < V 0 0
    · have hi : q_ib (nI e) 4 = true := a_ib (by omega) (by omega)
      have ce := a_cl (i := e) (by omega)
      have b4 := (hM.2.1 e z).2.2.1
      by_cases q : (V 1 0).testBit e = true
      · by_cases q8 : V 6 0 < 8
        · obtain ⟨s2', k1, k2⟩ := c_makeLoafOf hA hW z q8
          obtain ⟨μ', k3, k4, k5⟩ := m_die hM hW z q q8
          refine ⟨nI (V 6 0), s2', μ', ?_, k3, h'.upd k2 (hW.die z q8) k4 (by rw [k5 11 (by decide) (by decide) (by decide) (by decide) (by decide), v_die_k (by decide)]; exact h11) (fun k hk j => by rw [k5 k (by omega) (by omega) (by omega) (by omega) (by omega)]) (fun k => k.die)⟩
          unfold zX3_die
          rw [c_isEater hA hW he, a_b1, if_pos z, a_1e, c_isAlive hA hW (by omega), a_b1, a_be, if_pos q, hA 6 0 (by decide), if_pos (by rw [show (8 : Int32) = nI 8 from rfl, a_lt (by omega) (by omega)]; exact q8), k1, a_b2]
        · unfold zX3_die zX4_die
          rw [c_isEater hA hW he, m_isEater hM hW he, a_b1, a_b1, if_pos z, a_1e, a_1e, c_isAlive hA hW (by omega), a_b1, a_be, if_pos q, hA 6 0 (by decide), if_neg (by rw [show (8 : Int32) = nI 8 from rfl, a_lt (by omega) (by omega)]; exact q8), a_gd hi, ce, b4, a_be, if_pos q, hM.1.2.1, if_pos (by rw [show V 6 0 = 8 by omega]; rfl)]
          exact no _
      · unfold zX3_die zX4_die
        rw [c_isEater hA hW he, m_isEater hM hW he, a_b1, a_b1, if_pos z, a_1e, a_1e, c_isAlive hA hW (by omega), a_b1, a_be, if_neg q, a_gd hi, ce, b4, a_be, if_neg q]
        exact no _
    · unfold zX3_die zX4_die
      rw [c_isEater hA hW he, m_isEater hM hW he, a_b1, a_b1, if_neg z, a_0e, a_0e]
      exact no _
theorem o_forget {b : Nat} {s0 s1 s2 s3 μ : q_S} (h : r_R b s0 s1 s2 s3 μ) : ∃ r s2' μ', zX3_forget s2 = some (r, s2') ∧ zX4_forget μ = some (r, μ') ∧ r_R (b + 1) s0 s1 s2' s3 μ' := by
  obtain ⟨V, K, n, c, vr, sp, h⟩ := h
  have h' := h
  obtain ⟨⟨hA, hW, hM, h11⟩, h2, h3, h6, h9⟩ := h
  unfold zX3_forget zX4_forget
  rw [a_lt', a_lt', a_lt', a_lt', hA 11 0 (by decide), hM.1.2.2.2]
  refine ⟨_, _, _, rfl, rfl, h'.upd (V' := v_u V 11 0 0) (hA.u 11 0 0) ?_ ?_ ?_ (r_fr.rf.u (by decide) (by decide) (by decide)) (fun k => ?_)⟩
  · obtain ⟨a1, a2, a3, a4, a5, a6, a7, a8⟩ := hW
    refine ⟨a1, a2, a3, a4, a5, a6, ⟨?_, fun k hk => ?_⟩, a8⟩
    · rw [v_u_s]; omega
    · rw [v_u_s] at hk; omega
  · obtain ⟨⟨a1, a2, a3, a4⟩, bb, cc, dd⟩ := hM
    refine ⟨⟨?_, ?_, ?_, ?_⟩, fun e he => ?_, fun l hl => ?_, fun k hk => ?_⟩
    · rw [q_u_k (by decide)]; exact a1
    · rw [q_u_k (by decide)]; exact a2
    · rw [q_u_k (by decide)]; exact a3
    · rw [q_u_s, v_u_s]; rfl
    · rw [q_u_k (by decide), q_u_k (by decide), q_u_k (by decide), q_u_k (by decide), q_u_k (by decide)]; exact bb e he
    · rw [q_u_k (by decide), q_u_k (by decide)]; exact cc l hl
    · rw [v_u_s] at hk; omega
  · rw [q_u_k (by decide)]; exact h11
  · exact k
