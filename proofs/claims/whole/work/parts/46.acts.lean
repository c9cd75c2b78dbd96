/-! eat, halve, winter -/
theorem a_0e {α : Type} {a b : α} : (if (0 : Int32) = 0 then a else b) = a := if_pos rfl
theorem a_1e {α : Type} {a b : α} : (if (1 : Int32) = 0 then a else b) = b := if_neg a_10
theorem a_be {α : Type} {a b : α} {x : Bool} : (if (if x = true then (1 : Int32) else 0) = 0 then a else b) = if x = true then b else a := by cases x <;> rfl
theorem a_pe {α : Type} {a b : α} {x : Prop} [Decidable x] : (if (if x then (1 : Int32) else 0) = 0 then a else b) = if x then b else a := by
  by_cases h : x
  · rw [if_pos h, if_pos h, a_1e]
  · rw [if_neg h, if_neg h, a_0e]
theorem r_C.eat {V K : q_V} {e l : Nat} (h : r_C V K) : r_C (v_eat V e l) K := by
  obtain ⟨h1, h2, h3, h4⟩ := h
  refine ⟨h1.trans (v_eat_k (by decide)).symm, by rw [v_eat_k (by decide)]; exact h2, fun e' he => (h3 e' he).trans (v_eat_k (by decide)).symm, fun l' hl => ?_⟩
  rw [v_eat_k (by decide), v_eat_k (by decide)]
  exact h4 l' hl
theorem r_C.half {V K : q_V} {a b l : Nat} (h : r_C V K) : r_C (v_half V a b l) K := by
  obtain ⟨h1, h2, h3, h4⟩ := h
  refine ⟨h1.trans (v_half_k (by decide)).symm, by rw [v_half_k (by decide)]; exact h2, fun e' he => (h3 e' he).trans (v_half_k (by decide)).symm, fun l' hl => ?_⟩
  rw [v_half_k (by decide), v_half_k (by decide)]
  exact h4 l' hl
theorem o_eat {b : Nat} {s0 s1 s2 s3 μ : q_S} (h : r_R b s0 s1 s2 s3 μ) (x y : Int32) : ∃ r s2' μ', zX3_eat s2 x y = some (r, s2') ∧ zX4_eat μ x y = some (r, μ') ∧ r_R (b + 1) s0 s1 s2' s3 μ' := by
  have hup := h.up
  obtain ⟨V, K, n, c, vr, sp, h⟩ := h
  have h' := h
  obtain ⟨⟨hA, hW, hM, h11⟩, h2, h3, h6, h9⟩ := h
  have hE := hW.E
  have hL := hW.L
  unfold zX3_eat zX4_eat
  have no : ∀ r : Int32, ∃ r' s2' μ', some (r, s2) = some (r', s2') ∧ some (r, μ) = some (r', μ') ∧ r_R (b + 1) s0 s1 s2' s3 μ' := fun r => ⟨r, s2, μ, rfl, rfl, hup⟩
  by_cases x0 : x < 0
  · rw [c_isEater_neg x0, m_isEater_neg x0, a_b1, a_b1, a_0e, a_0e]
    exact no _
  · obtain ⟨e, he, rfl⟩ := nI_of x0
    rw [c_isEater hA hW he, m_isEater hM hW he, a_b1, a_b1, a_pe, a_pe]
    by_cases z : e < V 0 0
    · rw [if_pos z, if_pos z]
      by_cases y0 : y < 0
      · rw [c_isLoaf_neg y0, m_isLoaf_neg y0, a_b1, a_b1, a_0e, a_0e]
        exact no _
      · obtain ⟨l, hl, rfl⟩ := nI_of y0
        rw [c_isLoaf hA hW hl, m_isLoaf hM hW hl, a_b1, a_b1, a_pe, a_pe]
        by_cases z2 : l < V 6 0
        · rw [if_pos z2, if_pos z2, c_wouldTake hA hW he hl, m_would hM hW z z2, a_b1, a_b1, a_be, a_be]
          by_cases q : v_wt V e l = true
          · obtain ⟨w1, w2, w3, w4, w5⟩ := v_wt_of q
            obtain ⟨s2', k1, k2⟩ := c_takeWhole hA hW z z2
            obtain ⟨μ', k3, k4, k5⟩ := m_eats hM hW z z2
            have hi : q_ib (nI e) 4 = true := a_ib (by omega) (by omega)
            rw [if_pos q, if_pos q, k1, k3, a_b1, a_b1, a_gd hi, a_gd hi, a_cl (by omega), k2 4 e (by show e < 4; omega), (k4.2.1 e (by rw [v_eat_k (by decide)]; exact z)).2.2.2.1]
            exact ⟨_, s2', μ', rfl, rfl, h'.upd k2 (hW.eat w1 w2 w4) k4 (by rw [k5 11 (by decide) (by decide) (by decide) (by decide), v_eat_k (by decide)]; exact h11) (r_fr.m k5) (fun k => k.eat)⟩
          · rw [if_neg q, if_neg q]
            exact no _
        · rw [if_neg z2, if_neg z2]
          exact no _
    · rw [if_neg z, if_neg z]
      exact no _
theorem m_halves {μ : q_S} {V : q_V} (hA : m_A μ V) (hW : v_W V) {a b l : Nat} (ha : a < V 0 0) (hb : b < V 0 0) (hab : a ≠ b) (hl : l < V 6 0) : ∃ y28 y30 y32 y34, zX4_takes (q_u (q_u μ 6 a (nI (V 5 a + (V 8 l + 1) / 2))) 6 b (nI (V 5 b + V 8 l / 2))) (nI a) (nI ((V 8 l + V 9 l + 1) / 2)) = some y28 ∧ zX4_takes y28 (nI b) (nI ((V 8 l + V 9 l) / 2)) = some y30 ∧ zX4_tires y30 (nI a) (1 : Int32) = some y32 ∧ zX4_tires y32 (nI b) (1 : Int32) = some y34 ∧ y34 10 0 = nI (V 7 0) ∧ m_A (q_u y34 10 0 (nI (V 7 0 ||| 2 ^ l))) (v_half V a b l) ∧ m_fr μ (q_u y34 10 0 (nI (V 7 0 ||| 2 ^ l))) := by
  have hE := hW.E
  have hL := hW.L
  have k1 := hW.kd (e := a) (by omega)
  have k1' := hW.kd (e := b) (by omega)
  have k2 := hW.hg (e := a) (by omega)
  have k2' := hW.hg (e := b) (by omega)
  have k3 := hW.dh hl
  obtain ⟨a2, a3, a4, a5, a6⟩ := hA.2.1 a ha
  obtain ⟨b2, b3, b4, b5, b6⟩ := hA.2.1 b hb
  have hba : b ≠ a := fun z => hab z.symm
  have t1 := m_takes (μ := q_u (q_u μ 6 a (nI (V 5 a + (V 8 l + 1) / 2))) 6 b (nI (V 5 b + V 8 l / 2))) (kd := V 2 a) (c := V 4 a) (e := a) (p := (V 8 l + V 9 l + 1) / 2) (by omega) (by rw [q_u_k (by decide), q_u_k (by decide)]; exact a2) k1 (by rw [q_u_k (by decide), q_u_k (by decide)]; exact a5) (by omega)
  have t2 := m_takes (μ := q_u (q_u (q_u μ 6 a (nI (V 5 a + (V 8 l + 1) / 2))) 6 b (nI (V 5 b + V 8 l / 2))) 5 a (nI (V 4 a + v_c (V 2 a) ((V 8 l + V 9 l + 1) / 2)))) (kd := V 2 b) (c := V 4 b) (e := b) (p := (V 8 l + V 9 l) / 2) (by omega) (by rw [q_u_k (by decide), q_u_k (by decide), q_u_k (by decide)]; exact b2) k1' (by rw [q_u_j hba, q_u_k (by decide), q_u_k (by decide)]; exact b5) (by omega)
  have t3 := m_tires (μ := q_u (q_u (q_u (q_u μ 6 a (nI (V 5 a + (V 8 l + 1) / 2))) 6 b (nI (V 5 b + V 8 l / 2))) 5 a (nI (V 4 a + v_c (V 2 a) ((V 8 l + V 9 l + 1) / 2)))) 5 b (nI (V 4 b + v_c (V 2 b) ((V 8 l + V 9 l) / 2)))) (hg := V 3 a) (e := a) (b := 1) (by omega) (by rw [q_u_k (by decide), q_u_k (by decide), q_u_k (by decide), q_u_k (by decide)]; exact a3) k2 (by omega)
  have t4 := m_tires (μ := q_u (q_u (q_u (q_u (q_u μ 6 a (nI (V 5 a + (V 8 l + 1) / 2))) 6 b (nI (V 5 b + V 8 l / 2))) 5 a (nI (V 4 a + v_c (V 2 a) ((V 8 l + V 9 l + 1) / 2)))) 5 b (nI (V 4 b + v_c (V 2 b) ((V 8 l + V 9 l) / 2)))) 3 a (nI (V 3 a - 1))) (hg := V 3 b) (e := b) (b := 1) (by omega) (by rw [q_u_j hba, q_u_k (by decide), q_u_k (by decide), q_u_k (by decide), q_u_k (by decide)]; exact b3) k2' (by omega)
  refine ⟨_, _, _, _, t1, t2, t3, t4, ?_, ?_, ?_⟩
  · rw [q_u_k (by decide), q_u_k (by decide), q_u_k (by decide), q_u_k (by decide), q_u_k (by decide), q_u_k (by decide)]
    exact hA.1.2.2.1
  · obtain ⟨⟨h1, h2, h3, h4⟩, hb1, hc1, hd1⟩ := hA
    unfold m_A
    simp only [v_half_k (V := V) (a := a) (b := b) (l := l) (k := 0) (by decide), v_half_k (V := V) (a := a) (b := b) (l := l) (k := 6) (by decide), v_half_k (V := V) (a := a) (b := b) (l := l) (k := 1) (by decide), v_half_k (V := V) (a := a) (b := b) (l := l) (k := 2) (by decide), v_half_k (V := V) (a := a) (b := b) (l := l) (k := 8) (by decide), v_half_k (V := V) (a := a) (b := b) (l := l) (k := 9) (by decide), v_half_k (V := V) (a := a) (b := b) (l := l) (k := 11) (by decide), v_half_k (V := V) (a := a) (b := b) (l := l) (k := 12) (by decide), v_half_k (V := V) (a := a) (b := b) (l := l) (k := 13) (by decide), v_half_k (V := V) (a := a) (b := b) (l := l) (k := 14) (by decide), v_half_7, v_half_3, v_half_4 hab, v_half_5 hab]
    refine ⟨⟨h1, h2, q_u_s, h4⟩, fun e he => ?_, hc1, hd1⟩
    obtain ⟨f2, f3, f4, f5, f6⟩ := hb1 e he
    rw [q_u_k (show 2 ≠ 10 by decide), q_u_k (show 2 ≠ 3 by decide), q_u_k (show 2 ≠ 3 by decide), q_u_k (show 2 ≠ 5 by decide), q_u_k (show 2 ≠ 5 by decide), q_u_k (show 2 ≠ 6 by decide), q_u_k (show 2 ≠ 6 by decide), q_u_k (show 4 ≠ 10 by decide), q_u_k (show 4 ≠ 3 by decide), q_u_k (show 4 ≠ 3 by decide), q_u_k (show 4 ≠ 5 by decide), q_u_k (show 4 ≠ 5 by decide), q_u_k (show 4 ≠ 6 by decide), q_u_k (show 4 ≠ 6 by decide), q_u_k (show 3 ≠ 10 by decide), q_u_k (show 5 ≠ 10 by decide), q_u_k (show 5 ≠ 3 by decide), q_u_k (show 5 ≠ 3 by decide), q_u_k (show 6 ≠ 10 by decide), q_u_k (show 6 ≠ 3 by decide), q_u_k (show 6 ≠ 3 by decide), q_u_k (show 6 ≠ 5 by decide), q_u_k (show 6 ≠ 5 by decide)]
    simp only [q_u_if, q_u_k (show 3 ≠ 5 by decide), q_u_k (show 3 ≠ 6 by decide), q_u_k (show 5 ≠ 6 by decide)]
    refine ⟨f2, ?_, f4, ?_, ?_⟩
    · split
      · rfl
      · split
        · rfl
        · exact f3
    · split
      · rw [show V 8 l + V 9 l - (V 8 l + V 9 l + 1) / 2 = (V 8 l + V 9 l) / 2 by omega]
      · split
        · rfl
        · exact f5
    · split
      · rw [show V 8 l - (V 8 l + 1) / 2 = V 8 l / 2 by omega]
      · split
        · rfl
        · exact f6
  · exact ((((((m_fr.rf.u (by omega)).u (by omega)).u (by omega)).u (by omega)).u (by omega)).u (by omega)).u (by omega)
theorem o_halve {b : Nat} {s0 s1 s2 s3 μ : q_S} (h : r_R b s0 s1 s2 s3 μ) (x y v : Int32) : ∃ r s2' μ', zX3_halve s2 x y v = some (r, s2') ∧ zX4_halve μ x y v = some (r, μ') ∧ r_R (b + 1) s0 s1 s2' s3 μ' := by
  have hup := h.up
  obtain ⟨V, K, n, c, vr, sp, h⟩ := h
  have h' := h
  obtain ⟨⟨hA, hW, hM, h11⟩, h2, h3, h6, h9⟩ := h
  have hE := hW.E
  have hL := hW.L
  unfold zX3_halve zX4_halve
  have no : ∀ r : Int32, ∃ r' s2' μ', some (r, s2) = some (r', s2') ∧ some (r, μ) = some (r', μ') ∧ r_R (b + 1) s0 s1 s2' s3 μ' := fun r => ⟨r, s2, μ, rfl, rfl, hup⟩
  by_cases x0 : x < 0
  · rw [c_isEater_neg x0, m_isEater_neg x0, a_b1, a_b1, a_0e, a_0e]
    exact no _
  · obtain ⟨a, ha, rfl⟩ := nI_of x0
    rw [c_isEater hA hW ha, m_isEater hM hW ha, a_b1, a_b1, a_pe, a_pe]
    by_cases za : a < V 0 0
    · rw [if_pos za, if_pos za]
      by_cases y0 : y < 0
      · rw [c_isEater_neg y0, m_isEater_neg y0, a_b1, a_b1, a_0e, a_0e]
        exact no _
      · obtain ⟨d, hd, rfl⟩ := nI_of y0
        rw [c_isEater hA hW hd, m_isEater hM hW hd, a_b1, a_b1, a_pe, a_pe]
        by_cases zd : d < V 0 0
        · rw [if_pos zd, if_pos zd]
          by_cases had : a = d
          · rw [if_pos (by rw [had]), if_pos (by rw [had])]
            exact no _
          · have hne : ¬ nI a = nI d := fun k => had ((a_eq (by omega) (by omega)).mp k)
            rw [if_neg hne, if_neg hne]
            by_cases v0 : v < 0
            · rw [c_isLoaf_neg v0, m_isLoaf_neg v0, a_b1, a_b1, a_0e, a_0e]
              exact no _
            · obtain ⟨l, hl, rfl⟩ := nI_of v0
              rw [c_isLoaf hA hW hl, m_isLoaf hM hW hl, a_b1, a_b1, a_pe, a_pe]
              by_cases zl : l < V 6 0
              · rw [if_pos zl, if_pos zl, c_wouldTake hA hW ha hl, m_would hM hW za zl, a_b1, a_b1, a_be, a_be]
                by_cases q : v_wt V a l = true
                · rw [if_pos q, if_pos q, c_wouldTake hA hW hd hl, m_would hM hW zd zl, a_b1, a_b1, a_be, a_be]
                  by_cases q2 : v_wt V d l = true
                  · obtain ⟨w1, w2, w3, w4, w5⟩ := v_wt_of q
                    obtain ⟨s2', k1, k2⟩ := c_takeHalves hA hW za zd had zl
                    obtain ⟨y28, y30, y32, y34, t1, t2, t3, t4, t5, t6, t7⟩ := m_halves hM hW za zd had zl
                    have hia : q_ib (nI a) 4 = true := a_ib (by omega) (by omega)
                    have hid : q_ib (nI d) 4 = true := a_ib (by omega) (by omega)
                    have hil : q_ib (nI l) 8 = true := a_ib (by omega) (by omega)
                    have ca := a_cl (i := a) (by omega)
                    have cd := a_cl (i := d) (by omega)
                    have cl := a_cl (i := l) (by omega)
                    obtain ⟨b8, b9⟩ := hM.2.2.1 l zl
                    have k3 := hW.dh zl
                    have a6 := (hM.2.1 a za).2.2.2.2
                    have d6 := (hM.2.1 d zd).2.2.2.2
                    simp only [a_gd hia, a_gd hid, a_gd hil, a_lt', ca, cd, cl]
                    rw [if_pos q2, if_pos q2, k1, a_b1, k2 4 a (by show a < 4; omega), k2 4 d (by show d < 4; omega), b8, b9, a6, q_u_j (fun k => had k.symm), q_u_k (show 8 ≠ 6 by decide), d6, b8, nI_1 (V 8 l), nI_add (V 8 l) (V 9 l), nI_1 (V 8 l + V 9 l), show (2 : Int32) = nI 2 from rfl, pk_div (a := V 8 l + 1) (by omega) (by omega) (by omega), pk_div (a := V 8 l) (by omega) (by omega) (by omega), pk_div (a := V 8 l + V 9 l + 1) (by omega) (by omega) (by omega), pk_div (a := V 8 l + V 9 l) (by omega) (by omega) (by omega), nI_add (V 5 a), nI_add (V 5 d), t1, a_b1, t2, a_b1, t3, a_b1, t4, a_b1, t5, a_shl (by omega), a_or (by have := hW.bL; omega) (Nat.pow_lt_pow_right (by omega) (by omega)), (t6.2.1 a (by rw [v_half_k (by decide)]; exact za)).2.2.2.1, (t6.2.1 d (by rw [v_half_k (by decide)]; exact zd)).2.2.2.1]
                    exact ⟨_, s2', _, rfl, rfl, h'.upd k2 (hW.half za zd had zl w4) t6 (by rw [t7 11 (by decide) (by decide) (by decide) (by decide), v_half_k (by decide)]; exact h11) (r_fr.m t7) (fun k => k.half)⟩
                  · rw [if_neg q2, if_neg q2]
                    exact no _
                · rw [if_neg q, if_neg q]
                  exact no _
              · rw [if_neg zl, if_neg zl]
                exact no _
        · rw [if_neg zd, if_neg zd]
          exact no _
    · rw [if_neg za, if_neg za]
      exact no _
theorem r_C.wn {V K : q_V} (h : r_C V K) (x : Nat) : r_C (v_u (v_wn V 4) 10 0 x) K := by
  obtain ⟨h1, h2, h3, h4⟩ := h
  refine ⟨?_, ?_, fun e' he => ?_, fun l' hl => ?_⟩
  · rw [v_u_k (by decide), v_wn_k (by decide)]; exact h1
  · rw [v_u_k (by decide), v_wn_k (by decide)]; exact h2
  · rw [v_u_k (by decide), v_wn_k (by decide)]; exact h3 e' he
  · rw [v_u_k (by decide), v_wn_k (by decide), v_u_k (by decide), v_wn_k (by decide)]; exact h4 l' hl
theorem a_z0 {n : Nat} (hn : n < 2 ^ 31) : (nI n = (0 : Int32)) ↔ n = 0 := a_eq (b := 0) hn (by omega)
theorem o_winter {b : Nat} {s0 s1 s2 s3 μ : q_S} (h : r_R b s0 s1 s2 s3 μ) : ∃ r s2' μ', zX3_winter s2 = some (r, s2') ∧ zX4_winter μ = some (r, μ') ∧ r_R (b + 1) s0 s1 s2' s3 μ' := by
  have hup := h.up
  obtain ⟨V, K, n, c, vr, sp, h⟩ := h
  have h' := h
  obtain ⟨⟨hA, hW, hM, h11⟩, h2, h3, h6, h9⟩ := h
  have hE := hW.E
  unfold zX3_winter zX4_winter
  rw [c_isRead hA hW, a_b1, hM.1.1]
  by_cases z : V 0 0 = 0
  · rw [if_pos z, a_0e, if_pos (by rw [z]; rfl)]
    exact ⟨_, s2, μ, rfl, rfl, hup⟩
  · rw [if_neg z, a_1e, if_neg (fun k => z ((a_z0 (by omega)).mp k))]
    obtain ⟨s2', k1, k2⟩ := c_passWinter hA hW
    obtain ⟨μ1, k3, k4, k5⟩ := m_passWinter hM hW
    have hW2 := (hW.wn 4).c10 (V 10 0 + 1)
    have e11 : μ1 11 0 + (1 : Int32) = nI (V 10 0 + 1) := by
      rw [k5 11 (by decide) (by decide) (by decide) (by decide), h11, nI_1]
    have k4' : m_A (q_u μ1 11 0 (nI (V 10 0 + 1))) (v_u (v_wn V 4) 10 0 (V 10 0 + 1)) := by
      have k := k4.c10 (V 10 0 + 1)
      unfold m_A at k ⊢
      rw [q_u_k (by decide), q_u_k (by decide), q_u_k (by decide), q_u_k (by decide), q_u_k (by decide), q_u_k (by decide), q_u_k (by decide), q_u_k (by decide), q_u_k (by decide), q_u_k (by decide), q_u_k (by decide), q_u_k (by decide), q_u_k (by decide), q_u_k (by decide)]
      exact k
    rw [k1, k3, a_b1, a_b1, a_lt', e11, c_sumOf (g := (v_u (v_wn V 4) 10 0 (V 10 0 + 1)) 4) (fun j hj => k2 4 j hj), a_b1, m_carriesAll k4' hW2, a_b1]
    exact ⟨_, s2', _, rfl, rfl, h'.upd k2 hW2 k4' (by rw [q_u_s, v_u_s]) ((r_fr.m k5).u (by decide) (by decide) (by decide)) (fun k => k.wn _)⟩
