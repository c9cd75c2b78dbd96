/-! about, as, loaf -/
def o_e (V : q_V) (e w : Nat) : Int32 := if w = 0 then nI (V 2 e) else if w = 1 then nI (V 3 e) else if w = 2 then (if (V 1 0).testBit e = true then 1 else 0) else if w = 3 then nI (V 4 e) else if w = 4 then nI (V 5 e) else if w = 5 then nI (v_bits (v_wt V e) 8) else if w = 6 then nI (v_f V e (v_bits (v_wt V e) 8 + 1)).2 else nI (v_f V e (v_bits (v_wt V e) 8 + 1)).1
def o_l (V : q_V) (l w : Nat) : Int32 := if w = 0 then nI (V 8 l) else if w = 1 then nI (V 9 l) else if w = 2 then (if (V 7 0).testBit l = true then 1 else 0) else if w = 3 then nI (v_bits (v_sd V l) 10) else (if v_bits (v_sd V l) 10 = 0 then -1 else nI (v_bq (v_lw (v_bits (v_sd V l) 10) (V 8 l)) 20).1)
theorem a_10 : ¬ (1 : Int32) = 0 := by decide
theorem a_bit01 {b : Bool} : (if (if b = true then (1 : Int32) else 0) = 0 then (some (0 : Int32)) else some (1 : Int32)) = some (if b = true then (1 : Int32) else 0) := by cases b <;> rfl
theorem c_aboutE {σ : q_S} {V : q_V} (hA : v_A σ V) (hW : v_W V) {e w : Nat} (he : e < V 0 0) (hw : w < 8) : zX3_aboutEater σ (nI e) (nI w) = some (o_e V e w) := by
  have hE := hW.E
  have hi : q_ib (nI e) 4 = true := a_ib (by omega) (by omega)
  have hc := a_cl (i := e) (by omega)
  unfold zX3_aboutEater
  rw [c_isEater hA hW (by omega), a_b1, if_pos he, if_neg (by decide)]
  have q : w = 0 ∨ w = 1 ∨ w = 2 ∨ w = 3 ∨ w = 4 ∨ w = 5 ∨ w = 6 ∨ w = 7 := by omega
  rcases q with q | q | q | q | q | q | q | q <;> subst q
  · show _ = some (nI (V 2 e))
    rw [if_pos (by decide), a_gd hi, hc, hA 2 e (by show e < 4; omega)]
  · show _ = some (nI (V 3 e))
    rw [if_neg (by decide), if_pos (by decide), a_gd hi, hc, hA 3 e (by show e < 4; omega)]
  · show _ = some (if (V 1 0).testBit e = true then 1 else 0)
    rw [if_neg (by decide), if_neg (by decide), if_pos (by decide), c_isAlive hA hW (by omega), a_b1]
    exact a_bit01
  · show _ = some (nI (V 4 e))
    rw [if_neg (by decide), if_neg (by decide), if_neg (by decide), if_pos (by decide), a_gd hi, hc, hA 4 e (by show e < 4; omega)]
  · show _ = some (nI (V 5 e))
    rw [if_neg (by decide), if_neg (by decide), if_neg (by decide), if_neg (by decide), if_pos (by decide), a_gd hi, hc, hA 5 e (by show e < 4; omega)]
  · show _ = some (nI (v_bits (v_wt V e) 8))
    rw [if_neg (by decide), if_neg (by decide), if_neg (by decide), if_neg (by decide), if_neg (by decide), if_pos (by decide), c_takenNow hA hW (by omega), a_b1]
  · have hle := v_f_le hW e (v_bits (v_wt V e) 8 + 1)
    have hb := v_bits_lt (v_wt V e) 8
    show _ = some (nI (v_f V e (v_bits (v_wt V e) 8 + 1)).2)
    rw [if_neg (by decide), if_neg (by decide), if_neg (by decide), if_neg (by decide), if_neg (by decide), if_neg (by decide), if_pos (by decide), c_bestFed hA hW he, a_b1, c_deedsOf hA hW (by omega), a_b1, v_f_ds]
  · show _ = some (nI (v_f V e (v_bits (v_wt V e) 8 + 1)).1)
    rw [if_neg (by decide), if_neg (by decide), if_neg (by decide), if_neg (by decide), if_neg (by decide), if_neg (by decide), if_neg (by decide), if_pos (by decide), c_bestFed hA hW he, a_b1]
theorem m_aboutE {μ : q_S} {V : q_V} (hA : m_A μ V) (hW : v_W V) {e w : Nat} (he : e < V 0 0) (hw : w < 8) : ∃ μ', zX4_eaterNow μ (nI e) (nI w) = some (o_e V e w, μ') ∧ m_z μ μ' := by
  have hE := hW.E
  have hi : q_ib (nI e) 4 = true := a_ib (by omega) (by omega)
  have hc := a_cl (i := e) (by omega)
  obtain ⟨b2, b3, b4, b5, b6⟩ := hA.2.1 e he
  unfold zX4_eaterNow
  have q : w = 0 ∨ w = 1 ∨ w = 2 ∨ w = 3 ∨ w = 4 ∨ w = 5 ∨ w = 6 ∨ w = 7 := by omega
  rcases q with q | q | q | q | q | q | q | q <;> subst q
  · refine ⟨μ, ?_, m_z.rf⟩
    show _ = some ((nI (V 2 e)), μ)
    rw [if_pos (by decide), a_gd hi, hc, b2]
  · refine ⟨μ, ?_, m_z.rf⟩
    show _ = some ((nI (V 3 e)), μ)
    rw [if_neg (by decide), if_pos (by decide), a_gd hi, hc, b3]
  · refine ⟨μ, ?_, m_z.rf⟩
    show _ = some ((if (V 1 0).testBit e = true then 1 else 0), μ)
    rw [if_neg (by decide), if_neg (by decide), if_pos (by decide), a_gd hi, hc, b4]
    cases (V 1 0).testBit e <;> rfl
  · refine ⟨μ, ?_, m_z.rf⟩
    show _ = some ((nI (V 4 e)), μ)
    rw [if_neg (by decide), if_neg (by decide), if_neg (by decide), if_pos (by decide), a_gd hi, hc, b5]
  · refine ⟨μ, ?_, m_z.rf⟩
    show _ = some ((nI (V 5 e)), μ)
    rw [if_neg (by decide), if_neg (by decide), if_neg (by decide), if_neg (by decide), if_pos (by decide), a_gd hi, hc, b6]
  · refine ⟨μ, ?_, m_z.rf⟩
    show _ = some ((nI (v_bits (v_wt V e) 8)), μ)
    rw [if_neg (by decide), if_neg (by decide), if_neg (by decide), if_neg (by decide), if_neg (by decide), if_pos (by decide), m_wouldBits hA hW he, a_b1]
  · obtain ⟨μ', r1, r2, r3⟩ := m_fed hA hW he (f := 1) (by omega)
    refine ⟨μ', ?_, r3⟩
    show _ = some ((nI (v_f V e (v_bits (v_wt V e) 8 + 1)).2), μ')
    rw [if_neg (by decide), if_neg (by decide), if_neg (by decide), if_neg (by decide), if_neg (by decide), if_neg (by decide), if_pos (by decide)]
    have r1' : zX4_fedNow μ (nI e) (1 : Int32) = _ := r1
    rw [r1', a_b2]; rfl
  · obtain ⟨μ', r1, r2, r3⟩ := m_fed hA hW he (f := 0) (by omega)
    refine ⟨μ', ?_, r3⟩
    show _ = some ((nI (v_f V e (v_bits (v_wt V e) 8 + 1)).1), μ')
    rw [if_neg (by decide), if_neg (by decide), if_neg (by decide), if_neg (by decide), if_neg (by decide), if_neg (by decide), if_neg (by decide)]
    have r1' : zX4_fedNow μ (nI e) (0 : Int32) = _ := r1
    rw [r1', a_b2]; rfl
theorem c_aboutL {σ : q_S} {V : q_V} (hA : v_A σ V) (hW : v_W V) {l w : Nat} (hl : l < V 6 0) (hw : w < 5) : zX3_aboutLoaf σ (nI l) (nI w) = some (o_l V l w) := by
  have hL := hW.L
  have hi : q_ib (nI l) 8 = true := a_ib (by omega) (by omega)
  have hc := a_cl (i := l) (by omega)
  unfold zX3_aboutLoaf
  rw [c_isLoaf hA hW (by omega), a_b1, if_pos hl, if_neg (by decide)]
  have q : w = 0 ∨ w = 1 ∨ w = 2 ∨ w = 3 ∨ w = 4 := by omega
  rcases q with q | q | q | q | q <;> subst q
  · show _ = some (nI (V 8 l))
    rw [if_pos (by decide), a_gd hi, hc, hA 8 l (by show l < 8; omega)]
  · show _ = some (nI (V 9 l))
    rw [if_neg (by decide), if_pos (by decide), a_gd hi, hc, hA 9 l (by show l < 8; omega)]
  · show _ = some (if (V 7 0).testBit l = true then 1 else 0)
    rw [if_neg (by decide), if_neg (by decide), if_pos (by decide), c_wasEaten hA hW (by omega), a_b1]
    exact a_bit01
  · show _ = some (nI (v_bits (v_sd V l) 10))
    rw [if_neg (by decide), if_neg (by decide), if_neg (by decide), if_pos (by decide), c_baked hA hW (by omega), a_b1]
  · have hb := v_bits_lt (v_sd V l) 10
    have hd := hW.dd hl
    show _ = some (if v_bits (v_sd V l) 10 = 0 then -1 else nI (v_bq (v_lw (v_bits (v_sd V l) 10) (V 8 l)) 20).1)
    rw [if_neg (by decide), if_neg (by decide), if_neg (by decide), if_neg (by decide), if_pos (by decide), c_baked hA hW (by omega), a_b1, a_gd hi, hc, hA 8 l (by show l < 8; omega), c_quest (by omega) (by omega), a_b1]
theorem m_aboutL {μ : q_S} {V : q_V} (hA : m_A μ V) (hW : v_W V) {l w : Nat} (hl : l < V 6 0) (hw : w < 5) : zX4_loafNow μ (nI l) (nI w) = some (o_l V l w, μ) := by
  have hL := hW.L
  have hbL := hW.bL
  have hi : q_ib (nI l) 8 = true := a_ib (by omega) (by omega)
  have hc := a_cl (i := l) (by omega)
  obtain ⟨b8, b9⟩ := hA.2.2.1 l hl
  unfold zX4_loafNow
  have q : w = 0 ∨ w = 1 ∨ w = 2 ∨ w = 3 ∨ w = 4 := by omega
  rcases q with q | q | q | q | q <;> subst q
  · show _ = some ((nI (V 8 l)), μ)
    rw [if_pos (by decide), a_gd hi, hc, b8]
  · show _ = some ((nI (V 9 l)), μ)
    rw [if_neg (by decide), if_pos (by decide), a_gd hi, hc, b9]
  · show _ = some ((if (V 7 0).testBit l = true then 1 else 0), μ)
    rw [if_neg (by decide), if_neg (by decide), if_pos (by decide), hA.1.2.2.1, a_bit (by omega) (by omega)]
    cases (V 7 0).testBit l <;> rfl
  · show _ = some ((nI (v_bits (v_sd V l) 10)), μ)
    rw [if_neg (by decide), if_neg (by decide), if_neg (by decide), if_pos (by decide), m_baked hA hW hl, a_b2]
  · show _ = some ((if v_bits (v_sd V l) 10 = 0 then -1 else nI (v_bq (v_lw (v_bits (v_sd V l) 10) (V 8 l)) 20).1), μ)
    rw [if_neg (by decide), if_neg (by decide), if_neg (by decide), if_neg (by decide), m_ask hA hW hl, a_b2]
theorem o_about {b : Nat} {s0 s1 s2 s3 μ : q_S} (h : r_R b s0 s1 s2 s3 μ) (x y : Int32) : ∃ r μ', zX3_about s2 x y = some r ∧ zX4_about μ x y = some (r, μ') ∧ r_R (b + 1) s0 s1 s2 s3 μ' := by
  have hup := h.up
  obtain ⟨V, K, n, c, vr, sp, h⟩ := h
  have h' := h
  obtain ⟨⟨hA, hW, hM, h11⟩, h2, h3, h6, h9⟩ := h
  have hE := hW.E
  unfold zX3_about zX4_about
  by_cases x0 : x < 0
  · rw [c_isEater_neg x0, m_isEater_neg x0, a_b1, a_b1, if_pos rfl, if_pos rfl]
    exact ⟨_, μ, rfl, rfl, hup⟩
  · obtain ⟨e, he, rfl⟩ := nI_of x0
    rw [c_isEater hA hW he, m_isEater hM hW he, a_b1, a_b1]
    by_cases z : e < V 0 0
    · rw [if_pos z, if_neg a_10, if_neg a_10]
      unfold zX4_within
      by_cases y0 : y < 0
      · rw [if_pos y0, if_pos y0, a_b1, if_pos rfl]
        exact ⟨_, μ, rfl, rfl, hup⟩
      · rw [if_neg y0, if_neg y0]
        by_cases y7 : y ≤ 7
        · rw [if_pos y7, if_neg (Int32.not_lt.mpr y7), a_b1, if_neg (by decide)]
          obtain ⟨w, hw, rfl⟩ := nI_of y0
          rw [show (7 : Int32) = nI 7 from rfl, a_le (by omega) (by omega)] at y7
          obtain ⟨μ', r1, r2⟩ := m_aboutE hM hW z (w := w) (by omega)
          rw [c_aboutE hA hW z (by omega), a_b1, r1, a_b2]
          exact ⟨_, μ', rfl, rfl, h'.upd hA hW (r2.A hM hE) (by rw [r2 11 0 (by decide) (by decide) (by decide)]; exact h11) (r_fr.z r2) id⟩
        · rw [if_neg y7, if_pos (Int32.not_le.mp y7), a_b1, if_pos rfl]
          exact ⟨_, μ, rfl, rfl, hup⟩
    · rw [if_neg z, if_pos rfl, if_pos rfl]
      exact ⟨_, μ, rfl, rfl, hup⟩
theorem o_loaf {b : Nat} {s0 s1 s2 s3 μ : q_S} (h : r_R b s0 s1 s2 s3 μ) (x y : Int32) : ∃ r μ', zX3_loaf s2 x y = some r ∧ zX4_loaf μ x y = some (r, μ') ∧ r_R (b + 1) s0 s1 s2 s3 μ' := by
  have hup := h.up
  obtain ⟨V, K, n, c, vr, sp, h⟩ := h
  obtain ⟨⟨hA, hW, hM, h11⟩, h2, h3, h6, h9⟩ := h
  have hL := hW.L
  refine Exists.imp (fun r hr => ⟨μ, hr.1, hr.2, hup⟩) (?_ : ∃ r, zX3_loaf s2 x y = some r ∧ zX4_loaf μ x y = some (r, μ))
  unfold zX3_loaf zX4_loaf
  by_cases x0 : x < 0
  · rw [c_isLoaf_neg x0, m_isLoaf_neg x0, a_b1, a_b1, if_pos rfl, if_pos rfl]
    exact ⟨_, rfl, rfl⟩
  · obtain ⟨l, hl, rfl⟩ := nI_of x0
    rw [c_isLoaf hA hW hl, m_isLoaf hM hW hl, a_b1, a_b1]
    by_cases z : l < V 6 0
    · rw [if_pos z, if_neg a_10, if_neg a_10]
      unfold zX4_within
      by_cases y0 : y < 0
      · rw [if_pos y0, if_pos y0, a_b1, if_pos rfl]
        exact ⟨_, rfl, rfl⟩
      · rw [if_neg y0, if_neg y0]
        by_cases y4 : y ≤ 4
        · rw [if_pos y4, if_neg (Int32.not_lt.mpr y4), a_b1, if_neg (by decide)]
          obtain ⟨w, hw, rfl⟩ := nI_of y0
          rw [show (4 : Int32) = nI 4 from rfl, a_le (by omega) (by omega)] at y4
          rw [c_aboutL hA hW z (by omega), a_b1, m_aboutL hM hW z (by omega), a_b2]
          exact ⟨_, rfl, rfl⟩
        · rw [if_neg y4, if_pos (Int32.not_le.mp y4), a_b1, if_pos rfl]
          exact ⟨_, rfl, rfl⟩
    · rw [if_neg z, if_pos rfl, if_pos rfl]
      exact ⟨_, rfl, rfl⟩
theorem o_as {b : Nat} {s0 s1 s2 s3 μ : q_S} (h : r_R b s0 s1 s2 s3 μ) (x y : Int32) : ∃ r, zX3_as s2 x y = some r ∧ zX4_as μ x y = some r := by
  obtain ⟨V, K, n, c, vr, sp, h⟩ := h
  obtain ⟨⟨hA, hW, hM, h11⟩, h2, h3, h6, h9⟩ := h
  have hE := hW.E
  unfold zX3_as zX4_as
  by_cases x0 : x < 0
  · rw [c_isEater_neg x0, m_isEater_neg x0, a_b1, a_b1, if_pos rfl, if_pos rfl]
    exact ⟨_, rfl, rfl⟩
  · obtain ⟨e, he, rfl⟩ := nI_of x0
    rw [c_isEater hA hW he, m_isEater hM hW he, a_b1, a_b1]
    by_cases z : e < V 0 0
    · rw [if_pos z, if_neg a_10, if_neg a_10]
      have b2 := (hM.2.1 e z).1
      have hk := hW.kd (e := e) (by omega)
      have hi : q_ib (nI e) 4 = true := a_ib (by omega) (by omega)
      have hc := a_cl (i := e) (by omega)
      unfold zX4_within
      by_cases y0 : y < 0
      · rw [if_pos y0, if_pos y0, a_b1, if_pos rfl]
        exact ⟨_, rfl, rfl⟩
      · rw [if_neg y0, if_neg y0]
        by_cases y4 : y ≤ 4
        · rw [if_pos y4, if_neg (Int32.not_lt.mpr y4), a_b1, if_neg (by decide), a_gd hi, a_gd hi, hc, hA 2 e (by show e < 4; omega), b2]
          obtain ⟨w, hw, rfl⟩ := nI_of y0
          rw [show (4 : Int32) = nI 4 from rfl, a_le (by omega) (by omega)] at y4
          refine ⟨if w = 0 ∨ w = V 2 e ∨ (w = 1 ∧ V 2 e = 4) then nI e else -1, ?_, ?_⟩
          · rw [c_isSuch _ (by omega) _ (by omega), a_b1]
            by_cases q : w = 0 ∨ w = V 2 e ∨ (w = 1 ∧ V 2 e = 4)
            · rw [if_pos q, if_pos q, if_neg (by decide)]
            · rw [if_neg q, if_neg q, if_pos rfl]
          · rw [a_lt']
            by_cases q0 : w = 0
            · rw [if_pos (by rw [q0]; rfl), if_pos (Or.inl q0)]
            · rw [if_neg (show ¬ nI w = (0 : Int32) from fun k => q0 ((a_eq (b := 0) (by omega) (by omega)).mp k))]
              by_cases q1 : w = V 2 e
              · rw [if_pos (by rw [q1]), if_pos (Or.inr (Or.inl q1))]
              · rw [if_neg (show ¬ nI (V 2 e) = nI w from fun k => q1 ((a_eq (by omega) (by omega)).mp k).symm)]
                by_cases q2 : w = 1
                · rw [if_pos (by rw [q2]; rfl)]
                  by_cases q3 : V 2 e = 4
                  · rw [if_pos (by rw [q3]; rfl), if_pos (Or.inr (Or.inr ⟨q2, q3⟩))]
                  · rw [if_neg (show ¬ nI (V 2 e) = (4 : Int32) from fun k => q3 ((a_eq (b := 4) (by omega) (by omega)).mp k)), if_neg (fun k => by
                      rcases k with k | k | k
                      · exact q0 k
                      · exact q1 k
                      · exact q3 k.2)]
                · rw [if_neg (show ¬ nI w = (1 : Int32) from fun k => q2 ((a_eq (b := 1) (by omega) (by omega)).mp k)), if_neg (fun k => by
                    rcases k with k | k | k
                    · exact q0 k
                    · exact q1 k
                    · exact q2 k.1)]
        · rw [if_neg y4, if_pos (Int32.not_le.mp y4), a_b1, if_pos rfl]
          exact ⟨_, rfl, rfl⟩
    · rw [if_neg z, if_pos rfl, if_pos rfl]
      exact ⟨_, rfl, rfl⟩
