/-! the reference: a winter, saving, loading, one's best set -/
theorem m_w1 {μ : q_S} {V : q_V} (hA : m_A μ V) (hW : v_W V) {e : Nat} (he : e < V 0 0) (k2 : q_S → Int32 → Option q_S) (G : q_S → Prop) (hG : ∀ μ', m_A μ' (v_w1 V e) → m_fr μ μ' → G μ') : ∃ μ', G μ' ∧ (q_gd (q_ib (nI e) 4) (if (μ 4 (nI e).toNatClampNeg) = 0 then (q_lt (nI e + 1) fun x15 => k2 μ x15) else (q_gd (q_ib (nI e) 4) (if (μ 3 (nI e).toNatClampNeg) ≤ (6 : Int32) then (q_gd (q_ib (nI e) 4) (zX4_passWinter_48 k2 μ (nI e) (nI e) ((μ 3 (nI e).toNatClampNeg) + (3 : Int32)))) else (zX4_passWinter_48 k2 μ (nI e) (nI e) (9 : Int32)))))) = k2 μ' (nI e + 1) := by
  have hE := hW.E
  obtain ⟨h2, h3, h4, h5, h6⟩ := hA.2.1 e he
  have g4 : q_ib (nI e) 4 = true := a_ib (by omega) (by omega)
  have kg := hW.hg (e := e) (by omega)
  have kd := hW.kd (e := e) (by omega)
  unfold zX4_passWinter_48
  simp only [a_gd g4, a_lt', a_cl (show e < 2 ^ 31 by omega)]
  rw [h4]
  by_cases b1 : (V 1 0).testBit e = true
  · rw [if_pos b1, if_neg (by decide)]
    -- the hunger, either way
    have key : ∀ (x : Int32), x = nI (min (V 3 e + 3) 9) → ∃ μ', G μ' ∧ (if (q_u μ 3 e x 2 e) = (4 : Int32) then k2 (q_u (q_u μ 3 e x) 5 e (0 : Int32)) (nI e + 1) else k2 (q_u (q_u μ 3 e x) 5 e (q_u μ 3 e x 5 e)) (nI e + 1)) = k2 μ' (nI e + 1) := by
      intro x hx
      subst hx
      rw [q_u_k (k' := 2) (by decide), h2]
      have e4 : (nI (V 2 e) = (4 : Int32)) ↔ V 2 e = 4 := a_eq (b := 4) (by omega) (by omega)
      have base : ∀ c : Int32, c = nI (v_w1 V e 4 e) → G (q_u (q_u μ 3 e (nI (min (V 3 e + 3) 9))) 5 e c) := by
        intro c hc
        refine hG _ ?_ ((m_fr.rf.u (by decide)).u (by decide))
        obtain ⟨⟨a1, a2, a3, a4⟩, b, cc, d⟩ := hA
        unfold m_A
        simp only [v_w1_k (V := V) (e := e) (k := 0) (by decide), v_w1_k (V := V) (e := e) (k := 6) (by decide), v_w1_k (V := V) (e := e) (k := 1) (by decide), v_w1_k (V := V) (e := e) (k := 7) (by decide), v_w1_k (V := V) (e := e) (k := 2) (by decide), v_w1_k (V := V) (e := e) (k := 5) (by decide), v_w1_k (V := V) (e := e) (k := 8) (by decide), v_w1_k (V := V) (e := e) (k := 9) (by decide), v_w1_k (V := V) (e := e) (k := 11) (by decide), v_w1_k (V := V) (e := e) (k := 12) (by decide), v_w1_k (V := V) (e := e) (k := 13) (by decide), v_w1_k (V := V) (e := e) (k := 14) (by decide), v_w1_3]
        refine ⟨⟨a1, a2, a3, a4⟩, fun e' he' => ?_, cc, d⟩
        obtain ⟨f2, f3, f4, f5, f6⟩ := b e' he'
        refine ⟨f2, ?_, f4, ?_, f6⟩
        · rw [q_u_k (k' := 3) (by decide), q_u_if]
          by_cases q : e' = e
          · rw [if_pos q, if_pos ⟨he, b1, q⟩]
          · rw [if_neg q, if_neg (fun z => q z.2.2)]; exact f3
        · rw [q_u_if, q_u_k (k' := 5) (by decide)]
          by_cases q : e' = e
          · rw [if_pos q, hc, q]
          · rw [if_neg q, v_w1_4, if_neg (fun z => q z.2.2)]; exact f5
      by_cases c4 : V 2 e = 4
      · rw [if_pos (e4.mpr c4)]
        exact ⟨_, base 0 (by rw [v_w1_4, if_pos ⟨⟨he, b1⟩, c4, rfl⟩]; rfl), rfl⟩
      · rw [if_neg (fun z => c4 (e4.mp z)), q_u_k (k' := 5) (by decide)]
        exact ⟨_, base (μ 5 e) (by rw [v_w1_4, if_neg (fun z => c4 z.2.1)]; exact h5), rfl⟩
    rw [h3]
    by_cases c6 : V 3 e ≤ 6
    · rw [if_pos (show nI (V 3 e) ≤ (6 : Int32) from (a_le (b := 6) (by omega) (by omega)).mpr c6)]
      exact key _ (by rw [show (3 : Int32) = nI 3 from rfl, nI_add, Nat.min_eq_left (by omega)])
    · rw [if_neg (show ¬ nI (V 3 e) ≤ (6 : Int32) from fun z => c6 ((a_le (b := 6) (by omega) (by omega)).mp z))]
      exact key 9 (by rw [Nat.min_eq_right (by omega)]; rfl)
  · rw [if_neg b1, if_pos rfl]
    refine ⟨μ, hG _ ?_ m_fr.rf, rfl⟩
    unfold v_w1
    rw [if_neg (fun z => b1 z.2)]
    exact hA
theorem m_passWinter_l : ∀ (d i : Nat) (V : q_V), i + d = V 0 0 → ∀ (n : Nat), d < n → ∀ (μ : q_S), m_A μ (v_wn V i) → v_W V → ∃ μ', zX4_passWinter_2 n μ (nI i) = some μ' ∧ m_A μ' (v_wn V 4) ∧ m_fr μ μ' := by
  intro d
  induction d with
  | zero =>
    intro i V hi n hn μ hA hW
    have hE := hW.E
    obtain ⟨n, rfl⟩ : ∃ k, n = k + 1 := ⟨n - 1, by omega⟩
    rw [zX4_passWinter_2_s]
    unfold jX4_passWinter_2
    have h0 := hA.1.1
    rw [v_wn_k (by decide)] at h0
    rw [h0, if_pos ((a_le (by omega) (by omega)).mpr (by omega))]
    have h4 := v_wn_up (V := V) (4 - V 0 0)
    rw [show V 0 0 + (4 - V 0 0) = 4 by omega] at h4
    refine ⟨μ, rfl, ?_, m_fr.rf⟩
    rw [h4, show V 0 0 = i by omega]
    exact hA
  | succ d ih =>
    intro i V hi n hn μ hA hW
    have hE := hW.E
    obtain ⟨n, rfl⟩ : ∃ k, n = k + 1 := ⟨n - 1, by omega⟩
    rw [zX4_passWinter_2_s]
    unfold jX4_passWinter_2
    have h0 := hA.1.1
    rw [v_wn_k (by decide)] at h0
    rw [h0, if_neg (by rw [a_le (by omega) (by omega)]; omega)]
    obtain ⟨μ1, ⟨hA1, hf1⟩, h1⟩ := m_w1 hA (hW.wn i) (e := i) (by rw [v_wn_k (by decide)]; omega) (zX4_passWinter_2 n) (fun y => m_A y (v_wn V (i + 1)) ∧ m_fr μ y) (fun y hy hz => ⟨hy, hz⟩)
    obtain ⟨μ2, h2, hA2, hf2⟩ := ih (i + 1) V (by omega) n (by omega) μ1 hA1 hW
    refine ⟨μ2, ?_, hA2, hf1.tr hf2⟩
    rw [h1, nI_1, h2]
theorem m_passWinter {μ : q_S} {V : q_V} (hA : m_A μ V) (hW : v_W V) : ∃ μ', zX4_passWinter μ = some μ' ∧ m_A μ' (v_wn V 4) ∧ m_fr μ μ' := by
  have hE := hW.E
  exact m_passWinter_l (V 0 0) 0 V (by omega) 70000 (by omega) μ hA hW
/-- saved, and equal on what matters -/
def m_S (μ : q_S) : Prop := (∀ e, e < 4 → μ 22 e = μ 3 e ∧ μ 23 e = μ 5 e ∧ μ 24 e = μ 6 e) ∧ μ 25 0 = μ 10 0
def m_sv (μ μ' : q_S) : Prop := ∀ k, (k < 22 ∨ 25 < k) → μ' k = μ k
def m_q (μ μ' : q_S) : Prop := ∀ k j, ((k = 3 ∨ k = 5 ∨ k = 6) → j < 4) → (k = 10 → j = 0) → μ' k j = μ k j
theorem m_q.rf {μ : q_S} : m_q μ μ := fun _ _ _ _ => rfl
theorem m_q.tr {a b c : q_S} (h1 : m_q a b) (h2 : m_q b c) : m_q a c := fun k j x y => (h2 k j x y).trans (h1 k j x y)
theorem m_q.S {μ μ' : q_S} (h : m_q μ μ') (hS : m_S μ) : m_S μ' := by
  refine ⟨fun e he => ?_, ?_⟩
  · obtain ⟨a, b, c⟩ := hS.1 e he
    rw [h 22 e (by omega) (by omega), h 23 e (by omega) (by omega), h 24 e (by omega) (by omega), h 3 e (by omega) (by omega), h 5 e (by omega) (by omega), h 6 e (by omega) (by omega)]
    exact ⟨a, b, c⟩
  · rw [h 25 0 (by omega) (by omega), h 10 0 (by omega) (by omega)]
    exact hS.2
theorem m_A.q {μ μ' : q_S} {V : q_V} (hA : m_A μ V) (hE : V 0 0 ≤ 4) (h : m_q μ μ') : m_A μ' V := by
  obtain ⟨⟨a1, a2, a3, a4⟩, b, c, d⟩ := hA
  refine ⟨⟨?_, ?_, ?_, ?_⟩, fun e he => ?_, fun l hl => ?_, fun k hk => ?_⟩
  · rw [h 1 0 (by omega) (by omega)]; exact a1
  · rw [h 7 0 (by omega) (by omega)]; exact a2
  · rw [h 10 0 (by omega) (by omega)]; exact a3
  · rw [h 12 0 (by omega) (by omega)]; exact a4
  · rw [h 2 e (by omega) (by omega), h 3 e (by omega) (by omega), h 4 e (by omega) (by omega), h 5 e (by omega) (by omega), h 6 e (by omega) (by omega)]
    exact b e he
  · rw [h 8 l (by omega) (by omega), h 9 l (by omega) (by omega)]
    exact c l hl
  · rw [h 13 k (by omega) (by omega), h 14 k (by omega) (by omega), h 15 k (by omega) (by omega)]
    exact d k hk
theorem m_A.sv {μ μ' : q_S} {V : q_V} (hA : m_A μ V) (h : m_sv μ μ') : m_A μ' V := by
  obtain ⟨⟨a1, a2, a3, a4⟩, b, c, d⟩ := hA
  unfold m_A
  rw [h 1 (by omega), h 7 (by omega), h 10 (by omega), h 12 (by omega), h 2 (by omega), h 3 (by omega), h 4 (by omega), h 5 (by omega), h 6 (by omega), h 8 (by omega), h 9 (by omega), h 13 (by omega), h 14 (by omega), h 15 (by omega)]
  exact ⟨⟨a1, a2, a3, a4⟩, b, c, d⟩
theorem m_save_l : ∀ (d i : Nat), i + d = 4 → ∀ (n : Nat), d < n → ∀ (μ0 μ : q_S), m_sv μ0 μ → (∀ e, e < i → μ 22 e = μ0 3 e ∧ μ 23 e = μ0 5 e ∧ μ 24 e = μ0 6 e) → ∃ μ', zX4_save_2 n μ (nI i) = some μ' ∧ m_sv μ0 μ' ∧ m_S μ' := by
  intro d
  induction d with
  | zero =>
    intro i hi n hn μ0 μ hs he
    obtain ⟨n, rfl⟩ : ∃ k, n = k + 1 := ⟨n - 1, by omega⟩
    have : i = 4 := by omega
    subst this
    rw [zX4_save_2_s]
    unfold jX4_save_2
    rw [if_pos (by decide)]
    refine ⟨_, rfl, fun k hk => ?_, fun e h4 => ?_, ?_⟩
    · rw [q_u_k (by omega)]; exact hs k hk
    · obtain ⟨a, b, c⟩ := he e h4
      rw [q_u_k (by omega), q_u_k (by omega), q_u_k (by omega), q_u_k (by omega), q_u_k (by omega), q_u_k (by omega), a, b, c, hs 3 (by omega), hs 5 (by omega), hs 6 (by omega)]
      exact ⟨rfl, rfl, rfl⟩
    · rw [q_u_s, q_u_k (by omega)]
  | succ d ih =>
    intro i hi n hn μ0 μ hs he
    obtain ⟨n, rfl⟩ : ∃ k, n = k + 1 := ⟨n - 1, by omega⟩
    have g4 : q_ib (nI i) 4 = true := a_ib (by omega) (by omega)
    rw [zX4_save_2_s]
    unfold jX4_save_2
    simp only [a_gd g4, a_lt', a_cl (show i < 2 ^ 31 by omega)]
    rw [if_neg (by rw [show (4 : Int32) = nI 4 from rfl, a_le (by omega) (by omega)]; omega), nI_1]
    refine ih (i + 1) (by omega) n (by omega) μ0 _ (fun k hk => ?_) (fun e h4 => ?_)
    · rw [q_u_k (by omega), q_u_k (by omega), q_u_k (by omega)]; exact hs k hk
    · rw [q_u_k (k' := 22) (by omega), q_u_k (k' := 22) (by omega), q_u_if, q_u_k (k' := 23) (by omega), q_u_if, q_u_if, q_u_k (k' := 5) (by omega), q_u_k (k' := 23) (by omega), q_u_k (k' := 6) (by omega), q_u_k (k' := 6) (by omega), q_u_k (k' := 24) (by omega), q_u_k (k' := 24) (by omega)]
      by_cases q : e = i
      · rw [if_pos q, if_pos q, if_pos q, hs 3 (by omega), hs 5 (by omega), hs 6 (by omega), q]
        exact ⟨rfl, rfl, rfl⟩
      · rw [if_neg q, if_neg q, if_neg q]
        exact he e (by omega)
theorem m_save (μ : q_S) : ∃ μ', zX4_save μ = some μ' ∧ m_sv μ μ' ∧ m_S μ' := m_save_l 4 0 rfl 70000 (by omega) μ μ (fun _ _ => rfl) (fun e h => by omega)
theorem m_load_l {μ0 : q_S} (hS : m_S μ0) : ∀ (d i : Nat), i + d = 4 → ∀ (n : Nat), d < n → ∀ (μ : q_S), m_fr μ0 μ → (∀ e, e < i → μ 3 e = μ0 3 e ∧ μ 5 e = μ0 5 e ∧ μ 6 e = μ0 6 e) → ∃ μ', zX4_load_2 n μ (nI i) = some μ' ∧ m_q μ0 μ' := by
  intro d
  induction d with
  | zero =>
    intro i hi n hn μ hs he
    obtain ⟨n, rfl⟩ : ∃ k, n = k + 1 := ⟨n - 1, by omega⟩
    have : i = 4 := by omega
    subst this
    rw [zX4_load_2_s]
    unfold jX4_load_2
    rw [if_pos (by decide)]
    refine ⟨_, rfl, fun k j h1 h2 => ?_⟩
    by_cases q : k = 10
    · subst q
      rw [h2 rfl, q_u_s, hs 25 (by omega) (by omega) (by omega) (by omega), hS.2]
    · rw [q_u_k q]
      by_cases q3 : k = 3
      · subst q3; exact (he j (h1 (by omega))).1
      · by_cases q5 : k = 5
        · subst q5; exact (he j (h1 (by omega))).2.1
        · by_cases q6 : k = 6
          · subst q6; exact (he j (h1 (by omega))).2.2
          · rw [hs k q3 q5 q6 q]
  | succ d ih =>
    intro i hi n hn μ hs he
    obtain ⟨n, rfl⟩ : ∃ k, n = k + 1 := ⟨n - 1, by omega⟩
    have g4 : q_ib (nI i) 4 = true := a_ib (by omega) (by omega)
    rw [zX4_load_2_s]
    unfold jX4_load_2
    simp only [a_gd g4, a_lt', a_cl (show i < 2 ^ 31 by omega)]
    rw [if_neg (by rw [show (4 : Int32) = nI 4 from rfl, a_le (by omega) (by omega)]; omega), nI_1]
    refine ih (i + 1) (by omega) n (by omega) _ (((hs.u (by decide)).u (by decide)).u (by decide)) (fun e h4 => ?_)
    obtain ⟨s1, s2, s3⟩ := hS.1 i (by omega)
    rw [q_u_k (k' := 3) (by omega), q_u_k (k' := 3) (by omega), q_u_if, q_u_k (k' := 5) (by omega), q_u_if, q_u_if, q_u_k (k' := 23) (by omega), q_u_k (k' := 5) (by omega), q_u_k (k' := 24) (by omega), q_u_k (k' := 24) (by omega), q_u_k (k' := 6) (by omega), q_u_k (k' := 6) (by omega)]
    by_cases q : e = i
    · rw [if_pos q, if_pos q, if_pos q, hs 22 (by omega) (by omega) (by omega) (by omega), hs 23 (by omega) (by omega) (by omega) (by omega), hs 24 (by omega) (by omega) (by omega) (by omega), q]
      exact ⟨s1, s2, s3⟩
    · rw [if_neg q, if_neg q, if_neg q]
      exact he e (by omega)
theorem m_load {μ0 μ : q_S} (hS : m_S μ0) (hf : m_fr μ0 μ) : ∃ μ', zX4_load μ = some μ' ∧ m_q μ0 μ' := m_load_l hS 4 0 rfl 70000 (by omega) μ hf (fun e h => by omega)
