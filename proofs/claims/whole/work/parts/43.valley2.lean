/-! the reference's new valley -/
def p_mf (μ μ' : q_S) : Prop := ∀ k, (k = 0 ∨ 10 ≤ k) → μ' k = μ k
theorem p_mv2 {T : q_V} {n : Nat} {c : Nat → Nat} {m q : Nat} {V : q_V} (hT : T = p_V V c m q) (h : p_ok n c m q) : ∀ (d i : Nat), i + d = q → ∀ (k : Nat), d < k → ∀ (μ : q_S), p_M μ n c → μ 7 0 = nI q → (∀ l, l < i → μ 8 l = nI (T 8 l) ∧ μ 9 l = nI (T 9 l)) → ∃ μ', zX4_valley_106 (nI n) k μ (nI i) = some (nI q, μ') ∧ (∀ l, l < q → μ' 8 l = nI (T 8 l) ∧ μ' 9 l = nI (T 9 l)) ∧ (∀ x, x ≠ 0 → x ≠ 8 → x ≠ 9 → x ≠ 10 → x ≠ 11 → x ≠ 12 → x ≠ 17 → μ' x = μ x) ∧ μ' 0 0 = μ 0 0 + 1 ∧ μ' 10 0 = 0 ∧ μ' 11 0 = 0 ∧ μ' 12 0 = 0 ∧ μ' 17 0 = 0 := by
  subst hT
  obtain ⟨⟨h1, h2, h3, h4, h5⟩, h6, h7⟩ := h
  intro d
  induction d with
  | zero =>
    intro i hi k hk μ hM e7 hl
    obtain ⟨k, rfl⟩ : ∃ m, k = m + 1 := ⟨k - 1, by omega⟩
    rw [zX4_valley_106_s]
    unfold jX4_valley_106
    simp only [a_lt']
    rw [e7, if_pos ((a_le (by omega) (by omega)).mpr (by omega))]
    refine ⟨q_u (q_u (q_u (q_u (q_u μ 0 0 (μ 0 0 + 1)) 10 0 0) 11 0 0) 12 0 0) 17 0 0, ?_, fun l hl' => ?_, fun x a0 a8 a9 a10 a11 a12 a17 => ?_, ?_, ?_, ?_, ?_, q_u_s⟩
    · rw [q_u_k (show 7 ≠ 17 by decide), q_u_k (show 7 ≠ 12 by decide), q_u_k (show 7 ≠ 11 by decide), q_u_k (show 7 ≠ 10 by decide), q_u_k (show 7 ≠ 0 by decide), e7]
    · rw [q_u_k (show 8 ≠ 17 by decide), q_u_k (show 8 ≠ 12 by decide), q_u_k (show 8 ≠ 11 by decide), q_u_k (show 8 ≠ 10 by decide), q_u_k (show 8 ≠ 0 by decide), q_u_k (show 9 ≠ 17 by decide), q_u_k (show 9 ≠ 12 by decide), q_u_k (show 9 ≠ 11 by decide), q_u_k (show 9 ≠ 10 by decide), q_u_k (show 9 ≠ 0 by decide)]
      exact hl l (by omega)
    · rw [q_u_k a17, q_u_k a12, q_u_k a11, q_u_k a10, q_u_k a0]
    · rw [q_u_k (by decide), q_u_k (by decide), q_u_k (by decide), q_u_k (by decide), q_u_s]
    · rw [q_u_k (by decide), q_u_k (by decide), q_u_k (by decide), q_u_s]
    · rw [q_u_k (by decide), q_u_k (by decide), q_u_s]
    · rw [q_u_k (by decide), q_u_s]
  | succ d ih =>
    intro i hi k hk μ hM e7 hl
    obtain ⟨k, rfl⟩ : ∃ m, k = m + 1 := ⟨k - 1, by omega⟩
    have h24 := hM.2.1
    have d1 := p_dgi (h7 (3 * m + 2 * i) (by omega) (by omega))
    have d2 := p_dgi (h7 (3 * m + 2 * i + 1) (by omega) (by omega))
    have x1 : nI n - (2 : Int32) * (nI q - nI i) = nI (3 * m + 2 * i) := by
      rw [pk_sub (by omega), show (2 : Int32) * nI (q - i) = nI (2 * (q - i)) from pk_mul 2 _, pk_sub (by omega), show n - 2 * (q - i) = 3 * m + 2 * i by omega]
    rw [zX4_valley_106_s]
    unfold jX4_valley_106
    simp only [a_lt']
    have y7 : ∀ z, q_u μ 8 i z 7 0 = nI q := fun z => by rw [q_u_k (by decide)]; exact e7
    rw [a_cl (show i < 2 ^ 31 by omega), y7, e7, x1, nI_1 (3 * m + 2 * i), if_neg (by rw [a_le (by omega) (by omega)]; omega), a_gd (a_ib (by omega) (by omega)), a_gd (a_ib (by omega) (by omega)), a_gd (a_ib (by omega) (by omega)), a_gd (a_ib (by omega) (by omega)), a_cl (by omega), a_cl (by omega), q_u_k (show 18 ≠ 8 by decide), (hM.2.2 (3 * m + 2 * i) (by omega)).1, (hM.2.2 (3 * m + 2 * i + 1) (by omega)).1, show (48 : Int32) = nI 48 from rfl, pk_sub (by omega), pk_sub (by omega), nI_1]
    have hM2 : p_M (q_u (q_u μ 8 i (nI (c (3 * m + 2 * i) - 48))) 9 i (nI (c (3 * m + 2 * i + 1) - 48))) n c := hM.fr (by rw [q_u_k (by decide), q_u_k (by decide)]) (fun j => by rw [q_u_k (by decide), q_u_k (by decide)])
    obtain ⟨μ', r1, r2, r3, r4, r5⟩ := ih (i + 1) (by omega) k (by omega) _ hM2 (by rw [q_u_k (by decide), q_u_k (by decide)]; exact e7) (fun l hl' => by
      by_cases y : l = i
      · subst y
        rw [q_u_k (show 8 ≠ 9 by decide), q_u_s, q_u_s, p_V8, p_V9, if_pos (by omega), if_pos (by omega)]
        exact ⟨rfl, rfl⟩
      · rw [q_u_k (show 8 ≠ 9 by decide), q_u_j y, q_u_j y, q_u_k (by decide)]
        exact hl l (by omega))
    refine ⟨μ', r1, r2, fun x a0 a8 a9 a10 a11 a12 a17 => ?_, ?_, r5⟩
    · rw [r3 x a0 a8 a9 a10 a11 a12 a17, q_u_k a9, q_u_k a8]
    · rw [r4, q_u_k (by decide), q_u_k (by decide)]
theorem p_mv1 {T : q_V} {n : Nat} {c : Nat → Nat} {m q : Nat} {V : q_V} (hT : T = p_V V c m q) (h : p_ok n c m q) : ∀ (d i : Nat), i + d = m → ∀ (k : Nat), d < k → ∀ (μ : q_S), p_M μ n c → μ 1 0 = nI m → μ 7 0 = nI q → (∀ e, e < i → μ 2 e = nI (T 2 e) ∧ μ 3 e = nI (T 3 e) ∧ μ 4 e = 1 ∧ μ 5 e = 0 ∧ μ 6 e = 0) → ∃ μ', zX4_valley_33 (nI n) k μ (nI i) = some (nI q, μ') ∧ m_A μ' T ∧ (∀ x, 13 ≤ x → x ≠ 17 → μ' x = μ x) ∧ μ' 0 0 = μ 0 0 + 1 ∧ μ' 11 0 = 0 ∧ μ' 17 0 = 0 := by
  have hok := h
  have hT' := hT
  subst hT
  obtain ⟨⟨h1, h2, h3, h4, h5⟩, h6, h7⟩ := h
  intro d
  induction d with
  | zero =>
    intro i hi k hk μ hM e1 e7 hl
    obtain ⟨k, rfl⟩ : ∃ m, k = m + 1 := ⟨k - 1, by omega⟩
    rw [zX4_valley_33_s]
    unfold jX4_valley_33
    rw [e1, if_pos ((a_le (by omega) (by omega)).mpr (by omega))]
    obtain ⟨μ', r1, r2, r3, r4, r5, r6, r7, r8⟩ := p_mv2 (V := V) rfl hok q 0 (by omega) 70000 (by omega) μ hM e7 (fun l h => by omega)
    refine ⟨μ', r1, ⟨⟨?_, ?_, ?_, ?_⟩, fun e he => ?_, fun l hl' => ?_, fun k hk => ?_⟩, fun x a b => r3 x (by omega) (by omega) (by omega) (by omega) (by omega) (by omega) b, r4, r6, r8⟩
    · rw [r3 1 (by decide) (by decide) (by decide) (by decide) (by decide) (by decide) (by decide), p_V0]; exact e1
    · rw [r3 7 (by decide) (by decide) (by decide) (by decide) (by decide) (by decide) (by decide), p_V6]; exact e7
    · rw [r5, p_V7]; rfl
    · rw [r7, p_V11]; rfl
    · rw [p_V0] at he
      obtain ⟨b1, b2, b3, b4, b5⟩ := hl e (by omega)
      rw [r3 2 (by decide) (by decide) (by decide) (by decide) (by decide) (by decide) (by decide), r3 3 (by decide) (by decide) (by decide) (by decide) (by decide) (by decide) (by decide), r3 4 (by decide) (by decide) (by decide) (by decide) (by decide) (by decide) (by decide), r3 5 (by decide) (by decide) (by decide) (by decide) (by decide) (by decide) (by decide), r3 6 (by decide) (by decide) (by decide) (by decide) (by decide) (by decide) (by decide)]
      refine ⟨b1, b2, ?_, by rw [p_V4]; exact b4, by rw [p_V5]; exact b5⟩
      rw [b3, p_V1, Nat.testBit_two_pow_sub_one, if_pos (by simpa using he)]
    · rw [p_V6] at hl'
      exact r2 l hl'
    · rw [p_V11] at hk; omega
  | succ d ih =>
    intro i hi k hk μ hM e1 e7 hl
    obtain ⟨k, rfl⟩ : ∃ m, k = m + 1 := ⟨k - 1, by omega⟩
    have h24 := hM.2.1
    obtain ⟨d1, d2⟩ := h6 i (by omega)
    have d2' := p_dgi d2
    have c0 := hM.2.2 (3 * i) (by omega)
    have c1 := hM.2.2 (3 * i + 1) (by omega)
    have x1 : (3 : Int32) * nI i = nI (3 * i) := pk_mul 3 i
    have nb : vp_nar .boolean (1 : Int32) = 1 := by decide
    rw [zX4_valley_33_s]
    unfold jX4_valley_33
    simp only [a_lt']
    rw [e1, if_neg (by rw [a_le (by omega) (by omega)]; omega), x1, nI_1 (3 * i), nb, a_gd (a_ib (by omega) (by omega)), a_cl (show 3 * i < 2 ^ 31 by omega), c0.1, a_kindBy _ (by omega), a_b1, if_pos d1, a_gd (a_ib (by omega) (by omega)), a_gd (a_ib (by omega) (by omega)), a_gd (a_ib (by omega) (by omega)), a_gd (a_ib (by omega) (by omega)), a_gd (a_ib (by omega) (by omega)), a_gd (a_ib (by omega) (by omega)), a_cl (show i < 2 ^ 31 by omega), a_cl (show 3 * i + 1 < 2 ^ 31 by omega), q_u_k (show 18 ≠ 2 by decide), c1.1, show (48 : Int32) = nI 48 from rfl, pk_sub (by omega), nI_1]
    obtain ⟨μ', r1, r2, r3, r4⟩ := ih (i + 1) (by omega) k (by omega) (q_u (q_u (q_u (q_u (q_u μ 2 i (nI (p_kd (c (3 * i))))) 3 i (nI (c (3 * i + 1) - 48))) 4 i 1) 5 i 0) 6 i 0) (hM.fr (by rw [q_u_k (by decide), q_u_k (by decide), q_u_k (by decide), q_u_k (by decide), q_u_k (by decide)]) (fun j => by rw [q_u_k (by decide), q_u_k (by decide), q_u_k (by decide), q_u_k (by decide), q_u_k (by decide)])) (by rw [q_u_k (by decide), q_u_k (by decide), q_u_k (by decide), q_u_k (by decide), q_u_k (by decide)]; exact e1) (by rw [q_u_k (by decide), q_u_k (by decide), q_u_k (by decide), q_u_k (by decide), q_u_k (by decide)]; exact e7) (fun e he => by
      rw [q_u_k (show 2 ≠ 6 by decide), q_u_k (show 2 ≠ 5 by decide), q_u_k (show 2 ≠ 4 by decide), q_u_k (show 2 ≠ 3 by decide), q_u_k (show 3 ≠ 6 by decide), q_u_k (show 3 ≠ 5 by decide), q_u_k (show 3 ≠ 4 by decide), q_u_k (show 4 ≠ 6 by decide), q_u_k (show 4 ≠ 5 by decide), q_u_k (show 5 ≠ 6 by decide), q_u_if, q_u_if, q_u_if, q_u_if, q_u_if]
      by_cases y : e = i
      · subst y
        rw [if_pos rfl, if_pos rfl, if_pos rfl, if_pos rfl, if_pos rfl, p_V2, p_V3, if_pos (by omega), if_pos (by omega)]
        exact ⟨rfl, rfl, rfl, rfl, rfl⟩
      · rw [if_neg y, if_neg y, if_neg y, if_neg y, if_neg y, q_u_k (show 3 ≠ 2 by decide), q_u_k (show 4 ≠ 3 by decide), q_u_k (show 4 ≠ 2 by decide), q_u_k (show 5 ≠ 4 by decide), q_u_k (show 5 ≠ 3 by decide), q_u_k (show 5 ≠ 2 by decide), q_u_k (show 6 ≠ 5 by decide), q_u_k (show 6 ≠ 4 by decide), q_u_k (show 6 ≠ 3 by decide), q_u_k (show 6 ≠ 2 by decide)]
        exact hl e (by omega))
    refine ⟨μ', r1, r2, fun x a b => ?_, ?_, r4.2⟩
    · rw [r3 x a b, q_u_k (by omega), q_u_k (by omega), q_u_k (by omega), q_u_k (by omega), q_u_k (by omega)]
    · rw [r4.1, q_u_k (by decide), q_u_k (by decide), q_u_k (by decide), q_u_k (by decide), q_u_k (by decide)]
