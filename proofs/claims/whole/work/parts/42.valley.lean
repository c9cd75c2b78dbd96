/-! a new valley -/
def p_V (V : q_V) (c : Nat → Nat) (m q : Nat) : q_V := fun k j => if k = 0 then m else if k = 1 then 2 ^ m - 1 else if k = 2 then (if j < m then p_kd (c (3 * j)) else 0) else if k = 3 then (if j < m then c (3 * j + 1) - 48 else 0) else if k = 4 then 0 else if k = 5 then 0 else if k = 6 then q else if k = 7 then 0 else if k = 8 then (if j < q then c (3 * m + 2 * j) - 48 else 0) else if k = 9 then (if j < q then c (3 * m + 2 * j + 1) - 48 else 0) else if k = 10 then 0 else if k = 11 then 0 else V k j
theorem p_V0 {V : q_V} {c : Nat → Nat} {m q j : Nat} : p_V V c m q 0 j = m := rfl
theorem p_V1 {V : q_V} {c : Nat → Nat} {m q j : Nat} : p_V V c m q 1 j = 2 ^ m - 1 := rfl
theorem p_V2 {V : q_V} {c : Nat → Nat} {m q j : Nat} : p_V V c m q 2 j = if j < m then p_kd (c (3 * j)) else 0 := rfl
theorem p_V3 {V : q_V} {c : Nat → Nat} {m q j : Nat} : p_V V c m q 3 j = if j < m then c (3 * j + 1) - 48 else 0 := rfl
theorem p_V4 {V : q_V} {c : Nat → Nat} {m q j : Nat} : p_V V c m q 4 j = 0 := rfl
theorem p_V5 {V : q_V} {c : Nat → Nat} {m q j : Nat} : p_V V c m q 5 j = 0 := rfl
theorem p_V6 {V : q_V} {c : Nat → Nat} {m q j : Nat} : p_V V c m q 6 j = q := rfl
theorem p_V7 {V : q_V} {c : Nat → Nat} {m q j : Nat} : p_V V c m q 7 j = 0 := rfl
theorem p_V8 {V : q_V} {c : Nat → Nat} {m q j : Nat} : p_V V c m q 8 j = if j < q then c (3 * m + 2 * j) - 48 else 0 := rfl
theorem p_V9 {V : q_V} {c : Nat → Nat} {m q j : Nat} : p_V V c m q 9 j = if j < q then c (3 * m + 2 * j + 1) - 48 else 0 := rfl
theorem p_V10 {V : q_V} {c : Nat → Nat} {m q j : Nat} : p_V V c m q 10 j = 0 := rfl
theorem p_V11 {V : q_V} {c : Nat → Nat} {m q j : Nat} : p_V V c m q 11 j = 0 := rfl
theorem p_V12 {V : q_V} {c : Nat → Nat} {m q j k : Nat} (h : 12 ≤ k) : p_V V c m q k j = V k j := by
  unfold p_V
  simp only [show k ≠ 0 by omega, show k ≠ 1 by omega, show k ≠ 2 by omega, show k ≠ 3 by omega, show k ≠ 4 by omega, show k ≠ 5 by omega, show k ≠ 6 by omega, show k ≠ 7 by omega, show k ≠ 8 by omega, show k ≠ 9 by omega, show k ≠ 10 by omega, show k ≠ 11 by omega, if_false]
def p_ok (n : Nat) (c : Nat → Nat) (m q : Nat) : Prop := (2 ≤ m ∧ m ≤ 4 ∧ 1 ≤ q ∧ q ≤ 5 ∧ n = 3 * m + 2 * q) ∧ (∀ e, e < m → p_kd (c (3 * e)) < 5 ∧ p_dg (c (3 * e + 1)) = true) ∧ ∀ j, 3 * m ≤ j → j < n → p_dg (c j) = true
theorem p_dgi {x : Nat} (h : p_dg x = true) : 48 ≤ x ∧ x ≤ 57 := by
  unfold p_dg at h
  simp at h
  exact h
theorem p_ok_of {n : Nat} {c : Nat → Nat} {m f : Nat} (hF : p_F n c (some (3 * m - 1)) f) (hv : p_val n (some (3 * m - 1)) f = true) (hm : 2 ≤ m) (hm4 : m ≤ 4) (hn : 3 * m ≤ n) : f = n ∧ p_ok n c m ((n - 3 * m) / 2) := by
  unfold p_val at hv
  simp at hv
  obtain ⟨⟨h1, h2⟩, h3⟩ := hv
  subst h1
  obtain ⟨a1, a2, a3⟩ := hF
  have hlo : ∀ j, 3 * m ≤ j → j < f → p_fl c (3 * m - 1) j = true := fun j b1 b2 => by
    have : (if j ≤ 3 * m - 1 then p_fe c j else p_fl c (3 * m - 1) j) = true := a2 j b2
    rwa [if_neg (by omega)] at this
  have hea : ∀ j, j < 3 * m → p_fe c j = true := fun j b1 => by
    have : (if j ≤ 3 * m - 1 then p_fe c j else p_fl c (3 * m - 1) j) = true := a2 j (by omega)
    rwa [if_pos (by omega)] at this
  have hl := hlo (f - 1) (by omega) (by omega)
  unfold p_fl at hl
  simp at hl
  refine ⟨rfl, ⟨hm, hm4, by omega, by omega, by omega⟩, fun e he => ⟨?_, ?_⟩, fun j b1 b2 => ?_⟩
  · have := hea (3 * e) (by omega)
    unfold p_fe at this
    rw [if_pos (by omega)] at this
    simpa using this
  · have := hea (3 * e + 1) (by omega)
    unfold p_fe at this
    rw [if_neg (by omega), if_pos (by omega)] at this
    exact this
  · have := hlo j b1 b2
    unfold p_fl at this
    simp at this
    exact this.2
theorem p_V_W {V : q_V} (hW : v_W V) {n : Nat} {c : Nat → Nat} {m q : Nat} (h : p_ok n c m q) : v_W (p_V V c m q) := by
  obtain ⟨⟨h1, h2, h3, h4, h5⟩, h6, h7⟩ := h
  have hd : ∀ l, l < q → c (3 * m + 2 * l) - 48 ≤ 9 ∧ c (3 * m + 2 * l + 1) - 48 ≤ 9 := fun l hl => by
    have a := p_dgi (h7 (3 * m + 2 * l) (by omega) (by omega))
    have b := p_dgi (h7 (3 * m + 2 * l + 1) (by omega) (by omega))
    omega
  have hlf : ∀ l, v_lf (p_V V c m q) l ≤ if l < q then 18 else 0 := fun l => by
    unfold v_lf
    rw [p_V6, p_V8, p_V9]
    by_cases z : l < q
    · have := hd l z
      rw [if_pos z, if_pos z, if_pos z]
      split <;> omega
    · rw [if_neg (fun y => z y.1)]
      omega
  refine ⟨⟨h2, by rw [p_V6]; omega, by rw [p_V0, p_V6]; omega⟩, ⟨?_, ?_⟩, fun e he => ⟨?_, ?_⟩, fun e a b => ⟨rfl, rfl⟩, fun l hl => ?_, ?_, ⟨by rw [p_V11]; omega, fun k hk => by rw [p_V11] at hk; omega⟩, ?_⟩
  · rw [p_V1, p_V0]
    have : 0 < 2 ^ m := Nat.pow_pos (by omega)
    omega
  · rw [p_V7, p_V6]
    exact Nat.pow_pos (by omega)
  · rw [p_V2]
    split
    · rename_i y
      have := (h6 e y).1
      omega
    · omega
  · rw [p_V3]
    split
    · rename_i y
      have := p_dgi (h6 e y).2
      omega
    · omega
  · rw [p_V6] at hl
    have := hd l hl
    rw [p_V8, p_V9, if_pos hl, if_pos hl]
    omega
  · unfold v_T
    simp only [p_V4]
    have a0 := hlf 0
    have a1 := hlf 1
    have a2 := hlf 2
    have a3 := hlf 3
    have a4 := hlf 4
    have a5 := hlf 5
    have a6 := hlf 6
    have a7 := hlf 7
    rw [if_neg (show ¬ 5 < q by omega)] at a5
    rw [if_neg (show ¬ 6 < q by omega)] at a6
    rw [if_neg (show ¬ 7 < q by omega)] at a7
    have b0 : (if 0 < q then 18 else 0) ≤ 18 := by split <;> omega
    have b1 : (if 1 < q then 18 else 0) ≤ 18 := by split <;> omega
    have b2 : (if 2 < q then 18 else 0) ≤ 18 := by split <;> omega
    have b3 : (if 3 < q then 18 else 0) ≤ 18 := by split <;> omega
    have b4 : (if 4 < q then 18 else 0) ≤ 18 := by split <;> omega
    omega
  · rw [p_V12 (by omega)]
    exact hW.2.2.2.2.2.2.2
/-- the state agrees at some fields -/
def v_P (σ : q_S) (T : q_V) (P : Nat → Nat → Prop) : Prop := ∀ k j, j < v_sz k → P k j → σ k j = nI (T k j)
theorem v_P.u {σ : q_S} {T : q_V} {P Q : Nat → Nat → Prop} (h : v_P σ T P) {k j : Nat} {x : Int32} (hx : x = nI (T k j)) (hQ : ∀ k' j', j' < v_sz k' → Q k' j' → P k' j' ∨ (k' = k ∧ j' = j)) : v_P (q_u σ k j x) T Q := by
  intro k' j' h1 h2
  by_cases z : k' = k ∧ j' = j
  · obtain ⟨z1, z2⟩ := z
    subst z1 z2
    rw [q_u_s, hx]
  · have hP : P k' j' := by
      rcases hQ k' j' h1 h2 with y | y
      · exact y
      · exact absurd y z
    by_cases z1 : k' = k
    · subst z1
      rw [q_u_j (fun y => z ⟨rfl, y⟩)]
      exact h _ _ h1 hP
    · rw [q_u_k z1]
      exact h _ _ h1 hP
theorem p_R.dig {σ : q_S} {n : Nat} {c : Nat → Nat} (h : p_R σ n c) {j : Nat} (hj : j < n) (hd : p_dg (c j) = true) : zX0_digitAt σ (nI j) = some (nI (c j - 48)) := by
  have := p_dgi hd
  unfold zX0_digitAt
  rw [h.at hj, a_b1, show (48 : Int32) = nI 48 from rfl, pk_sub (by omega)]
def p_P1 (i : Nat) (k j : Nat) : Prop := k ≠ 8 ∧ k ≠ 9 ∧ ((k = 2 ∨ k = 3 ∨ k = 4 ∨ k = 5) → j < i)
def p_P2 (i : Nat) (k j : Nat) : Prop := (k = 8 ∨ k = 9) → j < i
theorem p_from_l2 {s1 : q_S} {V : q_V} {n : Nat} {c : Nat → Nat} {m q : Nat} (hR : p_R s1 n c) (h : p_ok n c m q) : ∀ (d i : Nat), i + d = 8 → ∀ (k : Nat), d < k → ∀ (σ : q_S), v_P σ (p_V V c m q) (p_P2 i) → ∃ σ', zX2_readFrom_157 s1 (nI (3 * m - 1)) k σ (nI i) = some σ' ∧ v_A σ' (p_V V c m q) := by
  obtain ⟨⟨h1, h2, h3, h4, h5⟩, h6, h7⟩ := h
  have h24 := hR.2.1
  intro d
  induction d with
  | zero =>
    intro i hi k hk σ hP
    obtain ⟨k, rfl⟩ : ∃ m, k = m + 1 := ⟨k - 1, by omega⟩
    have : i = 8 := by omega
    subst this
    refine ⟨σ, ?_, fun k j hj => hP k j hj (fun z => ?_)⟩
    · rw [zX2_readFrom_157_s]
      unfold jX2_readFrom_157
      rw [if_pos (by decide)]
    · rcases z with z | z <;> subst z <;> exact hj
  | succ d ih =>
    intro i hi k hk σ hP
    obtain ⟨k, rfl⟩ : ∃ m, k = m + 1 := ⟨k - 1, by omega⟩
    rw [zX2_readFrom_157_s]
    unfold jX2_readFrom_157
    rw [if_neg (by rw [show (8 : Int32) = nI 8 from rfl, a_le (by omega) (by omega)]; omega), hP 6 0 (by decide) (fun z => by omega), p_V6]
    have e1 : nI (3 * m - 1) + (1 : Int32) + (2 : Int32) * nI i = nI (3 * m + 2 * i) := by
      rw [nI_1, show (2 : Int32) * nI i = nI (2 * i) from pk_mul 2 i, nI_add, show 3 * m - 1 + 1 + 2 * i = 3 * m + 2 * i by omega]
    have e2 : nI (3 * m - 1) + (2 : Int32) + (2 : Int32) * nI i = nI (3 * m + 2 * i + 1) := by
      rw [show (2 : Int32) * nI i = nI (2 * i) from pk_mul 2 i, show nI (3 * m - 1) + (2 : Int32) = nI (3 * m - 1 + 2) from nI_add _ 2, nI_add, show 3 * m - 1 + 2 + 2 * i = 3 * m + 2 * i + 1 by omega]
    have go : ∀ x y, x = nI (p_V V c m q 8 i) → y = nI (p_V V c m q 9 i) → ∃ σ', zX2_readFrom_157 s1 (nI (3 * m - 1)) k (q_u (q_u σ 8 i x) 9 i y) (nI (i + 1)) = some σ' ∧ v_A σ' (p_V V c m q) := fun x y hx hy => ih (i + 1) (by omega) k (by omega) _ ((hP.u (Q := fun k j => p_P2 i k j ∨ (k = 8 ∧ j = i)) hx (fun _ _ _ y => y)).u hy (fun k' j' _ y => by
      unfold p_P2 at y ⊢
      omega))
    unfold zX2_readFrom_176 zX2_readFrom_203
    by_cases z : i < q
    · have d1 := h7 (3 * m + 2 * i) (by omega) (by omega)
      have d2 := h7 (3 * m + 2 * i + 1) (by omega) (by omega)
      rw [if_neg (by rw [a_le (by omega) (by omega)]; omega), if_neg (by decide), e1, e2, hR.dig (by omega) d1, a_b1, a_gd (a_ib (by omega) (by omega)), a_lt', if_neg (by decide), hR.dig (by omega) d2, a_b1, a_gd (a_ib (by omega) (by omega)), a_lt', a_lt', a_cl (by omega), nI_1]
      exact go _ _ (by rw [p_V8, if_pos z]) (by rw [p_V9, if_pos z])
    · rw [if_pos ((a_le (by omega) (by omega)).mpr (by omega)), if_pos rfl, a_gd (a_ib (by omega) (by omega)), a_lt', if_pos rfl, a_gd (a_ib (by omega) (by omega)), a_lt', a_lt', a_cl (by omega), nI_1]
      exact go _ _ (by rw [p_V8, if_neg z]; rfl) (by rw [p_V9, if_neg z]; rfl)
theorem p_from_l1 {s1 : q_S} {V : q_V} {n : Nat} {c : Nat → Nat} {m q : Nat} (hR : p_R s1 n c) (h : p_ok n c m q) : ∀ (d i : Nat), i + d = 4 → ∀ (k : Nat), d < k → ∀ (σ : q_S), v_P σ (p_V V c m q) (p_P1 i) → ∃ σ', zX2_readFrom_66 s1 (nI (3 * m - 1)) k σ (nI i) = some σ' ∧ v_A σ' (p_V V c m q) := by
  have h0 := h
  obtain ⟨⟨h1, h2, h3, h4, h5⟩, h6, h7⟩ := h
  have h24 := hR.2.1
  intro d
  induction d with
  | zero =>
    intro i hi k hk σ hP
    obtain ⟨k, rfl⟩ : ∃ m, k = m + 1 := ⟨k - 1, by omega⟩
    have : i = 4 := by omega
    subst this
    rw [zX2_readFrom_66_s]
    unfold jX2_readFrom_66
    rw [if_pos (by decide)]
    refine p_from_l2 hR h0 8 0 rfl 70000 (by omega) σ (fun k j hj hp => hP k j hj ⟨fun z => ?_, fun z => ?_, fun z => ?_⟩)
    · exact absurd (hp (Or.inl z)) (by omega)
    · exact absurd (hp (Or.inr z)) (by omega)
    · rcases z with z | z | z | z <;> subst z <;> exact hj
  | succ d ih =>
    intro i hi k hk σ hP
    obtain ⟨k, rfl⟩ : ∃ m, k = m + 1 := ⟨k - 1, by omega⟩
    rw [zX2_readFrom_66_s]
    unfold jX2_readFrom_66
    rw [if_neg (by rw [show (4 : Int32) = nI 4 from rfl, a_le (by omega) (by omega)]; omega), hP 0 0 (by decide) ⟨by decide, by decide, fun z => by omega⟩, p_V0]
    have e1 : (3 : Int32) * nI i = nI (3 * i) := pk_mul 3 i
    have go : ∀ x y, x = nI (p_V V c m q 2 i) → y = nI (p_V V c m q 3 i) → ∃ σ', zX2_readFrom_66 s1 (nI (3 * m - 1)) k (q_u (q_u (q_u (q_u σ 2 i x) 3 i y) 4 i 0) 5 i 0) (nI (i + 1)) = some σ' ∧ v_A σ' (p_V V c m q) := fun x y hx hy => ih (i + 1) (by omega) k (by omega) _ ((((hP.u (Q := fun k j => p_P1 i k j ∨ (k = 2 ∧ j = i)) hx (fun _ _ _ y => y)).u (Q := fun k j => (p_P1 i k j ∨ (k = 2 ∧ j = i)) ∨ (k = 3 ∧ j = i)) hy (fun _ _ _ y => y)).u (Q := fun k j => ((p_P1 i k j ∨ (k = 2 ∧ j = i)) ∨ (k = 3 ∧ j = i)) ∨ (k = 4 ∧ j = i)) (by rw [p_V4]; rfl) (fun _ _ _ y => y)).u (by rw [p_V5]; rfl) (fun k' j' _ y => by
      unfold p_P1 at y ⊢
      omega))
    unfold zX2_readFrom_84 zX2_readFrom_110 zX2_readFrom_134
    by_cases z : i < m
    · obtain ⟨d1, d2⟩ := h6 i z
      have hc := (hR.2.2 (3 * i) (by omega)).2
      rw [if_neg (by rw [a_le (by omega) (by omega)]; omega), if_neg (by decide), e1, hR.at (by omega), a_b1, a_kindOf _ (by omega), a_b1, if_pos d1, a_gd (a_ib (by omega) (by omega)), a_lt', if_neg (by decide), nI_1 (3 * i), hR.dig (by omega) d2, a_b1, a_gd (a_ib (by omega) (by omega)), a_lt', a_gd (a_ib (by omega) (by omega)), a_lt', a_gd (a_ib (by omega) (by omega)), a_lt', a_lt', a_cl (by omega), nI_1]
      exact go _ _ (by rw [p_V2, if_pos z]) (by rw [p_V3, if_pos z])
    · rw [if_pos ((a_le (by omega) (by omega)).mpr (by omega)), if_pos rfl, a_gd (a_ib (by omega) (by omega)), a_lt', if_pos rfl, a_gd (a_ib (by omega) (by omega)), a_lt', a_gd (a_ib (by omega) (by omega)), a_lt', a_gd (a_ib (by omega) (by omega)), a_lt', a_lt', a_cl (by omega), nI_1]
      exact go _ _ (by rw [p_V2, if_neg z]; rfl) (by rw [p_V3, if_neg z]; rfl)
theorem p_from {σ s1 : q_S} {V : q_V} (hA : v_A σ V) {n : Nat} {c : Nat → Nat} {m q : Nat} (hR : p_R s1 n c) (h : p_ok n c m q) (hE : zX0_eatersEnd s1 = some (nI (3 * m - 1))) : ∃ σ', zX2_readFrom σ s1 = some σ' ∧ v_A σ' (p_V V c m q) := by
  have h0 := h
  obtain ⟨⟨h1, h2, h3, h4, h5⟩, h6, h7⟩ := h
  have h24 := hR.2.1
  unfold zX2_readFrom
  simp only [a_lt']
  have em : (nI (3 * m - 1) + (1 : Int32)) / (3 : Int32) = nI m := by
    rw [nI_1, show (3 : Int32) = nI 3 from rfl, pk_div (by omega) (by omega) (by omega), show (3 * m - 1 + 1) / 3 = m by omega]
  have eq : (s1 1 0 - (1 : Int32) - nI (3 * m - 1)) / (2 : Int32) = nI q := by
    rw [hR.1, show nI n - (1 : Int32) = nI (n - 1) from pk_sub (a := n) (b := 1) (by omega), pk_sub (by omega), show (2 : Int32) = nI 2 from rfl, pk_div (by omega) (by omega) (by omega), show (n - 1 - (3 * m - 1)) / 2 = q by omega]
  rw [hE, a_b1, em, eq, if_neg (by rw [show (4 : Int32) = nI 4 from rfl, a_lt (by omega) (by omega)]; omega), if_neg (by rw [show (8 : Int32) = nI 8 from rfl, a_lt (by omega) (by omega)]; omega)]
  have e0 : q_u (q_u σ 0 0 (nI m)) 6 0 (nI q) 0 0 = nI m := by rw [q_u_k (by decide), q_u_s]
  have hp : 1 ≤ 2 ^ m := Nat.pow_pos (by omega)
  rw [e0, a_shl (by omega), show nI (2 ^ m) - (1 : Int32) = nI (2 ^ m - 1) from pk_sub (b := 1) hp]
  refine p_from_l1 hR h0 4 0 rfl 70000 (by omega) _ ?_
  have b0 : v_P σ (p_V V c m q) (fun k _ => 12 ≤ k) := fun k j hj hk => by rw [p_V12 hk]; exact hA k j hj
  refine (((((b0.u (k := 0) (j := 0) (x := nI m) (Q := fun k _ => 12 ≤ k ∨ k = 0) (by rw [p_V0]) (fun k j hj y => ?_)).u (k := 6) (j := 0) (x := nI q) (Q := fun k _ => 12 ≤ k ∨ k = 0 ∨ k = 6) (by rw [p_V6]) (fun k j hj y => ?_)).u (k := 1) (j := 0) (x := nI (2 ^ m - 1)) (Q := fun k _ => 12 ≤ k ∨ k = 0 ∨ k = 6 ∨ k = 1) (by rw [p_V1]) (fun k j hj y => ?_)).u (k := 7) (j := 0) (x := 0) (Q := fun k _ => 12 ≤ k ∨ k = 0 ∨ k = 6 ∨ k = 1 ∨ k = 7) (by rw [p_V7]; rfl) (fun k j hj y => ?_)).u (k := 10) (j := 0) (x := 0) (Q := fun k _ => 12 ≤ k ∨ k = 0 ∨ k = 6 ∨ k = 1 ∨ k = 7 ∨ k = 10) (by rw [p_V10]; rfl) (fun k j hj y => ?_)).u (k := 11) (j := 0) (x := 0) (by rw [p_V11]; rfl) (fun k j hj y => ?_)
  · rcases y with y | y
    · exact Or.inl y
    · exact Or.inr ⟨y, v_sz1 hj (by omega)⟩
  · by_cases z : k = 6
    · exact Or.inr ⟨z, v_sz1 hj (by omega)⟩
    · exact Or.inl (by omega)
  · by_cases z : k = 1
    · exact Or.inr ⟨z, v_sz1 hj (by omega)⟩
    · exact Or.inl (by omega)
  · by_cases z : k = 7
    · exact Or.inr ⟨z, v_sz1 hj (by omega)⟩
    · exact Or.inl (by omega)
  · by_cases z : k = 10
    · exact Or.inr ⟨z, v_sz1 hj (by omega)⟩
    · exact Or.inl (by omega)
  · unfold p_P1 at y
    by_cases z : k = 11
    · exact Or.inr ⟨z, v_sz1 hj (by omega)⟩
    · exact Or.inl (by omega)
