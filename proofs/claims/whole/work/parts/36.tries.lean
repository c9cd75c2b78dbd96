/-! the class's search -/
def s_Q (b L : Nat) (σ : q_S) (l p : Nat) : Prop := (∀ j, j < 8 → j < L → ¬ b.testBit j = true → j < l → σ 0 j = nI (p / 4 ^ (v_lv b l - v_lv b (j + 1)) % 4)) ∧ ∀ j, j < 8 → ¬ (j < L ∧ ¬ b.testBit j = true) → σ 0 j = -1
def s_w (b L c j : Nat) : Int32 := if j < L ∧ ¬ b.testBit j = true then nI (c / 4 ^ s_k b L (j + 1) % 4) else -1
def s_B (b L : Nat) (σ : q_S) (st : Option (Nat × Nat)) : Prop := match st with
  | none => σ 3 0 = 0
  | some (c, m) => σ 3 0 = 1 ∧ σ 2 0 = nI m ∧ m ≤ 90 ∧ ∀ j, j < 8 → σ 1 j = s_w b L c j
theorem s_Q.skip {b L : Nat} {σ : q_S} {l p : Nat} (h : s_Q b L σ l p) (hb : b.testBit l = true) : s_Q b L σ (l + 1) p := by
  refine ⟨fun j h1 h2 h3 h4 => ?_, h.2⟩
  have : j ≠ l := fun z => h3 (by rw [z]; exact hb)
  rw [v_lv_s, if_pos hb, Nat.add_zero]
  exact h.1 j h1 h2 h3 (by omega)
theorem s_Q.skip' {b L : Nat} {σ : q_S} {l p : Nat} (h : s_Q b L σ (l + 1) p) (hb : b.testBit l = true) : s_Q b L σ l p := by
  refine ⟨fun j h1 h2 h3 h4 => ?_, h.2⟩
  have := h.1 j h1 h2 h3 (by omega)
  rw [v_lv_s, if_pos hb, Nat.add_zero] at this
  exact this
theorem s_dig {p e k : Nat} (he : e < 4) : (4 * p + e) / 4 ^ (k + 1) = p / 4 ^ k := by
  rw [Nat.pow_succ, Nat.mul_comm (4 ^ k) 4, ← Nat.div_div_eq_div_mul, show (4 * p + e) / 4 = p by omega]
theorem s_lv_lt {b j l : Nat} (hj : j < l) : v_lv b (j + 1) ≤ v_lv b l := by
  have := v_lv_mono (b := b) (l - (j + 1)) (j + 1)
  rwa [show j + 1 + (l - (j + 1)) = l by omega] at this
theorem s_Q.set {b L : Nat} {σ : q_S} {l p e : Nat} (h : s_Q b L σ l p) (hl : l < L) (hb : ¬ b.testBit l = true) (he : e < 4) : s_Q b L (q_u σ 0 l (nI e)) (l + 1) (4 * p + e) := by
  refine ⟨fun j h1 h2 h3 h4 => ?_, fun j h1 h2 => ?_⟩
  · by_cases q : j = l
    · subst q
      rw [q_u_s, Nat.sub_self, Nat.pow_zero, Nat.div_one, show (4 * p + e) % 4 = e by omega]
    · have := s_lv_lt (b := b) (j := j) (l := l) (by omega)
      rw [q_u_j q, v_lv_s, if_neg hb, show v_lv b l + 1 - v_lv b (j + 1) = v_lv b l - v_lv b (j + 1) + 1 by omega, s_dig he]
      exact h.1 j h1 h2 h3 (by omega)
  · have : j ≠ l := fun z => h2 (by rw [z]; exact ⟨hl, hb⟩)
    rw [q_u_j this]
    exact h.2 j h1 h2
theorem s_Q.back {b L : Nat} {σ : q_S} {l p e : Nat} (h : s_Q b L σ (l + 1) (4 * p + e)) (hb : ¬ b.testBit l = true) (he : e < 4) : s_Q b L σ l p := by
  refine ⟨fun j h1 h2 h3 h4 => ?_, h.2⟩
  have k := h.1 j h1 h2 h3 (by omega)
  have := s_lv_lt (b := b) (j := j) (l := l) (by omega)
  rw [v_lv_s, if_neg hb, show v_lv b l + 1 - v_lv b (j + 1) = v_lv b l - v_lv b (j + 1) + 1 by omega, s_dig he] at k
  exact k
theorem s_B.set {b L : Nat} {σ : q_S} {st : Option (Nat × Nat)} (h : s_B b L σ st) {l : Nat} {x : Int32} : s_B b L (q_u σ 0 l x) st := by
  cases st with
  | none => unfold s_B; show q_u σ 0 l x 3 0 = 0; rw [q_u_k (by decide)]; exact h
  | some cm =>
    obtain ⟨c, m⟩ := cm
    obtain ⟨h1, h2, h3, h4⟩ := h
    show q_u σ 0 l x 3 0 = 1 ∧ q_u σ 0 l x 2 0 = nI m ∧ m ≤ 90 ∧ ∀ j, j < 8 → q_u σ 0 l x 1 j = s_w b L c j
    rw [q_u_k (by decide), q_u_k (by decide), q_u_k (by decide)]
    exact ⟨h1, h2, h3, h4⟩
theorem q_uc_s {σ : q_S} {k : Nat} {f : q_R} : q_uc σ k f k = f := by
  unfold q_uc
  rw [show Nat.beq k k = true from Nat.beq_refl k]
  rfl
theorem q_uc_k {σ : q_S} {k k' : Nat} {f : q_R} (h : k' ≠ k) : q_uc σ k f k' = σ k' := by
  unfold q_uc
  have : Nat.beq k' k = false := by
    cases q : Nat.beq k' k with
    | false => rfl
    | true => exact absurd (Nat.eq_of_beq_eq_true q) h
  rw [this]
  rfl
theorem s_keep {b L : Nat} (hL : L ≤ 8) {σ : q_S} {p m : Nat} (hQ : s_Q b L σ L p) (hm : m ≤ 90) : ∃ σ', zX1_keep σ (nI m) = some σ' ∧ s_Q b L σ' L p ∧ s_B b L σ' (some (p, m)) := by
  unfold zX1_keep
  simp only [a_lt']
  obtain ⟨y, h1, h2⟩ := c_copyRow (n := 8) (by omega) (q_u (q_u σ 2 0 (nI m)) 3 0 1 0) (q_u (q_u σ 2 0 (nI m)) 3 0 1 1)
  refine ⟨q_uc (q_u (q_u σ 2 0 (nI m)) 3 0 1) 1 y, (c_b1 h1 _), ?_, ?_⟩
  · unfold s_Q
    rw [q_uc_k (by decide), q_u_k (by decide), q_u_k (by decide)]
    exact hQ
  · refine ⟨?_, ?_, hm, fun j hj => ?_⟩
    · rw [q_uc_k (by decide), q_u_s]
    · rw [q_uc_k (by decide), q_u_k (by decide), q_u_s]
    · rw [q_uc_s, h2 j hj, q_u_k (by decide), q_u_k (by decide)]
      unfold s_w
      by_cases q : j < L ∧ ¬ b.testBit j = true
      · rw [if_pos q]
        exact hQ.1 j hj q.1 q.2 q.1
      · rw [if_neg q]
        exact hQ.2 j hj q
theorem s_mx90 {V : q_V} (hW : v_W V) : v_mx (V 4) 4 ≤ 90 := by
  have h : v_mx (V 4) 4 = max (max (max (max 0 (V 4 0)) (V 4 1)) (V 4 2)) (V 4 3) := rfl
  have h0 := hW.cr (e := 0) (by omega)
  have h1 := hW.cr (e := 1) (by omega)
  have h2 := hW.cr (e := 2) (by omega)
  have h3 := hW.cr (e := 3) (by omega)
  omega
def s_IH (b L d : Nat) (rc : q_S → q_S → Int32 → Int32 → Option (q_S × q_S)) : Prop := ∀ (l : Nat), l + d = L → ∀ (σ : q_S) (V : q_V) (τ : q_S) (p : Nat) (st : Option (Nat × Nat)), v_A σ V → v_W V → s_X b L l V → s_Q b L τ l p → s_B b L τ st → ∃ σ' τ', rc σ τ (nI l) (nI (v_mx (V 4) 4)) = some (σ', τ') ∧ v_A σ' V ∧ s_Q b L τ' l p ∧ s_B b L τ' (s_T b L d l V p st)
theorem s_loop {b L d l : Nat} (hl : l + (d + 1) = L) (hb : ¬ b.testBit l = true) {rc : q_S → q_S → Int32 → Int32 → Option (q_S × q_S)} (IH : s_IH b L d rc) {V : q_V} {p : Nat} {st : Option (Nat × Nat)} (hW : v_W V) (hX : s_X b L l V) : ∀ (d' e : Nat), e + d' = 4 → ∀ (n : Nat), d' < n → ∀ (σ τ : q_S), v_A σ V → s_Q b L τ l p → s_B b L τ (s_E b L d l V p st e) → ∃ σ' τ', zX3_tryLoavesFrom_51 rc (nI l) (nI (v_mx (V 4) 4)) n σ τ (nI e) = some (σ', τ') ∧ v_A σ' V ∧ s_Q b L τ' l p ∧ s_B b L τ' (s_E b L d l V p st 4) := by
  have hL := hW.L
  have hE := hW.E
  have h6 := hX.1
  intro d'
  induction d' with
  | zero =>
    intro e he n hn σ τ hA hQ hB
    obtain ⟨n, rfl⟩ : ∃ k, n = k + 1 := ⟨n - 1, by omega⟩
    have : e = 4 := by omega
    subst this
    refine ⟨σ, τ, ?_, hA, hQ, hB⟩
    rw [zX3_tryLoavesFrom_51_s]
    unfold jX3_tryLoavesFrom_51
    rw [if_pos (by decide)]
  | succ d' ih =>
    intro e he n hn σ τ hA hQ hB
    obtain ⟨n, rfl⟩ : ∃ k, n = k + 1 := ⟨n - 1, by omega⟩
    have hlt : ¬ (4 : Int32) ≤ nI e := by rw [show (4 : Int32) = nI 4 from rfl, a_le (by omega) (by omega)]; omega
    by_cases q : v_wt V e l = true
    · obtain ⟨w1, w2, w3, w4, w5⟩ := v_wt_of q
      obtain ⟨σ1, k1, hA1⟩ := c_takeWhole hA hW w1 w2
      have hW1 := hW.eat w1 w2 w4
      obtain ⟨σ2, τ2, k2, hA2, hQ2, hB2⟩ := IH (l + 1) (by omega) σ1 (v_eat V e l) (q_u τ 0 l (nI e)) (4 * p + e) _ hA1 hW1 hX.eat (hQ.set (by omega) hb (by omega)) hB.set
      obtain ⟨σ3, k3, hA3⟩ := c_giveBack hA2 hW w1 w2 w4
      have hBn : s_B b L τ2 (s_E b L d l V p st (e + 1)) := by rw [s_E_s, if_pos q]; exact hB2
      obtain ⟨σ4, τ4, k4, r⟩ := ih (e + 1) (by omega) n (by omega) σ3 τ2 hA3 (hQ2.back hb (by omega)) hBn
      refine ⟨σ4, τ4, ?_, r⟩
      rw [zX3_tryLoavesFrom_51_s]
      unfold jX3_tryLoavesFrom_51
      have hmx := s_mx90 hW
      have hc1 := hW1.cr (e := e) (by omega)
      rw [if_neg hlt, c_wouldTake hA hW (by omega) (by omega), a_b1, q, if_pos rfl, if_neg (by decide), a_gd (a_ib (by omega) (by omega)), a_lt', a_cl (by omega), k1, a_b1, a_gd (a_ib (by omega) (by omega)), a_lt', a_gd (a_ib (by omega) (by omega)), a_cl (by omega), hA1 4 e (by show e < 4; omega), hA 3 e (by show e < 4; omega), nI_1]
      rw [s_mx_eat (by omega)] at k2
      have hmax : (if nI (v_mx (V 4) 4) < nI (v_eat V e l 4 e) then nI (v_eat V e l 4 e) else nI (v_mx (V 4) 4)) = nI (max (v_mx (V 4) 4) (v_eat V e l 4 e)) := by
        by_cases z : v_mx (V 4) 4 < v_eat V e l 4 e
        · rw [if_pos ((a_lt (by omega) (by omega)).mpr z), Nat.max_eq_right (by omega)]
        · rw [if_neg (by rw [a_lt (by omega) (by omega)]; exact z), Nat.max_eq_left (by omega)]
      rw [hmax, k2, a_b2, k3, a_b1, a_lt', nI_1]
      exact k4
    · have hBn : s_B b L τ (s_E b L d l V p st (e + 1)) := by rw [s_E_s, if_neg q]; exact hB
      obtain ⟨σ4, τ4, k4, r⟩ := ih (e + 1) (by omega) n (by omega) σ τ hA hQ hBn
      refine ⟨σ4, τ4, ?_, r⟩
      rw [zX3_tryLoavesFrom_51_s]
      unfold jX3_tryLoavesFrom_51
      rw [if_neg hlt, c_wouldTake hA hW (by omega) (by omega), a_b1, show v_wt V e l = false by simpa using q, if_neg (show ¬ (false = true) by decide), if_pos rfl, a_lt', nI_1]
      exact k4
theorem s_try {b L : Nat} (hL8 : L ≤ 8) : ∀ (d n : Nat), d < n → s_IH b L d (zX3_tryLoavesFrom n) := by
  intro d
  induction d with
  | zero =>
    intro n hn l hl σ V τ p st hA hW hX hQ hB
    obtain ⟨n, rfl⟩ : ∃ k, n = k + 1 := ⟨n - 1, by omega⟩
    have : l = L := by omega
    subst this
    have hmx := s_mx90 hW
    have h6 := hX.1
    rw [zX3_tryLoavesFrom_s, s_T_end]
    have go : ∀ st', s_up st l (some (v_mx (V 4) 4)) = st' → True := fun _ _ => trivial
    have k16 : ∃ σ' τ', zX3_tryLoavesFrom_16 (zX3_tryLoavesFrom n) σ τ (nI l) (nI (v_mx (V 4) 4)) = some (σ', τ') ∧ v_A σ' V ∧ s_Q b l τ' l p ∧ s_B b l τ' (some (p, v_mx (V 4) 4)) := by
      obtain ⟨τ', k1, k2, k3⟩ := s_keep (by omega) hQ hmx
      refine ⟨σ, τ', ?_, hA, k2, k3⟩
      unfold zX3_tryLoavesFrom_16
      rw [c_isLoaf hA hW (by omega), a_b1, if_neg (show ¬ l < V 6 0 by omega), if_pos rfl, k1, a_b1]
    unfold jX3_tryLoavesFrom
    cases st with
    | none =>
      rw [if_pos (show τ 3 0 = 0 from hB)]
      exact k16
    | some cm =>
      obtain ⟨c0, m0⟩ := cm
      obtain ⟨b1, b2, b3, b4⟩ := hB
      rw [if_neg (show ¬ τ 3 0 = 0 by rw [b1]; decide), b2]
      by_cases z : v_mx (V 4) 4 < m0
      · rw [if_pos ((a_lt (by omega) (by omega)).mpr z), show s_up (some (c0, m0)) p (some (v_mx (V 4) 4)) = some (p, v_mx (V 4) 4) from if_pos z]
        exact k16
      · rw [if_neg (by rw [a_lt (by omega) (by omega)]; exact z), show s_up (some (c0, m0)) p (some (v_mx (V 4) 4)) = some (c0, m0) from if_neg z]
        exact ⟨σ, τ, rfl, hA, hQ, b1, b2, b3, b4⟩
  | succ d ih =>
    intro n hn l hl σ V τ p st hA hW hX hQ hB
    obtain ⟨n, rfl⟩ : ∃ k, n = k + 1 := ⟨n - 1, by omega⟩
    have hmx := s_mx90 hW
    have h6 := hX.1
    have hbit := hX.2 l (Nat.le_refl _)
    have IH := ih n (by omega)
    rw [zX3_tryLoavesFrom_s]
    have k16 : ∃ σ' τ', zX3_tryLoavesFrom_16 (zX3_tryLoavesFrom n) σ τ (nI l) (nI (v_mx (V 4) 4)) = some (σ', τ') ∧ v_A σ' V ∧ s_Q b L τ' l p ∧ s_B b L τ' (s_T b L (d + 1) l V p st) := by
      unfold zX3_tryLoavesFrom_16
      rw [c_isLoaf hA hW (by omega), a_b1, if_pos (show l < V 6 0 by omega), if_neg (by decide), c_wasEaten hA hW (by omega), a_b1, hbit]
      by_cases q : b.testBit l = true
      · obtain ⟨σ1, τ1, k1, hA1, hQ1, hB1⟩ := IH (l + 1) (by omega) σ V τ p st hA hW hX.up (hQ.skip q) hB
        refine ⟨σ1, τ1, ?_, hA1, hQ1.skip' q, ?_⟩
        · rw [if_pos q, if_neg (by decide), nI_1, k1, a_b2]
        · rw [s_T_1 q]; exact hB1
      · rw [if_neg q, if_pos rfl, s_T_0 (by omega) q]
        exact s_loop (by omega) q IH hW hX 4 0 rfl 70000 (by omega) σ τ hA hQ hB
    unfold jX3_tryLoavesFrom
    cases st with
    | none =>
      rw [if_pos (show τ 3 0 = 0 from hB)]
      exact k16
    | some cm =>
      obtain ⟨c0, m0⟩ := cm
      obtain ⟨b1, b2, b3, b4⟩ := hB
      rw [if_neg (show ¬ τ 3 0 = 0 by rw [b1]; decide), b2]
      by_cases z : v_mx (V 4) 4 < m0
      · rw [if_pos ((a_lt (by omega) (by omega)).mpr z)]
        exact k16
      · rw [if_neg (by rw [a_lt (by omega) (by omega)]; exact z), s_T_ge (by omega)]
        exact ⟨σ, τ, rfl, hA, hQ, b1, b2, b3, b4⟩
theorem s_start_l : ∀ (d i : Nat), i + d = 8 → ∀ (n : Nat), d < n → ∀ (σ : q_S), (∀ j, j < i → σ 0 j = -1) → ∃ σ', zX1_start_2 n σ (nI i) = some σ' ∧ (∀ j, j < 8 → σ' 0 j = -1) ∧ σ' 3 0 = 0 := by
  intro d
  induction d with
  | zero =>
    intro i hi n hn σ h
    obtain ⟨n, rfl⟩ : ∃ k, n = k + 1 := ⟨n - 1, by omega⟩
    have : i = 8 := by omega
    subst this
    rw [zX1_start_2_s]
    unfold jX1_start_2
    rw [if_pos (by decide)]
    refine ⟨_, rfl, fun j hj => ?_, q_u_s⟩
    rw [q_u_k (by decide)]
    exact h j hj
  | succ d ih =>
    intro i hi n hn σ h
    obtain ⟨n, rfl⟩ : ∃ k, n = k + 1 := ⟨n - 1, by omega⟩
    rw [zX1_start_2_s]
    unfold jX1_start_2
    rw [if_neg (by rw [show (8 : Int32) = nI 8 from rfl, a_le (by omega) (by omega)]; omega), a_gd (a_ib (by omega) (by omega)), a_lt', a_lt', a_cl (by omega), nI_1]
    refine ih (i + 1) (by omega) n (by omega) _ (fun j hj => ?_)
    by_cases q : j = i
    · subst q; exact q_u_s
    · rw [q_u_j q]; exact h j (by omega)
theorem s_start (σ : q_S) : ∃ σ', zX1_start σ = some σ' ∧ (∀ j, j < 8 → σ' 0 j = -1) ∧ σ' 3 0 = 0 := s_start_l 8 0 rfl 70000 (by omega) σ (fun j h => by omega)
