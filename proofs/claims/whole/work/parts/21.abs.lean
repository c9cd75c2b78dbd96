/-! a valley in plain numbers: V k j, the fields by their places; what a class's state holds of it -/
abbrev q_V : Type := Nat → Nat → Nat
def v_u (V : q_V) (k j x : Nat) : q_V := fun k' j' => if k' = k ∧ j' = j then x else V k' j'
def v_sz (k : Nat) : Nat := [1, 1, 4, 4, 4, 4, 1, 1, 8, 8, 1, 1, 6, 6, 1].getD k 0
def v_A (σ : q_S) (V : q_V) : Prop := ∀ k j, j < v_sz k → σ k j = nI (V k j)
theorem v_A.u {σ : q_S} {V : q_V} (h : v_A σ V) (k j x : Nat) : v_A (q_u σ k j (nI x)) (v_u V k j x) := by
  intro k' j' hj
  unfold q_u v_u
  cases hb : Nat.beq k' k with
  | true =>
    have e : k' = k := Nat.eq_of_beq_eq_true hb
    subst e
    show upd (σ k') j (nI x) j' = _
    unfold upd
    by_cases hj' : j' = j
    · rw [if_pos hj', if_pos ⟨rfl, hj'⟩]
    · rw [if_neg hj', if_neg (fun z => hj' z.2)]
      exact h _ _ hj
  | false =>
    have e : k' ≠ k := Nat.ne_of_beq_eq_false hb
    show σ k' j' = _
    rw [if_neg (fun z => e z.1)]
    exact h _ _ hj
/-- the kinds: whether one of a kind, with such a hunger, eats a loaf of so many deeds -/
def v_k (kd hg d : Nat) : Bool := decide (kd ≠ 2) && (decide (kd = 1) || decide (kd = 4) || decide (d ≤ hg))
def v_wt (V : q_V) (e l : Nat) : Bool := decide (e < V 0 0) && decide (l < V 6 0) && (V 1 0).testBit e && !(V 7 0).testBit l && v_k (V 2 e) (V 3 e) (V 8 l)
def v_c (kd p : Nat) : Nat := if kd = 3 then p / 2 else p
def v_part (V : q_V) (e pay part : Nat) : q_V := v_u (v_u V 5 e (V 5 e + pay)) 4 e (V 4 e + v_c (V 2 e) part)
def v_eat (V : q_V) (e l : Nat) : q_V := v_u (v_u (v_part V e (V 8 l) (V 8 l + V 9 l)) 3 e (V 3 e - 2)) 7 0 (V 7 0 ||| 2 ^ l)
/-- all that is carried, and what lies in the loaves that were not eaten -/
def v_lf (V : q_V) (l : Nat) : Nat := if l < V 6 0 ∧ (V 7 0).testBit l = false then V 8 l + V 9 l else 0
def v_T (V : q_V) : Nat := V 4 0 + V 4 1 + V 4 2 + V 4 3 + (v_lf V 0 + v_lf V 1 + v_lf V 2 + v_lf V 3 + v_lf V 4 + v_lf V 5 + v_lf V 6 + v_lf V 7)
def v_W (V : q_V) : Prop := (V 0 0 ≤ 4 ∧ V 6 0 ≤ 8 ∧ (V 0 0 = 0 ↔ V 6 0 = 0)) ∧ (V 1 0 < 2 ^ V 0 0 ∧ V 7 0 < 2 ^ V 6 0) ∧ (∀ e, e < 4 → V 2 e ≤ 4 ∧ V 3 e ≤ 9) ∧ (∀ e, V 0 0 ≤ e → e < 4 → V 4 e = 0 ∧ V 5 e = 0) ∧ (∀ l, l < V 6 0 → V 8 l ≤ 9 ∧ V 8 l + V 9 l ≤ 90) ∧ v_T V ≤ 90 ∧ (V 11 0 ≤ 6 ∧ ∀ k, k < V 11 0 → V 12 k < 2 ^ V 6 0 ∧ V 13 k ≤ 99) ∧ V 14 0 < 64
theorem v_W.E {V : q_V} (h : v_W V) : V 0 0 ≤ 4 := h.1.1
theorem v_W.L {V : q_V} (h : v_W V) : V 6 0 ≤ 8 := h.1.2.1
theorem v_W.bE {V : q_V} (h : v_W V) : V 1 0 < 16 := Nat.lt_of_lt_of_le h.2.1.1 (Nat.pow_le_pow_right (by omega) h.E)
theorem v_W.bL {V : q_V} (h : v_W V) : V 7 0 < 256 := Nat.lt_of_lt_of_le h.2.1.2 (Nat.pow_le_pow_right (by omega) h.L)
theorem v_W.kd {V : q_V} (h : v_W V) {e : Nat} (he : e < 4) : V 2 e ≤ 4 := (h.2.2.1 e he).1
theorem v_W.hg {V : q_V} (h : v_W V) {e : Nat} (he : e < 4) : V 3 e ≤ 9 := (h.2.2.1 e he).2
theorem v_W.dd {V : q_V} (h : v_W V) {l : Nat} (hl : l < V 6 0) : V 8 l ≤ 9 := (h.2.2.2.2.1 l hl).1
theorem v_W.dh {V : q_V} (h : v_W V) {l : Nat} (hl : l < V 6 0) : V 8 l + V 9 l ≤ 90 := (h.2.2.2.2.1 l hl).2
theorem v_W.cr {V : q_V} (h : v_W V) {e : Nat} (he : e < 4) : V 4 e ≤ 90 := by
  have h1 := h.2.2.2.2.2.1
  unfold v_T at h1
  rcases (show e = 0 ∨ e = 1 ∨ e = 2 ∨ e = 3 by omega) with rfl | rfl | rfl | rfl <;> omega
/-! the class's small methods -/
theorem c_isEater {σ : q_S} {V : q_V} (hA : v_A σ V) (hW : v_W V) {e : Nat} (he : e < 2 ^ 31) : zX2_isEater σ (nI e) = some (if e < V 0 0 then 1 else 0) := by
  have h0 := hA 0 0 (by decide)
  have hE := hW.E
  unfold zX2_isEater
  rw [if_neg (a_neg he), h0]
  by_cases h : e < V 0 0
  · rw [if_neg (by rw [a_le (by omega) he]; omega), if_neg (by rw [show (4 : Int32) = nI 4 from rfl, a_le (by omega) he]; omega), if_pos h]
  · rw [if_pos (by rw [a_le (by omega) he]; omega), if_neg h]
theorem c_isEater_neg {σ : q_S} {x : Int32} (h : x < 0) : zX2_isEater σ x = some 0 := by
  unfold zX2_isEater
  rw [if_pos h]
theorem c_isLoaf {σ : q_S} {V : q_V} (hA : v_A σ V) (hW : v_W V) {l : Nat} (hl : l < 2 ^ 31) : zX2_isLoaf σ (nI l) = some (if l < V 6 0 then 1 else 0) := by
  have h0 := hA 6 0 (by decide)
  have hL := hW.L
  unfold zX2_isLoaf
  rw [if_neg (a_neg hl), h0]
  by_cases h : l < V 6 0
  · rw [if_neg (by rw [a_le (by omega) hl]; omega), if_neg (by rw [show (8 : Int32) = nI 8 from rfl, a_le (by omega) hl]; omega), if_pos h]
  · rw [if_pos (by rw [a_le (by omega) hl]; omega), if_neg h]
theorem c_isLoaf_neg {σ : q_S} {x : Int32} (h : x < 0) : zX2_isLoaf σ x = some 0 := by
  unfold zX2_isLoaf
  rw [if_pos h]
theorem c_isAlive {σ : q_S} {V : q_V} (hA : v_A σ V) (hW : v_W V) {e : Nat} (he : e < 31) : zX2_isAlive σ (nI e) = some (if (V 1 0).testBit e then 1 else 0) := by
  have h0 := hA 1 0 (by decide)
  have hb := hW.bE
  unfold zX2_isAlive
  rw [h0, a_hasBit (by omega) he, a_b1, a_gd (a_is _)]
theorem c_wasEaten {σ : q_S} {V : q_V} (hA : v_A σ V) (hW : v_W V) {l : Nat} (hl : l < 31) : zX2_wasEaten σ (nI l) = some (if (V 7 0).testBit l then 1 else 0) := by
  have h0 := hA 7 0 (by decide)
  have hb := hW.bL
  unfold zX2_wasEaten
  rw [h0, a_hasBit (by omega) hl, a_b1, a_gd (a_is _)]
theorem c_isRead {σ : q_S} {V : q_V} (hA : v_A σ V) (hW : v_W V) : zX2_isRead σ = some (if V 0 0 = 0 then 0 else 1) := by
  have h0 := hA 0 0 (by decide)
  have hE := hW.E
  unfold zX2_isRead
  rw [h0]
  by_cases h : V 0 0 = 0
  · rw [if_pos (by rw [show (0 : Int32) = nI 0 from rfl, a_le (by omega) (by omega)]; omega), if_pos h]
  · rw [if_neg (by rw [show (0 : Int32) = nI 0 from rfl, a_le (by omega) (by omega)]; omega), if_neg h]
theorem c_stomachs : ∀ kd, kd < 5 → ∀ hg, hg < 10 → ∀ d, d < 10 → zX3_stomachs (nI kd) (nI hg) (nI d) = some (if v_k kd hg d then 1 else 0) := by decide +kernel
theorem c_isSuch : ∀ a, a < 5 → ∀ b, b < 5 → zX3_isSuch (nI a) (nI b) = some (if b = 0 ∨ b = a ∨ (b = 1 ∧ a = 4) then 1 else 0) := by decide +kernel
theorem c_lessHungry : ∀ h, h < 10 → ∀ b, b < 3 → zX3_lessHungry (nI h) (nI b) = some (nI (h - b)) := by decide +kernel
theorem c_carriedBy {kd p : Nat} (hk : kd < 2 ^ 31) (hp : p < 2 ^ 31) : zX3_carriedBy (nI kd) (nI p) = some (nI (v_c kd p)) := by
  unfold zX3_carriedBy v_c
  have e : (nI kd = (3 : Int32)) ↔ kd = 3 := a_eq (b := 3) hk (by omega)
  by_cases h : kd = 3
  · rw [if_pos (e.mpr h), if_pos h, show (2 : Int32) = nI 2 from rfl, pk_div hp (by omega) (by omega)]
  · rw [if_neg (fun z => h (e.mp z)), if_neg h]
theorem c_roundedUpHalf {a : Nat} (ha : a < 2 ^ 30) : zX3_roundedUpHalf (nI a) = some (nI ((a + 1) / 2)) := by
  unfold zX3_roundedUpHalf
  rw [show (2 : Int32) = nI 2 from rfl, nI_1, pk_div (by omega) (by omega) (by omega)]
theorem c_wouldTake {σ : q_S} {V : q_V} (hA : v_A σ V) (hW : v_W V) {e l : Nat} (he : e < 2 ^ 31) (hl : l < 2 ^ 31) : zX2_wouldTake σ (nI e) (nI l) = some (if v_wt V e l then 1 else 0) := by
  have hE := hW.E
  have hL := hW.L
  unfold zX2_wouldTake
  rw [c_isEater hA hW he, a_b1]
  by_cases h1 : e < V 0 0
  · rw [if_pos h1, if_neg (by decide), c_isLoaf hA hW hl, a_b1]
    by_cases h2 : l < V 6 0
    · rw [if_pos h2, if_neg (by decide), c_isAlive hA hW (by omega), a_b1]
      by_cases h3 : (V 1 0).testBit e = true
      · rw [if_pos h3, if_neg (by decide), c_wasEaten hA hW (by omega), a_b1]
        by_cases h4 : (V 7 0).testBit l = true
        · rw [if_pos h4, if_neg (by decide)]
          simp [v_wt, h1, h2, h3, h4]
        · rw [if_neg h4, if_pos rfl, a_gd (a_ib (by omega) (by omega)), a_gd (a_ib (by omega) (by omega)), a_gd (a_ib (by omega) (by omega)), a_cl he, a_cl hl, hA 2 e (by show e < 4; omega), hA 3 e (by show e < 4; omega), hA 8 l (by show l < 8; omega)]
          have k1 := hW.kd (e := e) (by omega)
          have k2 := hW.hg (e := e) (by omega)
          have k3 := hW.dd h2
          rw [c_stomachs _ (by omega) _ (by omega) _ (by omega), a_b1]
          have h4' : (V 7 0).testBit l = false := by simpa using h4
          by_cases h5 : v_k (V 2 e) (V 3 e) (V 8 l) = true
          · rw [if_pos h5, if_neg (by decide)]
            simp [v_wt, h1, h2, h3, h4', h5]
          · rw [if_neg h5, if_pos rfl]
            simp [v_wt, h5]
      · rw [if_neg h3, if_pos rfl]
        simp [v_wt, h3]
    · rw [if_neg h2, if_pos rfl]
      simp [v_wt, h2]
  · rw [if_neg h1, if_pos rfl]
    simp [v_wt, h1]
