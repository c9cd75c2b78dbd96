/-! the ways of spreading -/
def s_k (b L l : Nat) : Nat := v_lv b L - v_lv b l
theorem v_lv_mono {b : Nat} : ∀ d n, v_lv b n ≤ v_lv b (n + d) := by
  intro d
  induction d with
  | zero => intro n; exact Nat.le_refl _
  | succ d ih =>
    intro n
    have := ih n
    rw [← Nat.add_assoc, v_lv_s]
    omega
theorem v_lv_le {b : Nat} : ∀ n, v_lv b n ≤ n := by
  intro n
  have := v_lv_pc b n
  omega
theorem s_k_le {b L l : Nat} : s_k b L l ≤ L := by
  have := v_lv_le (b := b) L
  unfold s_k
  omega
theorem s_k_1 {b L l : Nat} (h : b.testBit l = true) : s_k b L l = s_k b L (l + 1) := by
  unfold s_k
  rw [v_lv_s, if_pos h, Nat.add_zero]
theorem s_k_0 {b L l : Nat} (hl : l < L) (h : ¬ b.testBit l = true) : s_k b L l = s_k b L (l + 1) + 1 := by
  have h1 := v_lv_mono (b := b) (L - (l + 1)) (l + 1)
  rw [show l + 1 + (L - (l + 1)) = L by omega] at h1
  have h2 : v_lv b (l + 1) = v_lv b l + 1 := by rw [v_lv_s, if_neg h]
  unfold s_k
  omega
/-- one way, from a loaf on: how much the most laden carries, if all is eaten so -/
def s_m (b L c : Nat) : Nat → Nat → q_V → Option Nat
  | 0, _, V => some (v_mx (V 4) 4)
  | d + 1, l, V => if b.testBit l = true then s_m b L c d (l + 1) V else (if v_wt V (c / 4 ^ s_k b L (l + 1) % 4) l = true then s_m b L c d (l + 1) (v_eat V (c / 4 ^ s_k b L (l + 1) % 4) l) else none)
theorem s_m_s {b L c d l : Nat} {V : q_V} : s_m b L c (d + 1) l V = if b.testBit l = true then s_m b L c d (l + 1) V else (if v_wt V (c / 4 ^ s_k b L (l + 1) % 4) l = true then s_m b L c d (l + 1) (v_eat V (c / 4 ^ s_k b L (l + 1) % 4) l) else none) := rfl
def s_up (st : Option (Nat × Nat)) (c : Nat) (r : Option Nat) : Option (Nat × Nat) :=
  match r with
  | none => st
  | some m => match st with
    | none => some (c, m)
    | some (c0, m0) => if m < m0 then some (c, m) else some (c0, m0)
/-- the first of the best among n ways, from one on -/
def s_f (F : Nat → Option Nat) (lo : Nat) : Nat → Option (Nat × Nat) → Option (Nat × Nat)
  | 0, st => st
  | n + 1, st => s_up (s_f F lo n st) (lo + n) (F (lo + n))
theorem s_f_s {F : Nat → Option Nat} {lo n : Nat} {st : Option (Nat × Nat)} : s_f F lo (n + 1) st = s_up (s_f F lo n st) (lo + n) (F (lo + n)) := rfl
theorem s_f_add {F : Nat → Option Nat} {lo a : Nat} {st : Option (Nat × Nat)} : ∀ b, s_f F lo (a + b) st = s_f F (lo + a) b (s_f F lo a st) := by
  intro b
  induction b with
  | zero => rfl
  | succ b ih => rw [← Nat.add_assoc, s_f_s, s_f_s, ih, Nat.add_assoc]
theorem s_f_congr {F G : Nat → Option Nat} {lo : Nat} {st : Option (Nat × Nat)} : ∀ n, (∀ c, lo ≤ c → c < lo + n → F c = G c) → s_f F lo n st = s_f G lo n st := by
  intro n
  induction n with
  | zero => intro _; rfl
  | succ n ih =>
    intro h
    rw [s_f_s, s_f_s, ih (fun c h1 h2 => h c h1 (by omega)), h (lo + n) (by omega) (by omega)]
theorem s_f_none {lo : Nat} {st : Option (Nat × Nat)} : ∀ n, s_f (fun _ => none) lo n st = st := by
  intro n
  induction n with
  | zero => rfl
  | succ n ih => rw [s_f_s, ih]; rfl
theorem s_f_ge {F : Nat → Option Nat} {lo c0 m0 : Nat} : ∀ n, (∀ c, lo ≤ c → c < lo + n → ∀ m, F c = some m → m0 ≤ m) → s_f F lo n (some (c0, m0)) = some (c0, m0) := by
  intro n
  induction n with
  | zero => intro _; rfl
  | succ n ih =>
    intro h
    rw [s_f_s, ih (fun c h1 h2 => h c h1 (by omega))]
    cases hF : F (lo + n) with
    | none => rfl
    | some m =>
      have := h (lo + n) (by omega) (by omega) m hF
      show (if m < m0 then some (lo + n, m) else some (c0, m0)) = _
      rw [if_neg (by omega)]
theorem s_mx_eat {V : q_V} {e l : Nat} (he : e < 4) : v_mx (v_eat V e l 4) 4 = max (v_mx (V 4) 4) (v_eat V e l 4 e) := by
  have h4 : v_eat V e l 4 e = V 4 e + v_c (V 2 e) (V 8 l + V 9 l) := by rw [v_eat_4, if_pos rfl]
  have h : ∀ g : Nat → Nat, v_mx g 4 = max (max (max (max 0 (g 0)) (g 1)) (g 2)) (g 3) := fun g => rfl
  rw [h, h, h4]
  have k : ∀ j, v_eat V e l 4 j = if j = e then V 4 e + v_c (V 2 e) (V 8 l + V 9 l) else V 4 j := fun j => v_eat_4
  rw [k, k, k, k]
  have q : e = 0 ∨ e = 1 ∨ e = 2 ∨ e = 3 := by omega
  rcases q with q | q | q | q <;> subst q <;> simp only [if_pos, if_neg, Nat.reduceEqDiff, ite_true, ite_false] <;> omega
theorem s_m_ge {b L c : Nat} : ∀ d l V m, s_m b L c d l V = some m → v_mx (V 4) 4 ≤ m := by
  intro d
  induction d with
  | zero => intro l V m h; injection h with h; omega
  | succ d ih =>
    intro l V m h
    rw [s_m_s] at h
    by_cases h1 : b.testBit l = true
    · rw [if_pos h1] at h
      exact ih _ _ _ h
    · rw [if_neg h1] at h
      by_cases h2 : v_wt V (c / 4 ^ s_k b L (l + 1) % 4) l = true
      · rw [if_pos h2] at h
        have := ih _ _ _ h
        rw [s_mx_eat (Nat.mod_lt _ (by omega))] at this
        omega
      · rw [if_neg h2] at h
        cases h
/-- all ways behind a prefix -/
def s_T (b L d l : Nat) (V : q_V) (p : Nat) (st : Option (Nat × Nat)) : Option (Nat × Nat) := s_f (fun c => s_m b L c d l V) (p * 4 ^ s_k b L l) (4 ^ s_k b L l) st
def s_E (b L d l : Nat) (V : q_V) (p : Nat) (st : Option (Nat × Nat)) : Nat → Option (Nat × Nat)
  | 0 => st
  | e + 1 => if v_wt V e l = true then s_T b L d (l + 1) (v_eat V e l) (4 * p + e) (s_E b L d l V p st e) else s_E b L d l V p st e
theorem s_E_s {b L d l : Nat} {V : q_V} {p : Nat} {st : Option (Nat × Nat)} {e : Nat} : s_E b L d l V p st (e + 1) = if v_wt V e l = true then s_T b L d (l + 1) (v_eat V e l) (4 * p + e) (s_E b L d l V p st e) else s_E b L d l V p st e := rfl
theorem s_T_1 {b L d l : Nat} {V : q_V} {p : Nat} {st : Option (Nat × Nat)} (h : b.testBit l = true) : s_T b L (d + 1) l V p st = s_T b L d (l + 1) V p st := by
  unfold s_T
  rw [s_k_1 h]
  exact s_f_congr _ (fun c _ _ => by rw [s_m_s, if_pos h])
theorem s_T_0 {b L d l : Nat} {V : q_V} {p : Nat} {st : Option (Nat × Nat)} (hl : l < L) (h : ¬ b.testBit l = true) : s_T b L (d + 1) l V p st = s_E b L d l V p st 4 := by
  have main : ∀ e, e ≤ 4 → s_f (fun c => s_m b L c (d + 1) l V) (p * 4 ^ s_k b L l) (e * 4 ^ s_k b L (l + 1)) st = s_E b L d l V p st e := by
    intro e
    induction e with
    | zero => intro _; rw [Nat.zero_mul]; rfl
    | succ e ih =>
      intro he
      have hk : p * 4 ^ s_k b L l + e * 4 ^ s_k b L (l + 1) = (4 * p + e) * 4 ^ s_k b L (l + 1) := by
        rw [s_k_0 hl h, Nat.pow_succ, Nat.add_mul]
        congr 1
        rw [Nat.mul_comm (4 ^ s_k b L (l + 1)) 4, ← Nat.mul_assoc, Nat.mul_comm p 4]
      have hP : 0 < 4 ^ s_k b L (l + 1) := Nat.pow_pos (by omega)
      rw [Nat.add_mul, Nat.one_mul, s_f_add, ih (by omega), hk, s_E_s]
      have hd : ∀ c, (4 * p + e) * 4 ^ s_k b L (l + 1) ≤ c → c < (4 * p + e) * 4 ^ s_k b L (l + 1) + 4 ^ s_k b L (l + 1) → c / 4 ^ s_k b L (l + 1) % 4 = e := by
        intro c h1 h2
        have : c / 4 ^ s_k b L (l + 1) = 4 * p + e := by
          apply Nat.div_eq_of_lt_le h1
          rw [Nat.add_mul, Nat.one_mul]
          exact h2
        rw [this]
        omega
      by_cases q : v_wt V e l = true
      · rw [if_pos q]
        unfold s_T
        exact s_f_congr _ (fun c h1 h2 => by rw [s_m_s, if_neg h, hd c h1 h2, if_pos q])
      · rw [if_neg q]
        refine Eq.trans (s_f_congr (G := fun _ => none) _ (fun c h1 h2 => by rw [s_m_s, if_neg h, hd c h1 h2, if_neg q])) (s_f_none _)
  have := main 4 (Nat.le_refl _)
  unfold s_T
  rw [← this, s_k_0 hl h, Nat.pow_succ, Nat.mul_comm (4 ^ s_k b L (l + 1)) 4]
theorem s_T_end {b L : Nat} {V : q_V} {p : Nat} {st : Option (Nat × Nat)} : s_T b L 0 L V p st = s_up st p (some (v_mx (V 4) 4)) := by
  unfold s_T
  have : s_k b L L = 0 := by unfold s_k; omega
  rw [this, Nat.pow_zero, Nat.mul_one]
  rfl
theorem s_T_ge {b L d l : Nat} {V : q_V} {p c0 m0 : Nat} (h : m0 ≤ v_mx (V 4) 4) : s_T b L d l V p (some (c0, m0)) = some (c0, m0) :=
  s_f_ge _ (fun c _ _ m hm => Nat.le_trans h (s_m_ge _ _ _ _ hm))
/-- what stays as loaves are eaten -/
def s_X (b L : Nat) (l : Nat) (V : q_V) : Prop := V 6 0 = L ∧ ∀ j, l ≤ j → (V 7 0).testBit j = b.testBit j
theorem s_X.up {b L l : Nat} {V : q_V} (h : s_X b L l V) : s_X b L (l + 1) V := ⟨h.1, fun j hj => h.2 j (by omega)⟩
theorem s_X.eat {b L l e : Nat} {V : q_V} (h : s_X b L l V) : s_X b L (l + 1) (v_eat V e l) := by
  refine ⟨(v_eat_k (by decide)).trans h.1, fun j hj => ?_⟩
  rw [v_eat_7, v_bit, h.2 j (by omega), show decide (l = j) = false from by simp; omega, Bool.or_false]
