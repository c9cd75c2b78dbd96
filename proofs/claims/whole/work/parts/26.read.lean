/-! the class's methods that ask -/
def v_bits (p : Nat → Bool) : Nat → Nat
  | 0 => 0
  | n + 1 => v_bits p n ||| (if p n = true then 2 ^ n else 0)
theorem v_bits_lt (p : Nat → Bool) (n : Nat) : v_bits p n < 2 ^ n := by
  induction n with
  | zero => exact Nat.one_pos
  | succ n ih =>
    have h1 : v_bits p n < 2 ^ (n + 1) := Nat.lt_trans ih (Nat.pow_lt_pow_right (by omega) (by omega))
    refine Nat.or_lt_two_pow h1 ?_
    split
    · exact Nat.pow_lt_pow_right (by omega) (by omega)
    · exact Nat.two_pow_pos _
theorem v_bits_tb (p : Nat → Bool) (n l : Nat) : (v_bits p n).testBit l = (decide (l < n) && p l) := by
  induction n with
  | zero => simp [v_bits]
  | succ n ih =>
    show (v_bits p n ||| (if p n = true then 2 ^ n else 0)).testBit l = _
    rw [Nat.testBit_or, ih]
    by_cases h : l = n
    · subst h
      by_cases hp : p l = true
      · simp [hp]
      · simp [hp]
    · have h1 : (if p n = true then 2 ^ n else 0).testBit l = false := by
        split
        · rw [Nat.testBit_two_pow]; simp; exact fun z => h z.symm
        · simp
      rw [h1, Bool.or_false]
      have : (l < n) ↔ (l < n + 1) := by omega
      simp [this]
theorem v_bits_ext {p q : Nat → Bool} {n : Nat} (h : ∀ l, l < n → p l = q l) : v_bits p n = v_bits q n := by
  apply Nat.eq_of_testBit_eq
  intro l
  rw [v_bits_tb, v_bits_tb]
  by_cases hl : l < n
  · rw [h l hl]
  · simp [hl]
theorem v_bits_up {p : Nat → Bool} {m n : Nat} (hmn : m ≤ n) (h : ∀ l, m ≤ l → l < n → p l = false) : v_bits p n = v_bits p m := by
  apply Nat.eq_of_testBit_eq
  intro l
  rw [v_bits_tb, v_bits_tb]
  by_cases hl : l < m
  · have : l < n := by omega
    simp [hl, this]
  · by_cases hl2 : l < n
    · rw [h l (by omega) hl2]; simp
    · simp [hl, hl2]
theorem v_bits_s {p : Nat → Bool} {n : Nat} : v_bits p (n + 1) = v_bits p n ||| (if p n = true then 2 ^ n else 0) := rfl
theorem a_bits {p : Nat → Bool} {i : Nat} (hi : i < 30) (h : p i = true) : nI (v_bits p i) ||| ((1 : Int32) <<< (nI i &&& 31)) = nI (v_bits p (i + 1)) := by
  have h1 := v_bits_lt p i
  have h2 : 2 ^ i < 2 ^ 31 := Nat.pow_lt_pow_right (by omega) (by omega)
  rw [a_shl (by omega), a_or (by omega) h2, v_bits_s, if_pos h]
theorem a_bits0 {p : Nat → Bool} {i : Nat} (h : ¬ p i = true) : nI (v_bits p i) = nI (v_bits p (i + 1)) := by
  rw [v_bits_s, if_neg h, Nat.or_zero]
theorem c_takenNow_l {σ : q_S} {V : q_V} (hA : v_A σ V) (hW : v_W V) {e : Nat} (he : e < 2 ^ 31) : ∀ (d i : Nat), i + d = 8 → ∀ (n : Nat), d < n → zX2_takenNow_4 σ (nI e) n (nI (v_bits (v_wt V e) i)) (nI i) = some (nI (v_bits (v_wt V e) 8)) := by
  intro d
  induction d with
  | zero =>
    intro i hi n hn
    obtain ⟨n, rfl⟩ : ∃ k, n = k + 1 := ⟨n - 1, by omega⟩
    have : i = 8 := by omega
    subst this
    rw [zX2_takenNow_4_s]
    unfold jX2_takenNow_4
    rw [if_pos (by decide)]
  | succ d ih =>
    intro i hi n hn
    obtain ⟨n, rfl⟩ : ∃ k, n = k + 1 := ⟨n - 1, by omega⟩
    rw [zX2_takenNow_4_s]
    unfold jX2_takenNow_4
    rw [if_neg (by rw [show (8 : Int32) = nI 8 from rfl, a_le (by omega) (by omega)]; omega), c_wouldTake hA hW he (by omega), a_b1]
    simp only [a_lt']
    rw [nI_1]
    by_cases h : v_wt V e i = true
    · rw [if_pos h, if_neg (by decide), a_bits (by omega) h]
      exact ih (i + 1) (by omega) n (by omega)
    · rw [if_neg h, if_pos rfl, a_bits0 h]
      exact ih (i + 1) (by omega) n (by omega)
theorem c_takenNow {σ : q_S} {V : q_V} (hA : v_A σ V) (hW : v_W V) {e : Nat} (he : e < 2 ^ 31) : zX2_takenNow σ (nI e) = some (nI (v_bits (v_wt V e) 8)) := c_takenNow_l hA hW he 8 0 rfl 70000 (by omega)
/-- sums over the loaves of a set -/
def v_ds (V : q_V) (b : Nat) : Nat → Nat
  | 0 => 0
  | n + 1 => v_ds V b n + (if n < V 6 0 ∧ b.testBit n = true then V 8 n else 0)
theorem v_ds_s {V : q_V} {b n : Nat} : v_ds V b (n + 1) = v_ds V b n + (if n < V 6 0 ∧ b.testBit n = true then V 8 n else 0) := rfl
theorem c_deedsOf_l {σ : q_S} {V : q_V} (hA : v_A σ V) (hW : v_W V) {b : Nat} (hb : b < 2 ^ 31) : ∀ (d i : Nat), i + d = 8 → ∀ (n : Nat), d < n → zX2_deedsOf_4 σ (nI b) n (nI (v_ds V b i)) (nI i) = some (nI (v_ds V b 8)) := by
  intro d
  induction d with
  | zero =>
    intro i hi n hn
    obtain ⟨n, rfl⟩ : ∃ k, n = k + 1 := ⟨n - 1, by omega⟩
    have : i = 8 := by omega
    subst this
    rw [zX2_deedsOf_4_s]
    unfold jX2_deedsOf_4
    rw [if_pos (by decide)]
  | succ d ih =>
    intro i hi n hn
    obtain ⟨n, rfl⟩ : ∃ k, n = k + 1 := ⟨n - 1, by omega⟩
    have q := ih (i + 1) (by omega) n (by omega)
    rw [v_ds_s] at q
    rw [zX2_deedsOf_4_s]
    unfold jX2_deedsOf_4
    rw [if_neg (by rw [show (8 : Int32) = nI 8 from rfl, a_le (by omega) (by omega)]; omega), c_isLoaf hA hW (by omega), a_b1]
    simp only [a_lt']
    rw [nI_1]
    by_cases h : i < V 6 0
    · rw [if_pos h, if_neg (by decide), a_hasBit hb (by omega), a_b1]
      by_cases h2 : b.testBit i = true
      · rw [if_pos ⟨h, h2⟩] at q
        rw [if_pos h2, if_neg (by decide), a_gd (a_ib (by omega) (by omega)), a_cl (by omega), hA 8 i (by show i < 8; omega), nI_add]
        exact q
      · rw [if_neg (fun z => h2 z.2), Nat.add_zero] at q
        rw [if_neg h2, if_pos rfl]
        exact q
    · rw [if_neg (fun z => h z.1), Nat.add_zero] at q
      rw [if_neg h, if_pos rfl]
      exact q
theorem c_deedsOf {σ : q_S} {V : q_V} (hA : v_A σ V) (hW : v_W V) {b : Nat} (hb : b < 2 ^ 31) : zX2_deedsOf σ (nI b) = some (nI (v_ds V b 8)) := c_deedsOf_l hA hW hb 8 0 rfl 70000 (by omega)
theorem v_ds_le {V : q_V} (hW : v_W V) (b : Nat) : ∀ n, v_ds V b n ≤ 9 * n := by
  intro n
  induction n with
  | zero => exact Nat.le_refl _
  | succ n ih =>
    show v_ds V b n + (if n < V 6 0 ∧ b.testBit n = true then V 8 n else 0) ≤ _
    split
    · rename_i h
      have := hW.dd h.1
      omega
    · omega
/-- whether one of a kind eats all of a set, one behind the other -/
def v_ct (V : q_V) (kd b : Nat) : Nat → Nat → Nat → Bool
  | 0, _, _ => true
  | d + 1, i, h => if i < V 6 0 ∧ b.testBit i = true then (v_k kd h (V 8 i) && v_ct V kd b d (i + 1) (h - 2)) else v_ct V kd b d (i + 1) h
theorem v_ct_s {V : q_V} {kd b d i h : Nat} : v_ct V kd b (d + 1) i h = if i < V 6 0 ∧ b.testBit i = true then (v_k kd h (V 8 i) && v_ct V kd b d (i + 1) (h - 2)) else v_ct V kd b d (i + 1) h := rfl
theorem c_canTakeAll_l {σ : q_S} {V : q_V} (hA : v_A σ V) (hW : v_W V) {e b : Nat} (he : e < V 0 0) (hb : b < 2 ^ 31) : ∀ (d i : Nat), i + d = 8 → ∀ (n : Nat), d < n → ∀ h, h < 10 → zX2_canTakeAll_20 σ (nI e) (nI b) n (nI h) (nI i) = some (if v_ct V (V 2 e) b d i h then 1 else 0) := by
  have hE := hW.E
  intro d
  induction d with
  | zero =>
    intro i hi n hn h hh
    obtain ⟨n, rfl⟩ : ∃ k, n = k + 1 := ⟨n - 1, by omega⟩
    have : i = 8 := by omega
    subst this
    rw [zX2_canTakeAll_20_s]
    unfold jX2_canTakeAll_20
    rw [if_pos (by decide)]
    rfl
  | succ d ih =>
    intro i hi n hn h hh
    obtain ⟨n, rfl⟩ : ∃ k, n = k + 1 := ⟨n - 1, by omega⟩
    have q := ih (i + 1) (by omega) n (by omega)
    rw [zX2_canTakeAll_20_s]
    unfold jX2_canTakeAll_20
    rw [if_neg (by rw [show (8 : Int32) = nI 8 from rfl, a_le (by omega) (by omega)]; omega), c_isLoaf hA hW (by omega), a_b1]
    simp only [a_lt']
    rw [nI_1]
    by_cases h1 : i < V 6 0
    · by_cases h2 : b.testBit i = true
      · have kd := hW.kd (e := e) (by omega)
        have dd := hW.dd h1
        rw [v_ct_s, if_pos (show i < V 6 0 ∧ b.testBit i = true from ⟨h1, h2⟩), if_pos h1, if_neg (by decide), a_hasBit hb (by omega), a_b1, if_pos h2, if_neg (by decide), a_gd (a_ib (by omega) (by omega)), a_gd (a_ib (by omega) (by omega)), a_cl (by omega), a_cl (by omega), hA 8 i (by show i < 8; omega), hA 2 e (by show e < 4; omega), c_stomachs _ (by omega) _ hh _ (by omega), a_b1]
        by_cases h3 : v_k (V 2 e) h (V 8 i) = true
        · rw [h3, if_pos rfl, if_neg (by decide), show (2 : Int32) = nI 2 from rfl, c_lessHungry _ hh _ (by omega), a_b1, q _ (by omega), Bool.true_and]
        · rw [if_neg h3, if_pos rfl]
          simp [h3]
      · rw [v_ct_s, if_neg (show ¬ (i < V 6 0 ∧ b.testBit i = true) from fun z => h2 z.2), if_pos h1, if_neg (by decide), a_hasBit hb (by omega), a_b1, if_neg h2, if_pos rfl, q h hh]
    · rw [v_ct_s, if_neg (show ¬ (i < V 6 0 ∧ b.testBit i = true) from fun z => h1 z.1), if_neg h1, if_pos rfl, q h hh]
theorem c_canTakeAll {σ : q_S} {V : q_V} (hA : v_A σ V) (hW : v_W V) {e b : Nat} (he : e < V 0 0) (hb : b < 2 ^ 31) : zX2_canTakeAll σ (nI e) (nI b) = some (if v_ct V (V 2 e) b 8 0 (V 3 e) then 1 else 0) := by
  have hE := hW.E
  have hg := hW.hg (e := e) (by omega)
  unfold zX2_canTakeAll
  simp only [a_lt']
  rw [c_isEater hA hW (by omega), a_b1, if_pos he, if_neg (by decide), a_gd (a_ib (by omega) (by omega)), a_cl (by omega), hA 3 e (by show e < 4; omega)]
  exact c_canTakeAll_l hA hW he hb 8 0 rfl 70000 (by omega) (V 3 e) (by omega)
/-- what one is paid by a set; the best set -/
def v_pv (V : q_V) (e b : Nat) : Nat := if b &&& v_bits (v_wt V e) 8 = b ∧ v_ct V (V 2 e) b 8 0 (V 3 e) = true then v_ds V b 8 else 0
def v_f (V : q_V) (e : Nat) : Nat → Nat × Nat
  | 0 => (0, 0)
  | n + 1 => if (v_f V e n).2 < v_pv V e n then (n, v_pv V e n) else v_f V e n
theorem a_subE {a b : Nat} (i : Nat) : (nI a &&& (nI b ^^^ (-1 : Int32))).toBitVec.getLsbD i = (decide (i < 32) && (a.testBit i && !b.testBit i)) := by
  rw [Int32.toBitVec_and, Int32.toBitVec_xor, show ((-1 : Int32)).toBitVec = BitVec.allOnes 32 from by decide]
  show (BitVec.ofNat 32 a &&& (BitVec.ofNat 32 b ^^^ BitVec.allOnes 32)).getLsbD i = _
  rw [BitVec.getLsbD_and, BitVec.getLsbD_xor, BitVec.getLsbD_ofNat, BitVec.getLsbD_ofNat, BitVec.getLsbD_allOnes]
  by_cases h : i < 32
  · simp [h]
  · simp [h]
theorem a_sub {a b : Nat} (ha : a < 2 ^ 32) : (nI a &&& (nI b ^^^ (-1 : Int32)) = 0) ↔ a &&& b = a := by
  constructor
  · intro h
    apply Nat.eq_of_testBit_eq
    intro i
    have h1 := a_subE (a := a) (b := b) i
    rw [h] at h1
    rw [Nat.testBit_and]
    have h0 : ((0 : Int32)).toBitVec.getLsbD i = false := by
      show (0#32).getLsbD i = false
      simp
    rw [h0] at h1
    by_cases hi : i < 32
    · cases ha' : a.testBit i <;> cases hb' : b.testBit i <;> simp_all
    · have : a.testBit i = false := Nat.testBit_lt_two_pow (Nat.lt_of_lt_of_le ha (Nat.pow_le_pow_right (by omega) (by omega)))
      rw [this]; rfl
  · intro h
    apply Int32.toBitVec_inj.mp
    apply BitVec.eq_of_getLsbD_eq
    intro i hi
    rw [a_subE i]
    have h2 := congrArg (fun z => z.testBit i) h
    simp only [Nat.testBit_and] at h2
    show _ = (0#32).getLsbD i
    cases ha' : a.testBit i <;> cases hb' : b.testBit i <;> simp_all
