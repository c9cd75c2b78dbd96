/-! plain facts of numbers -/
theorem a_or {a b : Nat} (ha : a < 2 ^ 31) (hb : b < 2 ^ 31) : nI a ||| nI b = nI (a ||| b) := by
  apply Int32.toBitVec_inj.mp
  rw [Int32.toBitVec_or]
  show BitVec.ofNat 32 a ||| BitVec.ofNat 32 b = BitVec.ofNat 32 (a ||| b)
  apply BitVec.eq_of_toNat_eq
  simp only [BitVec.toNat_or, BitVec.toNat_ofNat]
  have h1 : a ||| b < 2 ^ 31 := Nat.or_lt_two_pow ha hb
  rw [Nat.mod_eq_of_lt (by omega), Nat.mod_eq_of_lt (by omega), Nat.mod_eq_of_lt (by omega)]
theorem a_and31 {i : Nat} (h : i < 32) : nI i &&& 31 = nI i := by
  rw [pk_andN (by omega) 5 (by decide), Nat.mod_eq_of_lt (by omega)]
theorem a_smod : ∀ i, i < 31 → ((nI i).toBitVec.smod 32).toNat = i := by decide +kernel
theorem a_shr {b i : Nat} (hb : b < 2 ^ 31) (hi : i < 31) : nI b >>> (nI i &&& 31) = nI (b / 2 ^ i) := by
  rw [a_and31 (by omega)]
  exact pk_shrN hb _ i (a_smod i hi)
theorem a_shl {i : Nat} (hi : i < 31) : (1 : Int32) <<< (nI i &&& 31) = nI (2 ^ i) := by
  rw [a_and31 (by omega)]
  have h := pk_shlN (n := 1) (nI i) i (a_smod i hi) (by rw [Nat.one_mul]; exact Nat.pow_lt_pow_right (by omega) (by omega))
  rw [Nat.one_mul] at h
  exact h
theorem a_and1 {b : Nat} (hb : b < 2 ^ 31) : nI b &&& 1 = nI (b % 2) := pk_andN (by omega) 1 (by decide)
theorem a_lt2 (b : Nat) : b % 2 < 2 := Nat.mod_lt _ (by omega)
theorem a_le {a b : Nat} (ha : a < 2 ^ 31) (hb : b < 2 ^ 31) : nI a ≤ nI b ↔ a ≤ b := nI_leI ha hb
theorem a_lt {a b : Nat} (ha : a < 2 ^ 31) (hb : b < 2 ^ 31) : nI a < nI b ↔ a < b := nI_ltI ha hb
theorem a_eq {a b : Nat} (ha : a < 2 ^ 31) (hb : b < 2 ^ 31) : nI a = nI b ↔ a = b := nI_eq ha hb
theorem a_neg {a : Nat} (ha : a < 2 ^ 31) : ¬ nI a < 0 := nI_pos ha
theorem a_ib {i n : Nat} (hi : i < n) (hn : n < 2 ^ 31) : q_ib (nI i) n = true := by
  simp only [q_ib, nI_clamp (show i < 2 ^ 31 by omega), Bool.and_eq_true, Bool.not_eq_true', decide_eq_false_iff_not, decide_eq_true_eq]
  exact ⟨a_neg (by omega), hi⟩
theorem a_cl {i : Nat} (hi : i < 2 ^ 31) : (nI i).toNatClampNeg = i := nI_clamp hi
theorem a_hasBit {b i : Nat} (hb : b < 2 ^ 31) (hi : i < 31) : zX3_hasBit (nI b) (nI i) = some (if b.testBit i then 1 else 0) := by
  unfold zX3_hasBit
  have h2 : b / 2 ^ i < 2 ^ 31 := Nat.lt_of_le_of_lt (Nat.div_le_self _ _) hb
  rw [a_shr hb hi, a_and1 h2]
  have e : b.testBit i = decide (b / 2 ^ i % 2 = 1) := by rw [Nat.testBit_eq_decide_div_mod_eq]
  rw [e]
  have h3 : (nI (b / 2 ^ i % 2) = (1 : Int32)) ↔ b / 2 ^ i % 2 = 1 := a_eq (b := 1) (by omega) (by omega)
  by_cases h : b / 2 ^ i % 2 = 1
  · rw [if_pos (h3.mpr h), if_pos (by simpa using h)]
  · rw [if_neg (fun z => h (h3.mp z)), if_neg (by simpa using h)]
theorem a_isIn {b i : Nat} (hb : b < 2 ^ 31) (hi : i < 31) : zX4_isIn (nI b) (nI i) = some (if b.testBit i then 1 else 0) := by
  have h := a_hasBit hb hi
  unfold zX3_hasBit at h
  unfold zX4_isIn
  exact h
theorem a_b1 {α ρ : Type} (a : α) (f : α → Option ρ) : q_b1 (some a) f = f a := rfl
theorem a_b2 {α β ρ : Type} (a : α) (b : β) (f : α → β → Option ρ) : q_b2 (some (a, b)) f = f a b := rfl
theorem a_b3 {α β γ ρ : Type} (a : α) (b : β) (c : γ) (f : α → β → γ → Option ρ) : q_b3 (some (a, b, c)) f = f a b c := rfl
theorem a_gd {ρ : Type} {b : Bool} (h : b = true) (k : Option ρ) : q_gd b k = k := by subst h; rfl
theorem a_lt' {α ρ : Type} (e : α) (f : α → ρ) : q_lt e f = f e := rfl
theorem a_01 (b : Bool) : (if b then (1 : Int32) else 0) = 0 ↔ b = false := by cases b <;> decide
theorem a_is (b : Bool) : q_is (if b then (1 : Int32) else 0) = true := by cases b <;> decide
/-- how many bits -/
def v_pc (b : Nat) : Nat → Nat
  | 0 => 0
  | n + 1 => v_pc b n + (if b.testBit n = true then 1 else 0)
theorem a_pc : ∀ b, b < 1024 → zJ6_bitCount_0f7a4 (nI b) = some (nI (v_pc b 10)) := by decide +kernel
