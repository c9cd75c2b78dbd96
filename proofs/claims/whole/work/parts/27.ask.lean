theorem v_f_s {V : q_V} {e n : Nat} : v_f V e (n + 1) = if (v_f V e n).2 < v_pv V e n then (n, v_pv V e n) else v_f V e n := rfl
theorem v_pv_le {V : q_V} (hW : v_W V) (e b : Nat) : v_pv V e b ≤ 72 := by
  have := v_ds_le hW b 8
  unfold v_pv
  split <;> omega
theorem v_f_le {V : q_V} (hW : v_W V) (e : Nat) : ∀ n, (v_f V e n).1 ≤ n ∧ (v_f V e n).2 ≤ 72 := by
  intro n
  induction n with
  | zero => exact ⟨Nat.le_refl _, Nat.zero_le _⟩
  | succ n ih =>
    rw [v_f_s]
    have := v_pv_le hW e n
    split
    · exact ⟨Nat.le_succ _, this⟩
    · exact ⟨by omega, ih.2⟩
theorem c_bestFed_l {σ : q_S} {V : q_V} (hA : v_A σ V) (hW : v_W V) {e : Nat} (he : e < V 0 0) : ∀ (d i : Nat), i + d = v_bits (v_wt V e) 8 + 1 → ∀ (n : Nat), d < n → zX2_bestFed_14 σ (nI e) (nI (v_bits (v_wt V e) 8)) n (nI (v_f V e i).1) (nI (v_f V e i).2) (nI i) = some (nI (v_f V e (v_bits (v_wt V e) 8 + 1)).1) := by
  have htk := v_bits_lt (v_wt V e) 8
  intro d
  induction d with
  | zero =>
    intro i hi n hn
    obtain ⟨n, rfl⟩ : ∃ k, n = k + 1 := ⟨n - 1, by omega⟩
    have hi' : i = v_bits (v_wt V e) 8 + 1 := by omega
    rw [zX2_bestFed_14_s]
    unfold jX2_bestFed_14
    rw [if_pos ((a_lt (by omega) (by omega)).mpr (by omega)), hi']
  | succ d ih =>
    intro i hi n hn
    obtain ⟨n, rfl⟩ : ∃ k, n = k + 1 := ⟨n - 1, by omega⟩
    have q := ih (i + 1) (by omega) n (by omega)
    rw [v_f_s] at q
    have hle := (v_f_le hW e i).2
    have hds := v_ds_le hW i 8
    rw [zX2_bestFed_14_s]
    unfold jX2_bestFed_14
    simp only [a_lt']
    rw [if_neg (by rw [a_lt (by omega) (by omega)]; omega), nI_1]
    by_cases h1 : i &&& v_bits (v_wt V e) 8 = i
    · rw [if_pos ((a_sub (by omega)).mpr h1), c_deedsOf hA hW (by omega), a_b1]
      by_cases h2 : v_ds V i 8 ≤ (v_f V e i).2
      · have hp : ¬ (v_f V e i).2 < v_pv V e i := by unfold v_pv; split <;> omega
        rw [if_neg hp] at q
        rw [if_pos ((a_le (by omega) (by omega)).mpr h2)]
        exact q
      · rw [if_neg (by rw [a_le (by omega) (by omega)]; exact h2), c_canTakeAll hA hW he (by omega), a_b1]
        by_cases h3 : v_ct V (V 2 e) i 8 0 (V 3 e) = true
        · have hp : v_pv V e i = v_ds V i 8 := by unfold v_pv; rw [if_pos ⟨h1, h3⟩]
          rw [hp, if_pos (by omega)] at q
          rw [if_pos h3, if_neg (by decide), a_b1]
          exact q
        · have hp : v_pv V e i = 0 := by unfold v_pv; rw [if_neg (fun z => h3 z.2)]
          rw [hp, if_neg (by omega)] at q
          rw [if_neg h3, if_pos rfl]
          exact q
    · have hp : v_pv V e i = 0 := by unfold v_pv; rw [if_neg (fun z => h1 z.1)]
      rw [hp, if_neg (by omega)] at q
      rw [if_neg (fun z => h1 ((a_sub (by omega)).mp z))]
      exact q
theorem v_f_1 {V : q_V} {e : Nat} : v_f V e 1 = (0, 0) := by
  have h0 : v_ds V 0 8 = 0 := by
    have : ∀ n, v_ds V 0 n = 0 := by
      intro n
      induction n with
      | zero => rfl
      | succ n ih => rw [v_ds_s, ih]; simp
    exact this 8
  rw [v_f_s]
  have hp : v_pv V e 0 = 0 := by unfold v_pv; rw [h0]; split <;> rfl
  rw [hp, if_neg (Nat.not_lt_zero _)]
  rfl
theorem c_bestFed {σ : q_S} {V : q_V} (hA : v_A σ V) (hW : v_W V) {e : Nat} (he : e < V 0 0) : zX2_bestFed σ (nI e) = some (nI (v_f V e (v_bits (v_wt V e) 8 + 1)).1) := by
  have hE := hW.E
  have htk := v_bits_lt (v_wt V e) 8
  have h := c_bestFed_l hA hW he (v_bits (v_wt V e) 8) 1 (by omega) 70000 (by omega)
  rw [v_f_1] at h
  unfold zX2_bestFed
  rw [c_takenNow hA hW (by omega), a_b1]
  exact h
/-- the best set's deeds are the most -/
theorem v_f_ds {V : q_V} (e : Nat) : ∀ n, (v_f V e n).2 = v_ds V (v_f V e n).1 8 := by
  intro n
  induction n with
  | zero =>
    have : ∀ n, v_ds V 0 n = 0 := by
      intro n
      induction n with
      | zero => rfl
      | succ n ih => rw [v_ds_s, ih]; simp
    exact (this 8).symm
  | succ n ih =>
    rw [v_f_s]
    split
    · rename_i h
      show v_pv V e n = v_ds V n 8
      unfold v_pv at h ⊢
      split at h
      · rename_i h2; rw [if_pos h2]
      · omega
    · exact ih
/-- sets beyond those that could be taken count nothing -/
theorem v_f_up {V : q_V} (e : Nat) {m : Nat} (hm : v_bits (v_wt V e) 8 < m) : ∀ d, v_f V e (m + d) = v_f V e m := by
  intro d
  induction d with
  | zero => rfl
  | succ d ih =>
    show v_f V e (m + d + 1) = _
    rw [v_f_s, ih]
    have hp : v_pv V e (m + d) = 0 := by
      unfold v_pv
      rw [if_neg]
      intro z
      have h1 : (m + d) &&& v_bits (v_wt V e) 8 ≤ v_bits (v_wt V e) 8 := Nat.and_le_right
      rw [z.1] at h1
      omega
    rw [hp, if_neg (Nat.not_lt_zero _)]
/-- what a set gives to carry, if in one loaf were x -/
def v_cs (V : q_V) (b dl x : Nat) : Nat → Nat
  | 0 => 0
  | n + 1 => v_cs V b dl x n + (if n < V 6 0 ∧ b.testBit n = true then V 8 n + (if n = dl then x else V 9 n) else 0)
theorem v_cs_s {V : q_V} {b dl x n : Nat} : v_cs V b dl x (n + 1) = v_cs V b dl x n + (if n < V 6 0 ∧ b.testBit n = true then V 8 n + (if n = dl then x else V 9 n) else 0) := rfl
theorem v_cs_le {V : q_V} (hW : v_W V) {b dl x : Nat} (hx : x < 10) : ∀ n, v_cs V b dl x n ≤ 99 * n := by
  intro n
  induction n with
  | zero => exact Nat.le_refl _
  | succ n ih =>
    rw [v_cs_s]
    split
    · rename_i h
      have h1 := hW.dd h.1
      have h2 := hW.dh h.1
      split <;> omega
    · omega
theorem c_carriedOf_l {σ : q_S} {V : q_V} (hA : v_A σ V) (hW : v_W V) {b dl x : Nat} (hb : b < 2 ^ 31) (hdl : dl < 2 ^ 31) (hx : x < 10) : ∀ (d i : Nat), i + d = 8 → ∀ (n : Nat), d < n → zX2_carriedOf_6 σ (nI b) (nI dl) (nI x) n (nI (v_cs V b dl x i)) (nI i) = some (nI (v_cs V b dl x 8)) := by
  intro d
  induction d with
  | zero =>
    intro i hi n hn
    obtain ⟨n, rfl⟩ : ∃ k, n = k + 1 := ⟨n - 1, by omega⟩
    have : i = 8 := by omega
    subst this
    rw [zX2_carriedOf_6_s]
    unfold jX2_carriedOf_6
    rw [if_pos (by decide)]
  | succ d ih =>
    intro i hi n hn
    obtain ⟨n, rfl⟩ : ∃ k, n = k + 1 := ⟨n - 1, by omega⟩
    have q := ih (i + 1) (by omega) n (by omega)
    rw [v_cs_s] at q
    rw [zX2_carriedOf_6_s]
    unfold jX2_carriedOf_6 zX2_carriedOf_57
    simp only [a_lt']
    rw [if_neg (by rw [show (8 : Int32) = nI 8 from rfl, a_le (by omega) (by omega)]; omega), c_isLoaf hA hW (by omega), a_b1, nI_1]
    by_cases h : i < V 6 0
    · rw [if_pos h, if_neg (by decide), a_hasBit hb (by omega), a_b1]
      by_cases h2 : b.testBit i = true
      · rw [if_pos ⟨h, h2⟩] at q
        have g8 : q_ib (nI i) 8 = true := a_ib (by omega) (by omega)
        rw [if_pos h2, if_neg (by decide), a_gd g8, a_cl (by omega), hA 8 i (by show i < 8; omega)]
        by_cases h3 : i = dl
        · rw [if_pos h3] at q
          rw [if_pos ((a_eq (by omega) hdl).mpr h3), nI_add, nI_add]
          exact q
        · rw [if_neg h3] at q
          rw [if_neg (fun z => h3 ((a_eq (by omega) hdl).mp z)), a_gd g8, hA 9 i (by show i < 8; omega), nI_add, nI_add]
          exact q
      · rw [if_neg (fun z => h2 z.2), Nat.add_zero] at q
        rw [if_neg h2, if_pos rfl]
        exact q
    · rw [if_neg (fun z => h z.1), Nat.add_zero] at q
      rw [if_neg h, if_pos rfl]
      exact q
theorem c_carriedOf {σ : q_S} {V : q_V} (hA : v_A σ V) (hW : v_W V) {b dl x : Nat} (hb : b < 2 ^ 31) (hdl : dl < 2 ^ 31) (hx : x < 10) : zX2_carriedOf σ (nI b) (nI dl) (nI x) = some (nI (v_cs V b dl x 8)) := c_carriedOf_l hA hW hb hdl hx 8 0 rfl 70000 (by omega)
/-- whether all of the first n hold -/
def v_all (q : Nat → Bool) : Nat → Bool
  | 0 => true
  | n + 1 => v_all q n && q n
theorem v_all_s {q : Nat → Bool} {n : Nat} : v_all q (n + 1) = (v_all q n && q n) := rfl
theorem v_all_no {q : Nat → Bool} {i : Nat} (h : q i = false) : ∀ n, i < n → v_all q n = false := by
  intro n
  induction n with
  | zero => intro z; omega
  | succ n ih =>
    intro z
    rw [v_all_s]
    by_cases hi : i = n
    · subst hi; rw [h, Bool.and_false]
    · rw [ih (by omega), Bool.false_and]
def v_sq (V : q_V) (dl x k : Nat) : Bool := decide (V 13 k < v_cs V (V 12 k) dl x 8) == (V 14 0).testBit k
theorem v_W.s12 {V : q_V} (h : v_W V) {k : Nat} (hk : k < V 11 0) : V 12 k < 256 := Nat.lt_of_lt_of_le (h.2.2.2.2.2.2.1.2 k hk).1 (Nat.pow_le_pow_right (by omega) h.L)
theorem c_allSaid_l {σ : q_S} {V : q_V} (hA : v_A σ V) (hW : v_W V) {dl x : Nat} (hdl : dl < 2 ^ 31) (hx : x < 10) : ∀ (d i : Nat), i + d = V 11 0 → ∀ (n : Nat), d < n → v_all (v_sq V dl x) i = true → zX2_allSaidHolds_2 σ (nI dl) (nI x) n (nI i) = some (if v_all (v_sq V dl x) (V 11 0) then 1 else 0) := by
  have h6 : V 11 0 ≤ 6 := hW.2.2.2.2.2.2.1.1
  intro d
  induction d with
  | zero =>
    intro i hi n hn ha
    obtain ⟨n, rfl⟩ : ∃ k, n = k + 1 := ⟨n - 1, by omega⟩
    have hi' : i = V 11 0 := by omega
    rw [zX2_allSaidHolds_2_s]
    unfold jX2_allSaidHolds_2
    rw [hA 11 0 (by decide), if_pos (by rw [a_le (by omega) (by omega)]; omega), ← hi', ha]
    rfl
  | succ d ih =>
    intro i hi n hn ha
    obtain ⟨n, rfl⟩ : ∃ k, n = k + 1 := ⟨n - 1, by omega⟩
    have q := ih (i + 1) (by omega) n (by omega)
    rw [v_all_s, ha, Bool.true_and] at q
    rw [zX2_allSaidHolds_2_s]
    have g6 : q_ib (nI i) 6 = true := a_ib (by omega) (by omega)
    have hs := hW.s12 (k := i) (by omega)
    have hmu := (hW.2.2.2.2.2.2.1.2 i (by omega)).2
    have h14 : V 14 0 < 64 := hW.2.2.2.2.2.2.2
    have hcs := v_cs_le hW (b := V 12 i) (dl := dl) hx 8
    unfold jX2_allSaidHolds_2 zX2_allSaidHolds_42
    simp only [a_lt', a_gd g6, a_cl (show i < 2 ^ 31 by omega)]
    rw [hA 11 0 (by decide), if_neg (by rw [a_le (by omega) (by omega)]; omega), if_neg (by rw [show (6 : Int32) = nI 6 from rfl, a_le (by omega) (by omega)]; omega), hA 12 i (by show i < 6; omega), c_carriedOf hA hW (by omega) hdl hx, a_b1, hA 13 i (by show i < 6; omega), hA 14 0 (by decide), a_hasBit (by omega) (by omega), a_b1, nI_1]
    have hno : v_sq V dl x i = false → (some (0 : Int32)) = some (if v_all (v_sq V dl x) (V 11 0) then 1 else 0) := fun z => by
      rw [v_all_no z _ (by omega)]; rfl
    by_cases h1 : v_cs V (V 12 i) dl x 8 ≤ V 13 i
    · rw [if_pos ((a_le (by omega) (by omega)).mpr h1)]
      by_cases h2 : (V 14 0).testBit i = true
      · rw [if_pos h2, if_neg (by decide)]
        refine hno ?_
        unfold v_sq
        simp [show ¬ V 13 i < v_cs V (V 12 i) dl x 8 by omega, h2]
      · rw [if_neg h2, if_pos rfl]
        refine q ?_
        unfold v_sq
        simp [show ¬ V 13 i < v_cs V (V 12 i) dl x 8 by omega, h2]
    · rw [if_neg (by rw [a_le (by omega) (by omega)]; exact h1)]
      by_cases h2 : (V 14 0).testBit i = true
      · rw [if_pos h2, a_b1, if_pos rfl]
        refine q ?_
        unfold v_sq
        simp [show V 13 i < v_cs V (V 12 i) dl x 8 by omega, h2]
      · rw [if_neg h2, a_b1, if_neg (show ¬ (1 : Int32) = 0 by decide)]
        refine hno ?_
        unfold v_sq
        simp [show V 13 i < v_cs V (V 12 i) dl x 8 by omega, h2]
def v_sd (V : q_V) (dl x : Nat) : Bool := v_all (v_sq V dl x) (V 11 0)
theorem c_allSaid {σ : q_S} {V : q_V} (hA : v_A σ V) (hW : v_W V) {dl x : Nat} (hdl : dl < 2 ^ 31) (hx : x < 10) : zX2_allSaidHolds σ (nI dl) (nI x) = some (if v_sd V dl x then 1 else 0) := by
  have h6 : V 11 0 ≤ 6 := hW.2.2.2.2.2.2.1.1
  exact c_allSaid_l hA hW hdl hx (V 11 0) 0 (by omega) 70000 (by omega) rfl
theorem c_baked_l {σ : q_S} {V : q_V} (hA : v_A σ V) (hW : v_W V) {dl : Nat} (hdl : dl < 2 ^ 31) : ∀ (d i : Nat), i + d = 10 → ∀ (n : Nat), d < n → zX2_bakedInto_4 σ (nI dl) n (nI (v_bits (v_sd V dl) i)) (nI i) = some (nI (v_bits (v_sd V dl) 10)) := by
  intro d
  induction d with
  | zero =>
    intro i hi n hn
    obtain ⟨n, rfl⟩ : ∃ k, n = k + 1 := ⟨n - 1, by omega⟩
    have : i = 10 := by omega
    subst this
    rw [zX2_bakedInto_4_s]
    unfold jX2_bakedInto_4
    rw [if_pos (by decide)]
  | succ d ih =>
    intro i hi n hn
    obtain ⟨n, rfl⟩ : ∃ k, n = k + 1 := ⟨n - 1, by omega⟩
    rw [zX2_bakedInto_4_s]
    unfold jX2_bakedInto_4
    rw [if_neg (by rw [show (9 : Int32) = nI 9 from rfl, a_lt (by omega) (by omega)]; omega), c_allSaid hA hW hdl (by omega), a_b1]
    simp only [a_lt']
    rw [nI_1]
    by_cases h : v_sd V dl i = true
    · rw [if_pos h, if_neg (by decide), a_bits (by omega) h]
      exact ih (i + 1) (by omega) n (by omega)
    · rw [if_neg h, if_pos rfl, a_bits0 h]
      exact ih (i + 1) (by omega) n (by omega)
theorem c_baked {σ : q_S} {V : q_V} (hA : v_A σ V) (hW : v_W V) {dl : Nat} (hdl : dl < 2 ^ 31) : zX2_bakedInto σ (nI dl) = some (nI (v_bits (v_sd V dl) 10)) := c_baked_l hA hW hdl 10 0 rfl 70000 (by omega)
