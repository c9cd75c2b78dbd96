/-! what to ask; sums -/
theorem v_pc_s {b n : Nat} : v_pc b (n + 1) = v_pc b n + (if b.testBit n = true then 1 else 0) := rfl
theorem v_pc_le (b : Nat) : ∀ n, v_pc b n ≤ n := by
  intro n
  induction n with
  | zero => exact Nat.le_refl _
  | succ n ih => rw [v_pc_s]; split <;> omega
def v_mo (b d t : Nat) : Nat → Nat
  | 0 => 0
  | n + 1 => v_mo b d t n + (if b.testBit n = true ∧ t < d + n then 1 else 0)
theorem v_mo_s {b d t n : Nat} : v_mo b d t (n + 1) = v_mo b d t n + (if b.testBit n = true ∧ t < d + n then 1 else 0) := rfl
theorem v_mo_le (b d t : Nat) : ∀ n, v_mo b d t n ≤ v_pc b n := by
  intro n
  induction n with
  | zero => exact Nat.le_refl _
  | succ n ih =>
    rw [v_mo_s, v_pc_s]
    by_cases h : b.testBit n = true
    · rw [if_pos h]; split <;> omega
    · rw [if_neg h, if_neg (fun z => h z.1)]; omega
def v_lw (b d t : Nat) : Nat := if v_mo b d t 10 < v_pc b 10 - v_mo b d t 10 then v_pc b 10 - v_mo b d t 10 else v_mo b d t 10
theorem v_lw_le (b d t : Nat) : v_lw b d t ≤ 10 := by
  have h1 := v_mo_le b d t 10
  have h2 := v_pc_le b 10
  unfold v_lw
  split <;> omega
theorem c_left_l {b dd t : Nat} (hb : b < 1024) (hd : dd < 10) (ht : t < 21) : ∀ (d i : Nat), i + d = 10 → ∀ (n : Nat), d < n → zX3_leftAtWorst_5 (nI b) (nI dd) (nI t) n (nI (v_mo b dd t i)) (nI i) = some (nI (v_lw b dd t)) := by
  have h1 := v_mo_le b dd t 10
  have h2 := v_pc_le b 10
  intro d
  induction d with
  | zero =>
    intro i hi n hn
    obtain ⟨n, rfl⟩ : ∃ k, n = k + 1 := ⟨n - 1, by omega⟩
    have : i = 10 := by omega
    subst this
    rw [zX3_leftAtWorst_5_s]
    unfold jX3_leftAtWorst_5 v_lw
    rw [if_pos (show (9 : Int32) < nI 10 by decide), a_pc b hb, a_b1, pk_sub h1]
    by_cases q : v_mo b dd t 10 < v_pc b 10 - v_mo b dd t 10
    · rw [if_pos ((a_lt (by omega) (by omega)).mpr q), if_pos q]
    · rw [if_neg (by rw [a_lt (by omega) (by omega)]; exact q), if_neg q]
  | succ d ih =>
    intro i hi n hn
    obtain ⟨n, rfl⟩ : ∃ k, n = k + 1 := ⟨n - 1, by omega⟩
    have q := ih (i + 1) (by omega) n (by omega)
    rw [v_mo_s] at q
    rw [zX3_leftAtWorst_5_s]
    unfold jX3_leftAtWorst_5
    simp only [a_lt']
    rw [if_neg (by rw [show (9 : Int32) = nI 9 from rfl, a_lt (by omega) (by omega)]; omega), a_hasBit (by omega) (by omega), a_b1, nI_1, nI_1, nI_add]
    by_cases h : b.testBit i = true
    · rw [if_pos h, if_neg (by decide)]
      by_cases h3 : t < dd + i
      · rw [if_pos ⟨h, h3⟩] at q
        rw [if_neg (by rw [a_le (by omega) (by omega)]; omega)]
        exact q
      · rw [if_neg (fun z => h3 z.2), Nat.add_zero] at q
        rw [if_pos ((a_le (by omega) (by omega)).mpr (by omega))]
        exact q
    · rw [if_neg (fun z => h z.1), Nat.add_zero] at q
      rw [if_neg h, if_pos rfl]
      exact q
theorem c_left {b dd t : Nat} (hb : b < 1024) (hd : dd < 10) (ht : t < 21) : zX3_leftAtWorst (nI b) (nI dd) (nI t) = some (nI (v_lw b dd t)) := c_left_l hb hd ht 10 0 rfl 70000 (by omega)
def v_bq (lw : Nat → Nat) : Nat → Nat × Nat
  | 0 => (0, lw 0)
  | t + 1 => if lw (t + 1) < (v_bq lw t).2 then (t + 1, lw (t + 1)) else v_bq lw t
theorem v_bq_s {lw : Nat → Nat} {t : Nat} : v_bq lw (t + 1) = if lw (t + 1) < (v_bq lw t).2 then (t + 1, lw (t + 1)) else v_bq lw t := rfl
theorem v_bq_le {lw : Nat → Nat} (h : ∀ t, lw t ≤ 10) : ∀ t, (v_bq lw t).1 ≤ t ∧ (v_bq lw t).2 ≤ 10 := by
  intro t
  induction t with
  | zero => exact ⟨Nat.le_refl _, h 0⟩
  | succ t ih =>
    rw [v_bq_s]
    split
    · exact ⟨Nat.le_refl _, h _⟩
    · exact ⟨by omega, ih.2⟩
theorem c_quest_l {b dd : Nat} (hb : b < 1024) (hd : dd < 10) : ∀ (d i : Nat), i + d = 20 → ∀ (n : Nat), d < n → zX3_bestQuestion_18 (nI b) (nI dd) n (nI (v_bq (v_lw b dd) i).1) (nI (v_bq (v_lw b dd) i).2) (nI (i + 1)) = some (nI (v_bq (v_lw b dd) 20).1) := by
  intro d
  induction d with
  | zero =>
    intro i hi n hn
    obtain ⟨n, rfl⟩ : ∃ k, n = k + 1 := ⟨n - 1, by omega⟩
    have : i = 20 := by omega
    subst this
    rw [zX3_bestQuestion_18_s]
    unfold jX3_bestQuestion_18
    rw [if_pos (show (20 : Int32) < nI (20 + 1) by decide)]
  | succ d ih =>
    intro i hi n hn
    obtain ⟨n, rfl⟩ : ∃ k, n = k + 1 := ⟨n - 1, by omega⟩
    have q := ih (i + 1) (by omega) n (by omega)
    have hle := v_bq_le (v_lw_le b dd) i
    have hl := v_lw_le b dd (i + 1)
    rw [v_bq_s] at q
    rw [zX3_bestQuestion_18_s]
    unfold jX3_bestQuestion_18
    simp only [a_lt']
    rw [if_neg (by rw [show (20 : Int32) = nI 20 from rfl, a_lt (by omega) (by omega)]; omega), c_left hb hd (by omega), a_b1, nI_1]
    by_cases h : v_lw b dd (i + 1) < (v_bq (v_lw b dd) i).2
    · rw [if_pos h] at q
      rw [if_neg (by rw [a_le (by omega) (by omega)]; omega)]
      exact q
    · rw [if_neg h] at q
      rw [if_pos ((a_le (by omega) (by omega)).mpr (by omega))]
      exact q
theorem c_quest {b dd : Nat} (hb : b < 1024) (hd : dd < 10) : zX3_bestQuestion (nI b) (nI dd) = some (if b = 0 then -1 else nI (v_bq (v_lw b dd) 20).1) := by
  unfold zX3_bestQuestion
  by_cases h : b = 0
  · rw [if_pos (by rw [h]; rfl), if_pos h]
  · rw [if_neg (show ¬ nI b = (0 : Int32) from fun z => h ((a_eq (b := 0) (by omega) (by omega)).mp z)), if_neg h, show (0 : Int32) = nI 0 from rfl, c_left hb hd (by omega), a_b1]
    exact c_quest_l hb hd 20 0 rfl 70000 (by omega)
/-- sums and the greatest of a row -/
def v_su (g : Nat → Nat) : Nat → Nat
  | 0 => 0
  | n + 1 => v_su g n + g n
theorem v_su_s {g : Nat → Nat} {n : Nat} : v_su g (n + 1) = v_su g n + g n := rfl
def v_mx (g : Nat → Nat) : Nat → Nat
  | 0 => 0
  | n + 1 => max (v_mx g n) (g n)
theorem v_mx_s {g : Nat → Nat} {n : Nat} : v_mx g (n + 1) = max (v_mx g n) (g n) := rfl
theorem c_sumOf_l {f : q_R} {g : Nat → Nat} (hf : ∀ j, j < 4 → f j = nI (g j)) : ∀ (d i : Nat), i + d = 4 → ∀ (n : Nat), d < n → zX3_sumOf_10 4 f (nI 4) n (nI (v_su g i)) (nI i) = some (nI (v_su g 4)) := by
  intro d
  induction d with
  | zero =>
    intro i hi n hn
    obtain ⟨n, rfl⟩ : ∃ k, n = k + 1 := ⟨n - 1, by omega⟩
    have : i = 4 := by omega
    subst this
    rw [zX3_sumOf_10_s]
    unfold jX3_sumOf_10
    rw [if_pos (by decide)]
  | succ d ih =>
    intro i hi n hn
    obtain ⟨n, rfl⟩ : ∃ k, n = k + 1 := ⟨n - 1, by omega⟩
    have q := ih (i + 1) (by omega) n (by omega)
    rw [v_su_s] at q
    rw [zX3_sumOf_10_s]
    unfold jX3_sumOf_10
    simp only [a_lt']
    rw [if_neg (by rw [a_le (by omega) (by omega)]; omega), a_gd (a_ib (by omega) (by omega)), a_cl (by omega), hf i (by omega), nI_add, nI_1]
    exact q
theorem c_sumOf {f : q_R} {g : Nat → Nat} (hf : ∀ j, j < 4 → f j = nI (g j)) : zX3_sumOf 4 f = some (nI (v_su g 4)) := c_sumOf_l hf 4 0 rfl 70000 (by omega)
theorem v_mx_le {g : Nat → Nat} {m : Nat} : ∀ n, (∀ j, j < n → g j ≤ m) → v_mx g n ≤ m := by
  intro n
  induction n with
  | zero => intro _; exact Nat.zero_le _
  | succ n ih =>
    intro h
    rw [v_mx_s]
    exact Nat.max_le.mpr ⟨ih (fun j hj => h j (by omega)), h n (by omega)⟩
theorem a_max {a b : Nat} (ha : a < 2 ^ 31) (hb : b < 2 ^ 31) : (if nI a < nI b then nI b else nI a) = nI (max a b) := by
  by_cases h : a < b
  · rw [if_pos ((a_lt ha hb).mpr h), Nat.max_eq_right (by omega)]
  · rw [if_neg (by rw [a_lt ha hb]; exact h), Nat.max_eq_left (by omega)]
theorem c_greatest_l {f : q_R} {g : Nat → Nat} (hf : ∀ j, j < 4 → f j = nI (g j)) (hm : ∀ j, j < 4 → g j ≤ 90) : ∀ (d i : Nat), i + d = 4 → ∀ (n : Nat), d < n → zX3_greatestOf_10 4 f (nI 4) n (nI (v_mx g i)) (nI i) = some (nI (v_mx g 4)) := by
  intro d
  induction d with
  | zero =>
    intro i hi n hn
    obtain ⟨n, rfl⟩ : ∃ k, n = k + 1 := ⟨n - 1, by omega⟩
    have : i = 4 := by omega
    subst this
    rw [zX3_greatestOf_10_s]
    unfold jX3_greatestOf_10
    rw [if_pos (by decide)]
  | succ d ih =>
    intro i hi n hn
    obtain ⟨n, rfl⟩ : ∃ k, n = k + 1 := ⟨n - 1, by omega⟩
    have q := ih (i + 1) (by omega) n (by omega)
    have h1 := v_mx_le (g := g) (m := 90) i (fun j hj => hm j (by omega))
    have h2 := hm i (by omega)
    rw [v_mx_s] at q
    rw [zX3_greatestOf_10_s]
    unfold jX3_greatestOf_10
    simp only [a_lt']
    rw [if_neg (by rw [a_le (by omega) (by omega)]; omega), a_gd (a_ib (by omega) (by omega)), a_cl (by omega), hf i (by omega), a_max (by omega) (by omega), nI_1]
    exact q
theorem c_greatest {f : q_R} {g : Nat → Nat} (hf : ∀ j, j < 4 → f j = nI (g j)) (hm : ∀ j, j < 4 → g j ≤ 90) : zX3_greatestOf 4 f = some (nI (v_mx g 4)) := by
  have h := c_greatest_l hf hm 4 0 rfl 70000 (by omega)
  rw [show v_mx g 0 = 0 from rfl] at h
  unfold zX3_greatestOf
  rw [a_lt']
  exact h
