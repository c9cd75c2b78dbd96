/-! the page -/
def p_R (σ : q_S) (n : Nat) (c : Nat → Nat) : Prop := σ 1 0 = nI n ∧ n ≤ 24 ∧ ∀ j, j < n → σ 0 j = nI (c j) ∧ 32 ≤ c j ∧ c j ≤ 126
def p_kd (x : Nat) : Nat := if x = 101 then 0 else if x = 112 then 1 else if x = 114 then 2 else if x = 98 then 3 else if x = 116 then 4 else 5
def p_dg (x : Nat) : Bool := decide (48 ≤ x) && decide (x ≤ 57)
theorem a_kindOf : ∀ x, x < 127 → zX3_kindOf (nI x) = some (if p_kd x < 5 then nI (p_kd x) else -1) := by decide +kernel
theorem a_kindBy : ∀ x, x < 127 → zX4_kindBy (nI x) = some (if p_kd x < 5 then nI (p_kd x) else -1) := by decide +kernel
theorem a_isDigit : ∀ x, x < 127 → zX3_isDigit (nI x) = some (if p_dg x then 1 else 0) := by decide +kernel
theorem a_isFig : ∀ x, x < 127 → zX4_within (nI x - (48 : Int32)) (0 : Int32) (9 : Int32) = some (if p_dg x then 1 else 0) := by decide +kernel
def p_fe (c : Nat → Nat) (j : Nat) : Bool := if j % 3 = 0 then decide (p_kd (c j) < 5) else if j % 3 = 1 then p_dg (c j) else ((decide (c j = 44) && decide (j / 3 + 1 < 4)) || (decide (c j = 59) && decide (2 ≤ j / 3 + 1) && decide (j / 3 + 1 ≤ 4)))
def p_fl (c : Nat → Nat) (E j : Nat) : Bool := decide (j - E ≤ 10) && p_dg (c j)
def p_fit (c : Nat → Nat) (e : Option Nat) (j : Nat) : Bool := match e with
  | none => p_fe c j
  | some E => if j ≤ E then p_fe c j else p_fl c E j
def p_E (n : Nat) (c : Nat → Nat) (e : Option Nat) : Prop := match e with
  | none => ∀ j, j < n → c j ≠ 59
  | some E => E < n ∧ c E = 59 ∧ ∀ j, j < E → c j ≠ 59
def p_i (e : Option Nat) : Int32 := match e with
  | none => -1
  | some E => nI E
def p_F (n : Nat) (c : Nat → Nat) (e : Option Nat) (f : Nat) : Prop := f ≤ n ∧ (∀ j, j < f → p_fit c e j = true) ∧ (f < n → p_fit c e f = false)
theorem p_F.uniq {n : Nat} {c : Nat → Nat} {e : Option Nat} {f f' : Nat} (h : p_F n c e f) (h' : p_F n c e f') : f = f' := by
  obtain ⟨a1, a2, a3⟩ := h
  obtain ⟨b1, b2, b3⟩ := h'
  rcases Nat.lt_trichotomy f f' with q | q | q
  · have := b2 f q
    rw [a3 (by omega)] at this
    cases this
  · exact q
  · have := a2 f' q
    rw [b3 (by omega)] at this
    cases this
theorem p_R.at {σ : q_S} {n : Nat} {c : Nat → Nat} (h : p_R σ n c) {j : Nat} (hj : j < n) : zX0_letterAt σ (nI j) = some (nI (c j)) := by
  obtain ⟨h1, h2, h3⟩ := h
  unfold zX0_letterAt
  rw [if_neg (a_neg (by omega)), h1, if_neg (by rw [a_le (by omega) (by omega)]; omega), if_neg (by rw [show (24 : Int32) = nI 24 from rfl, a_le (by omega) (by omega)]; omega), a_gd (a_ib (by omega) (by omega)), a_cl (by omega), (h3 j hj).1]
theorem p_end_l {σ : q_S} {n : Nat} {c : Nat → Nat} (h : p_R σ n c) : ∀ (d i : Nat), i + d = n → ∀ (k : Nat), d < k → (∀ j, j < i → c j ≠ 59) → ∃ e, zX0_eatersEnd_2 σ k (nI i) = some (p_i e) ∧ p_E n c e := by
  have h24 := h.2.1
  intro d
  induction d with
  | zero =>
    intro i hi k hk hn
    obtain ⟨k, rfl⟩ : ∃ m, k = m + 1 := ⟨k - 1, by omega⟩
    refine ⟨none, ?_, fun j hj => hn j (by omega)⟩
    rw [zX0_eatersEnd_2_s]
    unfold jX0_eatersEnd_2
    rw [h.1, if_pos ((a_le (by omega) (by omega)).mpr (by omega))]
    rfl
  | succ d ih =>
    intro i hi k hk hn
    obtain ⟨k, rfl⟩ : ∃ m, k = m + 1 := ⟨k - 1, by omega⟩
    have hc := (h.2.2 i (by omega)).2
    rw [zX0_eatersEnd_2_s]
    unfold jX0_eatersEnd_2
    rw [h.1, if_neg (by rw [a_le (by omega) (by omega)]; omega), h.at (by omega), a_b1]
    by_cases q : c i = 59
    · refine ⟨some i, ?_, by omega, q, hn⟩
      rw [if_pos (by rw [q]; rfl)]
      rfl
    · obtain ⟨e, h1, h2⟩ := ih (i + 1) (by omega) k (by omega) (fun j hj => by
        by_cases z : j = i
        · subst z; exact q
        · exact hn j (by omega))
      refine ⟨e, ?_, h2⟩
      rw [if_neg (show ¬ nI (c i) = (59 : Int32) from fun z => q ((a_eq (b := 59) (by omega) (by omega)).mp z)), a_lt', nI_1]
      exact h1
theorem p_end {σ : q_S} {n : Nat} {c : Nat → Nat} (h : p_R σ n c) : ∃ e, zX0_eatersEnd σ = some (p_i e) ∧ p_E n c e := by
  have := h.2.1
  exact p_end_l h n 0 (by omega) 70000 (by omega) (fun j hj => by omega)
theorem p_fitsE {σ : q_S} {n : Nat} {c : Nat → Nat} (h : p_R σ n c) {j : Nat} (hj : j < n) : zX0_fitsEaters σ (nI j) = some (if p_fe c j then 1 else 0) := by
  have h24 := h.2.1
  have hc := (h.2.2 j hj).2
  unfold zX0_fitsEaters zX0_fitsEaters_69
  rw [h.at hj, a_b1, a_lt', show (3 : Int32) = nI 3 from rfl, pk_rem (by omega) (by omega) (by omega), pk_div (by omega) (by omega) (by omega), nI_1]
  unfold p_fe
  by_cases q0 : j % 3 = 0
  · rw [if_pos (show nI (j % 3) = 0 by rw [q0]; rfl), if_pos q0, a_kindOf _ (by omega), a_b1]
    by_cases z : p_kd (c j) < 5
    · rw [if_pos z, if_neg (a_neg (by omega)), if_pos (by simpa using z)]
    · rw [if_neg z, if_pos (by decide), if_neg (by simpa using z)]
  · rw [if_neg (show ¬ nI (j % 3) = (0 : Int32) from fun z => q0 ((a_eq (b := 0) (by omega) (by omega)).mp z)), if_neg q0]
    by_cases q1 : j % 3 = 1
    · rw [if_pos (show nI (j % 3) = 1 by rw [q1]; rfl), if_pos q1, a_isDigit _ (by omega), a_b1, a_gd (a_is _)]
    · rw [if_neg (show ¬ nI (j % 3) = (1 : Int32) from fun z => q1 ((a_eq (b := 1) (by omega) (by omega)).mp z)), if_neg q1]
      have h59 : (if nI (c j) = (59 : Int32) then (if nI (j / 3 + 1) < (2 : Int32) then (some (0 : Int32)) else (if (4 : Int32) < nI (j / 3 + 1) then (some (0 : Int32)) else (some (1 : Int32)))) else (some (0 : Int32))) = some (if (decide (c j = 59) && decide (2 ≤ j / 3 + 1) && decide (j / 3 + 1 ≤ 4)) = true then 1 else 0) := by
        by_cases z : c j = 59
        · rw [if_pos (show nI (c j) = 59 by rw [z]; rfl), z]
          by_cases z2 : j / 3 + 1 < 2
          · rw [if_pos (by rw [show (2 : Int32) = nI 2 from rfl, a_lt (by omega) (by omega)]; exact z2), if_neg (by simp; omega)]
          · rw [if_neg (by rw [show (2 : Int32) = nI 2 from rfl, a_lt (by omega) (by omega)]; exact z2)]
            by_cases z4 : 4 < j / 3 + 1
            · rw [if_pos (by rw [show (4 : Int32) = nI 4 from rfl, a_lt (by omega) (by omega)]; exact z4), if_neg (by simp; omega)]
            · rw [if_neg (by rw [show (4 : Int32) = nI 4 from rfl, a_lt (by omega) (by omega)]; exact z4), if_pos (by simp; omega)]
        · rw [if_neg (show ¬ nI (c j) = (59 : Int32) from fun y => z ((a_eq (b := 59) (by omega) (by omega)).mp y)), if_neg (by simp [z])]
      rw [h59]
      by_cases z : c j = 44
      · rw [if_pos (show nI (c j) = 44 by rw [z]; rfl)]
        by_cases z2 : j / 3 + 1 < 4
        · rw [if_pos (by rw [show (4 : Int32) = nI 4 from rfl, a_lt (by omega) (by omega)]; exact z2), if_pos (by simp [z]; omega)]
        · rw [if_neg (by rw [show (4 : Int32) = nI 4 from rfl, a_lt (by omega) (by omega)]; exact z2)]
          rw [show decide (j / 3 + 1 < 4) = false by simpa using z2, Bool.and_false, Bool.false_or]
      · rw [if_neg (show ¬ nI (c j) = (44 : Int32) from fun y => z ((a_eq (b := 44) (by omega) (by omega)).mp y)), show decide (c j = 44) = false by simpa using z, Bool.false_and, Bool.false_or]
theorem p_fitsL {σ : q_S} {n : Nat} {c : Nat → Nat} (h : p_R σ n c) {j E : Nat} (hj : j < n) (hE : E < j) : zX0_fitsLoaves σ (nI j) (nI E) = some (if p_fl c E j then 1 else 0) := by
  have h24 := h.2.1
  have hc := (h.2.2 j hj).2
  unfold zX0_fitsLoaves p_fl
  rw [pk_sub (by omega)]
  by_cases z : 10 < j - E
  · rw [if_pos (by rw [show (10 : Int32) = nI 10 from rfl, a_lt (by omega) (by omega)]; exact z), if_neg (by simp; omega)]
  · rw [if_neg (by rw [show (10 : Int32) = nI 10 from rfl, a_lt (by omega) (by omega)]; exact z), h.at hj, a_b1, a_isDigit _ (by omega), a_b1, show decide (j - E ≤ 10) = true by simp; omega, Bool.true_and]
    cases p_dg (c j) <;> rfl
theorem p_fault_l {σ : q_S} {n : Nat} {c : Nat → Nat} (h : p_R σ n c) {e : Option Nat} (he : p_E n c e) : ∀ (d i : Nat), i + d = n → ∀ (k : Nat), d < k → (∀ j, j < i → p_fit c e j = true) → ∃ f, zX0_faultPlace_7 σ (p_i e) k (nI i) = some (nI f) ∧ p_F n c e f := by
  have h24 := h.2.1
  intro d
  induction d with
  | zero =>
    intro i hi k hk hn
    obtain ⟨k, rfl⟩ : ∃ m, k = m + 1 := ⟨k - 1, by omega⟩
    refine ⟨n, ?_, Nat.le_refl _, fun j hj => hn j (by omega), fun z => by omega⟩
    rw [zX0_faultPlace_7_s]
    unfold jX0_faultPlace_7
    rw [h.1, if_pos ((a_le (by omega) (by omega)).mpr (by omega))]
  | succ d ih =>
    intro i hi k hk hn
    obtain ⟨k, rfl⟩ : ∃ m, k = m + 1 := ⟨k - 1, by omega⟩
    rw [zX0_faultPlace_7_s]
    unfold jX0_faultPlace_7
    rw [h.1, if_neg (by rw [a_le (by omega) (by omega)]; omega)]
    have tail : ∃ f, zX0_faultPlace_39 (zX0_faultPlace_7 σ (p_i e) k) (nI i) (if p_fit c e i then 1 else 0) = some (nI f) ∧ p_F n c e f := by
      unfold zX0_faultPlace_39
      by_cases z : p_fit c e i = true
      · rw [if_pos z, if_neg (by decide), a_lt', nI_1]
        exact ih (i + 1) (by omega) k (by omega) (fun j hj => by
          by_cases y : j = i
          · subst y; exact z
          · exact hn j (by omega))
      · rw [if_neg z, if_pos rfl]
        exact ⟨i, rfl, by omega, hn, fun _ => by simpa using z⟩
    cases e with
    | none =>
      rw [if_pos (show p_i none = -1 from rfl)]
      unfold zX0_faultPlace_25
      rw [p_fitsE h (by omega), a_b1]
      exact tail
    | some E =>
      have hEn := he.1
      have hne : ¬ p_i (some E) = -1 := by
        show ¬ nI E = -1
        intro z
        exact absurd (show nI E < 0 by rw [z]; decide) (a_neg (by omega))
      rw [if_neg hne]
      by_cases z : E < i
      · rw [if_pos (show p_i (some E) < nI i from (a_lt (by omega) (by omega)).mpr z)]
        have hf : p_fit c (some E) i = p_fl c E i := if_neg (by omega)
        rw [hf] at tail
        show ∃ f, (q_b1 (zX0_fitsLoaves σ (nI i) (nI E)) _) = _ ∧ _
        rw [p_fitsL h (by omega) z, a_b1]
        exact tail
      · rw [if_neg (show ¬ p_i (some E) < nI i from fun y => z ((a_lt (by omega) (by omega)).mp y))]
        have hf : p_fit c (some E) i = p_fe c i := if_pos (by omega)
        rw [hf] at tail
        unfold zX0_faultPlace_25
        rw [p_fitsE h (by omega), a_b1]
        exact tail
theorem p_fault {σ : q_S} {n : Nat} {c : Nat → Nat} (h : p_R σ n c) : ∃ e f, zX0_eatersEnd σ = some (p_i e) ∧ p_E n c e ∧ zX0_faultPlace σ = some (nI f) ∧ p_F n c e f := by
  have h24 := h.2.1
  obtain ⟨e, h1, h2⟩ := p_end h
  obtain ⟨f, h3, h4⟩ := p_fault_l h h2 n 0 (by omega) 70000 (by omega) (fun j hj => by omega)
  refine ⟨e, f, h1, h2, ?_, h4⟩
  unfold zX0_faultPlace
  rw [h1, a_b1]
  exact h3
def p_val (n : Nat) (e : Option Nat) (f : Nat) : Bool := match e with
  | none => false
  | some E => decide (f = n) && decide (2 ≤ n - 1 - E) && decide ((n - 1 - E) % 2 = 0)
theorem p_isValley {σ : q_S} {n : Nat} {c : Nat → Nat} (h : p_R σ n c) {e : Option Nat} {f : Nat} (h1 : zX0_eatersEnd σ = some (p_i e)) (h2 : p_E n c e) (h3 : zX0_faultPlace σ = some (nI f)) (h4 : p_F n c e f) : zX0_isValley σ = some (if p_val n e f then 1 else 0) := by
  have h24 := h.2.1
  have hf := h4.1
  unfold zX0_isValley
  rw [h1, a_b1, a_lt']
  cases e with
  | none => rw [if_pos (show p_i none = -1 from rfl)]; rfl
  | some E =>
    have hEn := h2.1
    have hne : ¬ p_i (some E) = -1 := by
      show ¬ nI E = -1
      intro z
      exact absurd (show nI E < 0 by rw [z]; decide) (a_neg (by omega))
    rw [if_neg hne, h3, a_b1, h.1]
    have hd : nI n - (1 : Int32) - p_i (some E) = nI (n - 1 - E) := by
      show nI n - nI 1 - nI E = _
      rw [pk_sub (by omega), pk_sub (by omega)]
    rw [hd]
    unfold p_val
    by_cases z : f = n
    · rw [if_pos (by rw [z])]
      by_cases z2 : n - 1 - E < 2
      · rw [if_pos (by rw [show (2 : Int32) = nI 2 from rfl, a_lt (by omega) (by omega)]; exact z2), if_neg (by simp; omega)]
      · rw [if_neg (by rw [show (2 : Int32) = nI 2 from rfl, a_lt (by omega) (by omega)]; exact z2), show (2 : Int32) = nI 2 from rfl, pk_rem (by omega) (by omega) (by omega)]
        by_cases z3 : (n - 1 - E) % 2 = 0
        · rw [if_pos (show nI ((n - 1 - E) % 2) = 0 by rw [z3]; rfl), if_pos (by simp [z, z3]; omega)]
        · rw [if_neg (show ¬ nI ((n - 1 - E) % 2) = (0 : Int32) from fun y => z3 ((a_eq (b := 0) (by omega) (by omega)).mp y)), if_neg (by simp [z3])]
    · rw [if_neg (show ¬ nI f = nI n from fun y => z ((a_eq (by omega) (by omega)).mp y)), if_neg (by simp [z])]
