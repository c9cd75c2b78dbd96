/-! the reference reads the page -/
def p_M (μ : q_S) (n : Nat) (c : Nat → Nat) : Prop := μ 17 0 = nI n ∧ n ≤ 24 ∧ ∀ j, j < n → μ 18 j = nI (c j) ∧ 32 ≤ c j ∧ c j ≤ 126
theorem p_M.fr {μ μ' : q_S} {n : Nat} {c : Nat → Nat} (h : p_M μ n c) (h1 : μ' 17 0 = μ 17 0) (h2 : ∀ j, μ' 18 j = μ 18 j) : p_M μ' n c := ⟨h1.trans h.1, h.2.1, fun j hj => ⟨(h2 j).trans (h.2.2 j hj).1, (h.2.2 j hj).2⟩⟩
theorem p_fig {μ : q_S} {n : Nat} {c : Nat → Nat} (h : p_M μ n c) {j : Nat} (hj : j < 1000) : zX4_isFigure μ (nI j) = some (if decide (j < n) && p_dg (c j) then 1 else 0) := by
  obtain ⟨h1, h2, h3⟩ := h
  unfold zX4_isFigure
  by_cases z : j < n
  · obtain ⟨h4, h5⟩ := h3 j z
    rw [h1, if_neg (by rw [a_le (by omega) (by omega)]; omega), a_gd (a_ib (by omega) (by omega)), a_cl (by omega), h4, a_isFig _ (by omega), a_b1, show decide (j < n) = true by simpa using z, Bool.true_and]
    cases p_dg (c j) <;> rfl
  · rw [h1, if_pos ((a_le (by omega) (by omega)).mpr (by omega)), show decide (j < n) = false by simpa using z, Bool.false_and]
    rfl
theorem p_loaves_l {μ : q_S} {n : Nat} {c : Nat → Nat} (h : p_M μ n c) {E : Nat} (hE : E < n) (hpre : ∀ j, j ≤ E → p_fe c j = true) : ∀ (d i : Nat), i + d = E + 11 → E + 1 ≤ i → i ≤ n → (∀ j, E < j → j < i → p_dg (c j) = true) → ∀ (k : Nat), d < k → ∃ f μ', zX4_readLoaves_2 μ (nI (E + 1)) k (nI i) = some (nI f, μ') ∧ p_F n c (some E) f ∧ (∀ x, x ≠ 19 → x ≠ 21 → μ' x = μ x) ∧ μ' 21 0 = nI ((f - (E + 1)) / 2) ∧ μ' 19 0 = if p_val n (some E) f then 1 else 0 := by
  have h24 := h.2.1
  have stop : ∀ i, E + 1 ≤ i → i ≤ n → i ≤ E + 11 → (∀ j, E < j → j < i → p_dg (c j) = true) → (i < n → p_fit c (some E) i = false) → ∃ f μ', zX4_readLoaves_24 μ (nI (E + 1)) (nI i) = some (nI f, μ') ∧ p_F n c (some E) f ∧ (∀ x, x ≠ 19 → x ≠ 21 → μ' x = μ x) ∧ μ' 21 0 = nI ((f - (E + 1)) / 2) ∧ μ' 19 0 = if p_val n (some E) f then 1 else 0 := by
    intro i hi1 hi2 hi3 hi4 hi5
    refine ⟨i, q_u (q_u μ 21 0 (nI ((i - (E + 1)) / 2))) 19 0 (if p_val n (some E) i then 1 else 0), ?_, ⟨hi2, fun j hj => ?_, hi5⟩, fun x h1 h2 => ?_, ?_, q_u_s⟩
    · unfold zX4_readLoaves_24
      rw [pk_sub (by omega), show (2 : Int32) = nI 2 from rfl, pk_rem (by omega) (by omega) (by omega), pk_div (by omega) (by omega) (by omega), a_lt', q_u_k (by decide), q_u_s, h.1]
      unfold p_val
      by_cases z : i = n
      · rw [if_pos (by rw [z])]
        by_cases z2 : (i - (E + 1)) / 2 = 0
        · rw [if_pos (by rw [z2]; decide), a_lt', if_neg (by simp; omega)]
        · rw [if_neg (by rw [show (0 : Int32) = nI 0 from rfl, a_le (by omega) (by omega)]; omega)]
          by_cases z3 : (i - (E + 1)) % 2 = 0
          · rw [if_pos (by rw [z3]; rfl), a_lt', if_pos (by simp [z]; omega)]
          · rw [if_neg (show ¬ nI ((i - (E + 1)) % 2) = (0 : Int32) from fun y => z3 ((a_eq (b := 0) (by omega) (by omega)).mp y)), a_lt', if_neg (by simp; omega)]
      · rw [if_neg (show ¬ nI i = nI n from fun y => z ((a_eq (by omega) (by omega)).mp y)), a_lt', if_neg (by simp [z])]
    · unfold p_fit
      by_cases z : j ≤ E
      · show (if j ≤ E then p_fe c j else p_fl c E j) = true
        rw [if_pos z]; exact hpre j z
      · show (if j ≤ E then p_fe c j else p_fl c E j) = true
        rw [if_neg z]
        unfold p_fl
        rw [hi4 j (by omega) hj, Bool.and_true]
        simp
        omega
    · rw [q_u_k h1, q_u_k h2]
    · rw [q_u_k (by decide), q_u_s]
  intro d
  induction d with
  | zero =>
    intro i hi h1 h2 h3 k hk
    obtain ⟨k, rfl⟩ : ∃ m, k = m + 1 := ⟨k - 1, by omega⟩
    rw [zX4_readLoaves_2_s]
    unfold jX4_readLoaves_2
    rw [show (10 : Int32) = nI 10 from rfl, nI_add, if_pos ((a_le (by omega) (by omega)).mpr (by omega))]
    refine stop i h1 h2 (by omega) h3 (fun z => ?_)
    show (if i ≤ E then p_fe c i else p_fl c E i) = false
    rw [if_neg (by omega)]
    unfold p_fl
    rw [show decide (i - E ≤ 10) = false by simp; omega, Bool.false_and]
  | succ d ih =>
    intro i hi h1 h2 h3 k hk
    obtain ⟨k, rfl⟩ : ∃ m, k = m + 1 := ⟨k - 1, by omega⟩
    rw [zX4_readLoaves_2_s]
    unfold jX4_readLoaves_2
    rw [show (10 : Int32) = nI 10 from rfl, nI_add, if_neg (by rw [a_le (by omega) (by omega)]; omega), p_fig h (by omega), a_b1]
    by_cases z : i < n ∧ p_dg (c i) = true
    · rw [show (decide (i < n) && p_dg (c i)) = true by simp [z.1, z.2], if_pos rfl, if_neg (by decide), a_lt', nI_1]
      refine ih (i + 1) (by omega) (by omega) (by omega) (fun j a b => ?_) k (by omega)
      by_cases y : j = i
      · subst y; exact z.2
      · exact h3 j a (by omega)
    · rw [show (decide (i < n) && p_dg (c i)) = false by
        cases y : (decide (i < n) && p_dg (c i)) with
        | false => rfl
        | true => simp at y; exact absurd y z, show (if false = true then (1 : Int32) else 0) = 0 from rfl, if_pos rfl]
      refine stop i h1 h2 (by omega) h3 (fun y => ?_)
      show (if i ≤ E then p_fe c i else p_fl c E i) = false
      rw [if_neg (by omega)]
      unfold p_fl
      have : p_dg (c i) = false := by
        cases x : p_dg (c i) with
        | false => rfl
        | true => exact absurd ⟨y, x⟩ z
      rw [this, Bool.and_false]
theorem p_pre {n : Nat} {c : Nat → Nat} {e : Option Nat} (he : p_E n c e) {j : Nat} (h : ∀ i, i < j → c i ≠ 59) : p_fit c e j = p_fe c j := by
  cases e with
  | none => rfl
  | some E =>
    show (if j ≤ E then p_fe c j else p_fl c E j) = _
    rw [if_pos]
    apply Nat.le_of_not_lt
    intro z
    exact h E z he.2.1
def p_out (n : Nat) (e : Option Nat) (f : Nat) (μ' : q_S) : Prop := μ' 19 0 = (if p_val n e f then 1 else 0) ∧ (p_val n e f = true → ∃ m, μ' 20 0 = nI m ∧ 2 ≤ m ∧ m ≤ 4 ∧ e = some (3 * m - 1) ∧ 3 * m ≤ n ∧ μ' 21 0 = nI ((n - 3 * m) / 2))
theorem p_val_f {n : Nat} {e : Option Nat} {f : Nat} (h : f ≠ n) : p_val n e f = false := by
  cases e with
  | none => rfl
  | some E => unfold p_val; simp [h]
theorem p_val_n {n : Nat} {c : Nat → Nat} {e : Option Nat} (he : p_E n c e) (h : ∀ j, j < n → c j ≠ 59) (f : Nat) : p_val n e f = false := by
  cases e with
  | none => rfl
  | some E => exact absurd he.2.1 (h E he.1)
theorem p_no {n : Nat} {e : Option Nat} {f : Nat} {μ : q_S} (h : p_val n e f = false) (h19 : μ 19 0 = 0) : p_out n e f μ := by
  refine ⟨?_, fun z => ?_⟩
  · rw [h, h19]; rfl
  · rw [h] at z; cases z
theorem p_dg59 {x : Nat} (h : p_dg x = true) : x ≠ 59 := by
  intro z
  subst z
  exact absurd h (by decide)
def p_rd (μ μ' : q_S) : Prop := ∀ x, x ≠ 19 → x ≠ 20 → x ≠ 21 → μ' x = μ x
theorem p_read_l {n : Nat} {c : Nat → Nat} {e : Option Nat} (he : p_E n c e) : ∀ (d m : Nat), m + d = 4 → m < 4 → ∀ (k : Nat), d < k → ∀ (μ : q_S), p_M μ n c → μ 19 0 = 0 → μ 20 0 = nI m → 3 * m ≤ n → (∀ j, j < 3 * m → p_fe c j = true ∧ c j ≠ 59) → ∃ f μ', zX4_read_12 k μ (nI (3 * m)) = some (nI f, μ') ∧ p_F n c e f ∧ p_rd μ μ' ∧ p_out n e f μ' := by
  intro d
  induction d with
  | zero => intro m h1 h2; omega
  | succ d ih =>
    intro m h1 h2 k hk μ hM h19 h20 hn hpre
    obtain ⟨k, rfl⟩ : ∃ m, k = m + 1 := ⟨k - 1, by omega⟩
    have h24 := hM.2.1
    have hfit : ∀ j, j < 3 * m → p_fit c e j = true := fun j hj => by rw [p_pre he (fun i hi => (hpre i (by omega)).2)]; exact (hpre j hj).1
    rw [zX4_read_12_s]
    unfold jX4_read_12
    rw [h20, if_neg (by rw [show (4 : Int32) = nI 4 from rfl, a_le (by omega) (by omega)]; omega), hM.1]
    by_cases z0 : 3 * m = n
    · rw [if_pos (by rw [z0])]
      refine ⟨3 * m, μ, rfl, ⟨by omega, hfit, fun y => by omega⟩, fun _ _ _ _ => rfl, p_no (p_val_n he (fun j hj => (hpre j (by omega)).2) _) h19⟩
    · have hc0 := hM.2.2 (3 * m) (by omega)
      rw [if_neg (show ¬ nI (3 * m) = nI n from fun y => z0 ((a_eq (by omega) (by omega)).mp y)), a_gd (a_ib (by omega) (by omega)), a_cl (by omega), hc0.1, a_kindBy _ (by omega), a_b1]
      have hf0 : p_fit c e (3 * m) = p_fe c (3 * m) := p_pre he (fun i hi => (hpre i hi).2)
      have hfe0 : p_fe c (3 * m) = decide (p_kd (c (3 * m)) < 5) := by
        unfold p_fe
        rw [if_pos (by omega)]
      by_cases z1 : p_kd (c (3 * m)) < 5
      · have hfe0' : p_fe c (3 * m) = true := by rw [hfe0]; simpa using z1
        have h59 : c (3 * m) ≠ 59 := fun y => by rw [y] at z1; exact absurd z1 (by decide)
        rw [if_pos z1, if_neg (show ¬ nI (p_kd (c (3 * m))) = (-1 : Int32) from fun y => absurd (show nI (p_kd (c (3 * m))) < 0 by rw [y]; decide) (a_neg (by omega))), nI_1 (3 * m), p_fig hM (by omega), a_b1]
        have hfit1 : ∀ j, j < 3 * m + 1 → p_fit c e j = true := fun j hj => by
          by_cases y : j = 3 * m
          · subst y; rw [hf0]; exact hfe0'
          · exact hfit j (by omega)
        have h591 : ∀ j, j < 3 * m + 1 → c j ≠ 59 := fun j hj => by
          by_cases y : j = 3 * m
          · subst y; exact h59
          · exact (hpre j (by omega)).2
        have hf1 : p_fit c e (3 * m + 1) = p_fe c (3 * m + 1) := p_pre he h591
        have hfe1 : p_fe c (3 * m + 1) = p_dg (c (3 * m + 1)) := by
          unfold p_fe
          rw [if_neg (by omega), if_pos (by omega)]
        by_cases z2 : 3 * m + 1 < n ∧ p_dg (c (3 * m + 1)) = true
        · obtain ⟨z2a, z2b⟩ := z2
          rw [show (decide (3 * m + 1 < n) && p_dg (c (3 * m + 1))) = true by simp [z2a, z2b], if_pos rfl, if_neg (by decide), a_lt', a_lt', show nI (3 * m) + (2 : Int32) = nI (3 * m + 2) from nI_add _ 2]
          have hfit2 : ∀ j, j < 3 * m + 2 → p_fit c e j = true := fun j hj => by
            by_cases y : j = 3 * m + 1
            · subst y; rw [hf1, hfe1]; exact z2b
            · exact hfit1 j (by omega)
          have h592 : ∀ j, j < 3 * m + 2 → c j ≠ 59 := fun j hj => by
            by_cases y : j = 3 * m + 1
            · subst y; exact p_dg59 z2b
            · exact h591 j (by omega)
          have hfe2' : ∀ j, j < 3 * m + 2 → p_fe c j = true := fun j hj => by rw [← p_pre he (fun i hi => h592 i (by omega))]; exact hfit2 j hj
          have hf2 : p_fit c e (3 * m + 2) = p_fe c (3 * m + 2) := p_pre he h592
          have hfe2 : p_fe c (3 * m + 2) = ((decide (c (3 * m + 2) = 44) && decide (m + 1 < 4)) || (decide (c (3 * m + 2) = 59) && decide (2 ≤ m + 1) && decide (m + 1 ≤ 4))) := by
            unfold p_fe
            rw [if_neg (by omega), if_neg (by omega), show (3 * m + 2) / 3 = m by omega]
          have hy : p_M (q_u μ 20 0 (nI m + 1)) n c := hM.fr (by rw [q_u_k (by decide)]) (fun j => by rw [q_u_k (by decide)])
          have hrd : p_rd μ (q_u μ 20 0 (nI m + 1)) := fun x _ a _ => q_u_k a
          have hy19 : q_u μ 20 0 (nI m + 1) 19 0 = 0 := by rw [q_u_k (by decide)]; exact h19
          have hy20 : q_u μ 20 0 (nI m + 1) 20 0 = nI (m + 1) := by rw [q_u_s, nI_1]
          have tail : ¬ (c (3 * m + 2) = 59 ∧ 1 < m + 1) → (3 * m + 2 < n ∨ 3 * m + 2 = n) → ∃ f μ', zX4_read_105 (zX4_read_12 k) (q_u μ 20 0 (nI m + 1)) (nI (3 * m + 2)) = some (nI f, μ') ∧ p_F n c e f ∧ p_rd μ μ' ∧ p_out n e f μ' := by
            intro hns hnn
            unfold zX4_read_105
            rw [hy.1]
            by_cases y0 : 3 * m + 2 = n
            · rw [if_pos (by rw [y0])]
              exact ⟨3 * m + 2, _, rfl, ⟨by omega, hfit2, fun y => by omega⟩, hrd, p_no (p_val_n he (fun j hj => h592 j (by omega)) _) hy19⟩
            · have hc2 := hM.2.2 (3 * m + 2) (by omega)
              have fail : p_fe c (3 * m + 2) = false → ∃ f μ', some (nI (3 * m + 2), q_u μ 20 0 (nI m + 1)) = some (nI f, μ') ∧ p_F n c e f ∧ p_rd μ μ' ∧ p_out n e f μ' := fun hh => ⟨3 * m + 2, _, rfl, ⟨by omega, hfit2, fun _ => by rw [hf2]; exact hh⟩, hrd, p_no (p_val_f y0) hy19⟩
              rw [if_neg (show ¬ nI (3 * m + 2) = nI n from fun y => y0 ((a_eq (by omega) (by omega)).mp y)), hy20]
              by_cases y1 : m + 1 = 4
              · rw [if_pos (by rw [y1]; rfl)]
                refine fail ?_
                rw [hfe2, show decide (c (3 * m + 2) = 59) = false by
                  simp
                  intro q
                  exact hns ⟨q, by omega⟩, show decide (m + 1 < 4) = false by simp; omega, Bool.and_false, Bool.false_and, Bool.false_and, Bool.or_false]
              · rw [if_neg (show ¬ nI (m + 1) = (4 : Int32) from fun y => y1 ((a_eq (b := 4) (by omega) (by omega)).mp y)), a_gd (a_ib (by omega) (by omega)), a_cl (by omega), (hy.2.2 (3 * m + 2) (by omega)).1]
                by_cases y2 : c (3 * m + 2) = 44
                · rw [if_pos (by rw [y2]; rfl), a_lt', nI_1 (3 * m + 2)]
                  obtain ⟨f, μ', r1, r2, r3, r4⟩ := ih (m + 1) (by omega) (by omega) k (by omega) _ hy hy19 hy20 (by omega) (fun j hj => by
                    by_cases y : j = 3 * m + 2
                    · subst y
                      refine ⟨?_, by omega⟩
                      rw [hfe2, y2]
                      simp
                      omega
                    · exact ⟨hfe2' j (by omega), h592 j (by omega)⟩)
                  refine ⟨f, μ', r1, r2, fun x a b d => ?_, r4⟩
                  rw [r3 x a b d]
                  exact hrd x a b d
                · rw [if_neg (show ¬ nI (c (3 * m + 2)) = (44 : Int32) from fun y => y2 ((a_eq (b := 44) (by omega) (by omega)).mp y))]
                  refine fail ?_
                  rw [hfe2, show decide (c (3 * m + 2) = 44) = false by simpa using y2, Bool.false_and, Bool.false_or]
                  by_cases q : c (3 * m + 2) = 59
                  · have : ¬ 1 < m + 1 := fun w => hns ⟨q, w⟩
                    rw [show decide (2 ≤ m + 1) = false by simp; omega, Bool.and_false, Bool.false_and]
                  · rw [show decide (c (3 * m + 2) = 59) = false by simpa using q, Bool.false_and, Bool.false_and]
          rw [hy.1]
          by_cases y0 : n ≤ 3 * m + 2
          · rw [if_pos ((a_le (by omega) (by omega)).mpr y0)]
            have hcn : ¬ (c (3 * m + 2) = 59 ∧ 1 < m + 1) ∨ (c (3 * m + 2) = 59 ∧ 1 < m + 1) := by
              by_cases w : c (3 * m + 2) = 59 ∧ 1 < m + 1
              · exact Or.inr w
              · exact Or.inl w
            unfold zX4_read_105
            rw [hy.1, if_pos (by rw [show 3 * m + 2 = n by omega])]
            exact ⟨3 * m + 2, _, rfl, ⟨by omega, hfit2, fun y => by omega⟩, hrd, p_no (p_val_n he (fun j hj => h592 j (by omega)) _) hy19⟩
          · rw [if_neg (by rw [a_le (by omega) (by omega)]; exact y0), a_gd (a_ib (by omega) (by omega)), a_cl (by omega), (hy.2.2 (3 * m + 2) (by omega)).1]
            have hc2 := (hM.2.2 (3 * m + 2) (by omega)).2
            by_cases y1 : c (3 * m + 2) = 59
            · rw [if_pos (by rw [y1]; rfl), hy20]
              by_cases y2 : m + 1 ≤ 1
              · rw [if_pos (by rw [show (1 : Int32) = nI 1 from rfl, a_le (by omega) (by omega)]; exact y2)]
                exact tail (fun w => by omega) (by omega)
              · rw [if_neg (by rw [show (1 : Int32) = nI 1 from rfl, a_le (by omega) (by omega)]; exact y2), nI_1 (3 * m + 2)]
                have heE : e = some (3 * m + 2) := by
                  cases e with
                  | none => exact absurd y1 (he (3 * m + 2) (by omega))
                  | some E =>
                    obtain ⟨e1, e2, e3⟩ := he
                    rcases Nat.lt_trichotomy E (3 * m + 2) with w | w | w
                    · exact absurd e2 (h592 E w)
                    · rw [w]
                    · exact absurd y1 (e3 _ w)
                subst heE
                obtain ⟨f, μ', r1, r2, r3, r4, r5⟩ := p_loaves_l hy (E := 3 * m + 2) (by omega) (fun j hj => by
                  by_cases y : j = 3 * m + 2
                  · subst y
                    rw [hfe2, y1]
                    simp
                    omega
                  · exact hfe2' j (by omega)) 10 (3 * m + 3) (by omega) (by omega) (by omega) (fun j a b => by omega) 70000 (by omega)
                refine ⟨f, μ', ?_, r2, fun x a b d => ?_, r5, fun w => ?_⟩
                · unfold zX4_readLoaves
                  rw [r1, a_b2]
                · rw [r3 x a d]
                  exact hrd x a b d
                · have hfn : f = n := by
                    unfold p_val at w
                    simp at w
                    exact w.1.1
                  refine ⟨m + 1, ?_, by omega, by omega, by rw [show 3 * (m + 1) - 1 = 3 * m + 2 by omega], by omega, ?_⟩
                  · rw [r3 20 (by decide) (by decide)]; exact hy20
                  · rw [r4, hfn, show 3 * m + 2 + 1 = 3 * (m + 1) by omega]
            · rw [if_neg (show ¬ nI (c (3 * m + 2)) = (59 : Int32) from fun y => y1 ((a_eq (b := 59) (by omega) (by omega)).mp y))]
              exact tail (fun w => y1 w.1) (by omega)
        · rw [show (decide (3 * m + 1 < n) && p_dg (c (3 * m + 1))) = false by
            cases y : (decide (3 * m + 1 < n) && p_dg (c (3 * m + 1))) with
            | false => rfl
            | true => simp at y; exact absurd y z2, show (if false = true then (1 : Int32) else 0) = 0 from rfl, if_pos rfl]
          refine ⟨3 * m + 1, μ, rfl, ⟨by omega, hfit1, fun y => ?_⟩, fun _ _ _ _ => rfl, p_no ?_ h19⟩
          · rw [hf1, hfe1]
            cases x : p_dg (c (3 * m + 1)) with
            | false => rfl
            | true => exact absurd ⟨y, x⟩ z2
          · by_cases y : 3 * m + 1 = n
            · exact p_val_n he (fun j hj => h591 j (by omega)) _
            · exact p_val_f y
      · rw [if_neg z1, if_pos rfl]
        refine ⟨3 * m, μ, rfl, ⟨by omega, hfit, fun _ => ?_⟩, fun _ _ _ _ => rfl, p_no (p_val_f z0) h19⟩
        rw [hf0, hfe0]
        simpa using z1
theorem p_read {μ : q_S} {n : Nat} {c : Nat → Nat} (hM : p_M μ n c) {e : Option Nat} (he : p_E n c e) : ∃ f μ', zX4_read μ = some (nI f, μ') ∧ p_F n c e f ∧ p_rd μ μ' ∧ p_out n e f μ' := by
  obtain ⟨f, μ', r1, r2, r3, r4⟩ := p_read_l he 4 0 rfl (by omega) 70000 (by omega) (q_u (q_u μ 19 0 0) 20 0 0) (hM.fr (by rw [q_u_k (by decide), q_u_k (by decide)]) (fun j => by rw [q_u_k (by decide), q_u_k (by decide)])) (by rw [q_u_k (by decide), q_u_s]) q_u_s (by omega) (fun j hj => by omega)
  refine ⟨f, μ', r1, r2, fun x a b d => ?_, r4⟩
  rw [r3 x a b d, q_u_k b, q_u_k a]
