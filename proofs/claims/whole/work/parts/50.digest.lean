/-! count, digest -/
def o_n (V : q_V) (n vr sp w : Nat) : Int32 := if w = 0 then nI (V 0 0) else if w = 1 then nI (v_pc (V 1 0) 10) else if w = 2 then nI (V 6 0) else if w = 3 then nI (v_pc (V 7 0) 10) else if w = 4 then nI (v_su (V 4) 4) else if w = 5 then nI (v_su (V 5) 4) else if w = 6 then nI (V 10 0) else if w = 7 then nI (V 11 0) else if w = 8 then nI n else if w = 9 then nI vr else if w = 10 then nI sp else -102
theorem c_cnt {b : Nat} {s0 s1 s2 s3 μ : q_S} {V K : q_V} {n : Nat} {c : Nat → Nat} {vr sp : Nat} (h : r_r b s0 s1 s2 s3 μ V K n c vr sp) {w : Nat} (hw : w < 2 ^ 31) : zX3_count s0 s1 s2 (nI w) = some (o_n V n vr sp w) := by
  obtain ⟨⟨hA, hW, hM, h11⟩, ⟨hR, hP⟩, h3, h6, h9⟩ := h
  have hbE := hW.bE
  have hbL := hW.bL
  unfold zX3_count
  have e : ∀ k, k < 11 → w ≠ k → ¬ nI w = nI k := fun k hk hn z => hn ((a_eq (by omega) (by omega)).mp z)
  by_cases q0 : w = 0
  · subst q0
    rw [if_pos (by decide), hA 0 0 (by decide)]; rfl
  rw [if_neg (show ¬ nI w = (0 : Int32) from e 0 (by omega) q0)]
  by_cases q1 : w = 1
  · subst q1
    rw [if_pos (by decide), hA 1 0 (by decide), a_pc _ (by omega), a_b1]; rfl
  rw [if_neg (show ¬ nI w = (1 : Int32) from e 1 (by omega) q1)]
  by_cases q2 : w = 2
  · subst q2
    rw [if_pos (by decide), hA 6 0 (by decide)]; rfl
  rw [if_neg (show ¬ nI w = (2 : Int32) from e 2 (by omega) q2)]
  by_cases q3 : w = 3
  · subst q3
    rw [if_pos (by decide), hA 7 0 (by decide), a_pc _ (by omega), a_b1]; rfl
  rw [if_neg (show ¬ nI w = (3 : Int32) from e 3 (by omega) q3)]
  by_cases q4 : w = 4
  · subst q4
    rw [if_pos (by decide), c_sumOf (g := V 4) (fun j hj => hA 4 j hj), a_b1]; rfl
  rw [if_neg (show ¬ nI w = (4 : Int32) from e 4 (by omega) q4)]
  by_cases q5 : w = 5
  · subst q5
    rw [if_pos (by decide), c_sumOf (g := V 5) (fun j hj => hA 5 j hj), a_b1]; rfl
  rw [if_neg (show ¬ nI w = (5 : Int32) from e 5 (by omega) q5)]
  by_cases q6 : w = 6
  · subst q6
    rw [if_pos (by decide), hA 10 0 (by decide)]; rfl
  rw [if_neg (show ¬ nI w = (6 : Int32) from e 6 (by omega) q6)]
  by_cases q7 : w = 7
  · subst q7
    rw [if_pos (by decide), hA 11 0 (by decide)]; rfl
  rw [if_neg (show ¬ nI w = (7 : Int32) from e 7 (by omega) q7)]
  by_cases q8 : w = 8
  · subst q8
    rw [if_pos (by decide), hR.1]; rfl
  rw [if_neg (show ¬ nI w = (8 : Int32) from e 8 (by omega) q8)]
  by_cases q9 : w = 9
  · subst q9
    rw [if_pos (by decide), h3.1]; rfl
  rw [if_neg (show ¬ nI w = (9 : Int32) from e 9 (by omega) q9)]
  by_cases q10 : w = 10
  · subst q10
    rw [if_pos (by decide), h6.1]; rfl
  rw [if_neg (show ¬ nI w = (10 : Int32) from e 10 (by omega) q10)]
  unfold o_n
  rw [if_neg q0, if_neg q1, if_neg q2, if_neg q3, if_neg q4, if_neg q5, if_neg q6, if_neg q7, if_neg q8, if_neg q9, if_neg q10]
theorem m_cnt {μ : q_S} {V : q_V} {n : Nat} {vr sp : Nat} (hW : v_W V) (hM : m_A μ V) (h11 : μ 11 0 = nI (V 10 0)) (h17 : μ 17 0 = nI n) (h0 : μ 0 0 = nI vr) (h16 : μ 16 0 = nI sp) {w : Nat} (hw : w < 2 ^ 31) : zX4_howMany μ (nI w) = some (o_n V n vr sp w) := by
  unfold zX4_howMany
  have e : ∀ k, k < 11 → w ≠ k → ¬ nI w = nI k := fun k hk hn z => hn ((a_eq (by omega) (by omega)).mp z)
  by_cases q0 : w = 0
  · subst q0
    rw [if_pos (by decide), hM.1.1]; rfl
  rw [if_neg (show ¬ nI w = (0 : Int32) from e 0 (by omega) q0)]
  by_cases q1 : w = 1
  · subst q1
    rw [if_pos (by decide), m_living hM hW, a_b1]; rfl
  rw [if_neg (show ¬ nI w = (1 : Int32) from e 1 (by omega) q1)]
  by_cases q2 : w = 2
  · subst q2
    rw [if_pos (by decide), hM.1.2.1]; rfl
  rw [if_neg (show ¬ nI w = (2 : Int32) from e 2 (by omega) q2)]
  by_cases q3 : w = 3
  · subst q3
    rw [if_pos (by decide), m_leftMany hM hW, a_b1, hM.1.2.1, m_eatenMany hW]; rfl
  rw [if_neg (show ¬ nI w = (3 : Int32) from e 3 (by omega) q3)]
  by_cases q4 : w = 4
  · subst q4
    rw [if_pos (by decide), m_carriesAll hM hW, a_b1]; rfl
  rw [if_neg (show ¬ nI w = (4 : Int32) from e 4 (by omega) q4)]
  by_cases q5 : w = 5
  · subst q5
    rw [if_pos (by decide), m_paidAll hM hW, a_b1]; rfl
  rw [if_neg (show ¬ nI w = (5 : Int32) from e 5 (by omega) q5)]
  by_cases q6 : w = 6
  · subst q6
    rw [if_pos (by decide), h11]; rfl
  rw [if_neg (show ¬ nI w = (6 : Int32) from e 6 (by omega) q6)]
  by_cases q7 : w = 7
  · subst q7
    rw [if_pos (by decide), hM.1.2.2.2]; rfl
  rw [if_neg (show ¬ nI w = (7 : Int32) from e 7 (by omega) q7)]
  by_cases q8 : w = 8
  · subst q8
    rw [if_pos (by decide), h17]; rfl
  rw [if_neg (show ¬ nI w = (8 : Int32) from e 8 (by omega) q8)]
  by_cases q9 : w = 9
  · subst q9
    rw [if_pos (by decide), h0]; rfl
  rw [if_neg (show ¬ nI w = (9 : Int32) from e 9 (by omega) q9)]
  by_cases q10 : w = 10
  · subst q10
    rw [if_pos (by decide), h16]; rfl
  rw [if_neg (show ¬ nI w = (10 : Int32) from e 10 (by omega) q10)]
  unfold o_n
  rw [if_neg q0, if_neg q1, if_neg q2, if_neg q3, if_neg q4, if_neg q5, if_neg q6, if_neg q7, if_neg q8, if_neg q9, if_neg q10]
theorem a_negk {x : Int32} (h : x < 0) (k : Nat) (hk : k < 2 ^ 31) : ¬ x = nI k := fun z => a_neg hk (z ▸ h)
theorem o_count {b : Nat} {s0 s1 s2 s3 μ : q_S} (h : r_R b s0 s1 s2 s3 μ) (x : Int32) : ∃ r, zX3_count s0 s1 s2 x = some r ∧ zX4_count μ x = some r := by
  obtain ⟨V, K, n, c, vr, sp, h⟩ := h
  have h' := h
  obtain ⟨⟨hA, hW, hM, h11⟩, ⟨hR, hP⟩, h3, h6, h9⟩ := h
  by_cases x0 : x < 0
  · refine ⟨-102, ?_, ?_⟩
    · unfold zX3_count
      rw [if_neg (show ¬ x = (0 : Int32) from a_negk x0 0 (by omega)), if_neg (show ¬ x = (1 : Int32) from a_negk x0 1 (by omega)), if_neg (show ¬ x = (2 : Int32) from a_negk x0 2 (by omega)), if_neg (show ¬ x = (3 : Int32) from a_negk x0 3 (by omega)), if_neg (show ¬ x = (4 : Int32) from a_negk x0 4 (by omega)), if_neg (show ¬ x = (5 : Int32) from a_negk x0 5 (by omega)), if_neg (show ¬ x = (6 : Int32) from a_negk x0 6 (by omega)), if_neg (show ¬ x = (7 : Int32) from a_negk x0 7 (by omega)), if_neg (show ¬ x = (8 : Int32) from a_negk x0 8 (by omega)), if_neg (show ¬ x = (9 : Int32) from a_negk x0 9 (by omega)), if_neg (show ¬ x = (10 : Int32) from a_negk x0 10 (by omega))]
    · unfold zX4_count zX4_howMany
      rw [if_neg (show ¬ x = (0 : Int32) from a_negk x0 0 (by omega)), if_neg (show ¬ x = (1 : Int32) from a_negk x0 1 (by omega)), if_neg (show ¬ x = (2 : Int32) from a_negk x0 2 (by omega)), if_neg (show ¬ x = (3 : Int32) from a_negk x0 3 (by omega)), if_neg (show ¬ x = (4 : Int32) from a_negk x0 4 (by omega)), if_neg (show ¬ x = (5 : Int32) from a_negk x0 5 (by omega)), if_neg (show ¬ x = (6 : Int32) from a_negk x0 6 (by omega)), if_neg (show ¬ x = (7 : Int32) from a_negk x0 7 (by omega)), if_neg (show ¬ x = (8 : Int32) from a_negk x0 8 (by omega)), if_neg (show ¬ x = (9 : Int32) from a_negk x0 9 (by omega)), if_neg (show ¬ x = (10 : Int32) from a_negk x0 10 (by omega)), a_b1]
  · obtain ⟨w, hw, rfl⟩ := nI_of x0
    refine ⟨_, c_cnt h' hw, ?_⟩
    unfold zX4_count
    rw [m_cnt hW hM h11 hP.1 h3.2.1 h6.2.1 hw, a_b1]
def d_m (h : Int64) (x : Int32) : Int64 := (31 : Int64) * h + x.toInt64
def d_f (f : Nat → Int32) (h : Int64) : Nat → Int64
  | 0 => h
  | n + 1 => d_m (d_f f h n) (f n)
def d_E (V : q_V) : Nat → Int64
  | 0 => 1019
  | e + 1 => d_f (o_e V e) (d_E V e) 8
def d_L (V : q_V) (h : Int64) : Nat → Int64
  | 0 => h
  | l + 1 => d_f (o_l V l) (d_L V h l) 5
theorem d_f_s {f : Nat → Int32} {h : Int64} {n : Nat} : d_f f h (n + 1) = d_m (d_f f h n) (f n) := rfl
theorem d_E_s {V : q_V} {e : Nat} : d_E V (e + 1) = d_f (o_e V e) (d_E V e) 8 := rfl
theorem d_L_s {V : q_V} {h : Int64} {l : Nat} : d_L V h (l + 1) = d_f (o_l V l) (d_L V h l) 5 := rfl
/-! the class's -/
theorem d_c140 {s0 s1 s2 : q_S} {f : Nat → Int32} (hf : ∀ w, w < 11 → zX3_count s0 s1 s2 (nI w) = some (f w)) {h : Int64} : ∀ (d i : Nat), i + d = 11 → ∀ (k : Nat), d < k → zX3_digest_140 s0 s1 s2 k (d_f f h i) (nI i) = some (d_f f h 11) := by
  intro d
  induction d with
  | zero =>
    intro i hi k hk
    obtain ⟨k, rfl⟩ : ∃ m, k = m + 1 := ⟨k - 1, by omega⟩
    have : i = 11 := by omega
    subst this
    rw [zX3_digest_140_s]
    unfold jX3_digest_140
    rw [if_pos (by decide)]
  | succ d ih =>
    intro i hi k hk
    obtain ⟨k, rfl⟩ : ∃ m, k = m + 1 := ⟨k - 1, by omega⟩
    rw [zX3_digest_140_s]
    unfold jX3_digest_140
    rw [if_neg (by rw [show (10 : Int32) = nI 10 from rfl, a_lt (by omega) (by omega)]; omega), hf i (by omega), a_b1, a_lt', a_lt', nI_1]
    exact ih (i + 1) (by omega) k (by omega)
theorem d_c105 {s0 s1 s2 : q_S} {f : Nat → Int32} (hf : ∀ w, w < 11 → zX3_count s0 s1 s2 (nI w) = some (f w)) {n : Nat} {c : Nat → Nat} (hR : p_R s1 n c) {h : Int64} : ∀ (d i : Nat), i + d = n → ∀ (k : Nat), d < k → zX3_digest_105 s0 s1 s2 k (d_f (fun j => nI (c j)) h i) (nI i) = some (d_f f (d_f (fun j => nI (c j)) h n) 11) := by
  have h24 := hR.2.1
  intro d
  induction d with
  | zero =>
    intro i hi k hk
    obtain ⟨k, rfl⟩ : ∃ m, k = m + 1 := ⟨k - 1, by omega⟩
    have : i = n := by omega
    subst this
    rw [zX3_digest_105_s]
    unfold jX3_digest_105
    rw [hR.1, if_pos ((a_le (by omega) (by omega)).mpr (by omega))]
    exact d_c140 hf 11 0 rfl 70000 (by omega)
  | succ d ih =>
    intro i hi k hk
    obtain ⟨k, rfl⟩ : ∃ m, k = m + 1 := ⟨k - 1, by omega⟩
    rw [zX3_digest_105_s]
    unfold jX3_digest_105
    rw [hR.1, if_neg (by rw [a_le (by omega) (by omega)]; omega), hR.at (by omega), a_b1, a_lt', a_lt', nI_1]
    exact ih (i + 1) (by omega) k (by omega)
theorem d_c70 {s2 : q_S} {V : q_V} (hA : v_A s2 V) (hW : v_W V) {k56 : Int64 → Int32 → Option Int64} {l : Nat} (hl : l < V 6 0) {h : Int64} : ∀ (d i : Nat), i + d = 5 → ∀ (k : Nat), d < k → zX3_digest_70 k56 s2 (nI l) k (d_f (o_l V l) h i) (nI i) = k56 (d_f (o_l V l) h 5) (nI (l + 1)) := by
  intro d
  induction d with
  | zero =>
    intro i hi k hk
    obtain ⟨k, rfl⟩ : ∃ m, k = m + 1 := ⟨k - 1, by omega⟩
    have : i = 5 := by omega
    subst this
    rw [zX3_digest_70_s]
    unfold jX3_digest_70
    rw [if_pos (by decide), a_lt', nI_1]
  | succ d ih =>
    intro i hi k hk
    obtain ⟨k, rfl⟩ : ∃ m, k = m + 1 := ⟨k - 1, by omega⟩
    rw [zX3_digest_70_s]
    unfold jX3_digest_70
    rw [if_neg (by rw [show (4 : Int32) = nI 4 from rfl, a_lt (by omega) (by omega)]; omega), c_aboutL hA hW hl (by omega), a_b1, a_lt', a_lt', nI_1]
    exact ih (i + 1) (by omega) k (by omega)
theorem d_c20 {s2 : q_S} {V : q_V} (hA : v_A s2 V) (hW : v_W V) {k6 : Int64 → Int32 → Option Int64} {e : Nat} (he : e < V 0 0) {h : Int64} : ∀ (d i : Nat), i + d = 8 → ∀ (k : Nat), d < k → zX3_digest_20 k6 s2 (nI e) k (d_f (o_e V e) h i) (nI i) = k6 (d_f (o_e V e) h 8) (nI (e + 1)) := by
  intro d
  induction d with
  | zero =>
    intro i hi k hk
    obtain ⟨k, rfl⟩ : ∃ m, k = m + 1 := ⟨k - 1, by omega⟩
    have : i = 8 := by omega
    subst this
    rw [zX3_digest_20_s]
    unfold jX3_digest_20
    rw [if_pos (by decide), a_lt', nI_1]
  | succ d ih =>
    intro i hi k hk
    obtain ⟨k, rfl⟩ : ∃ m, k = m + 1 := ⟨k - 1, by omega⟩
    rw [zX3_digest_20_s]
    unfold jX3_digest_20
    rw [if_neg (by rw [show (7 : Int32) = nI 7 from rfl, a_lt (by omega) (by omega)]; omega), c_aboutE hA hW he (by omega), a_b1, a_lt', a_lt', nI_1]
    exact ih (i + 1) (by omega) k (by omega)
def d_T (V : q_V) (n : Nat) (c : Nat → Nat) (vr sp : Nat) (h : Int64) : Int64 := d_f (o_n V n vr sp) (d_f (fun j => nI (c j)) h n) 11
theorem d_c56 {b : Nat} {s0 s1 s2 s3 μ : q_S} {V K : q_V} {n : Nat} {c : Nat → Nat} {vr sp : Nat} (hr : r_r b s0 s1 s2 s3 μ V K n c vr sp) {h : Int64} : ∀ (d i : Nat), i + d = V 6 0 → ∀ (k : Nat), d < k → zX3_digest_56 s0 s1 s2 k (d_L V h i) (nI i) = some (d_T V n c vr sp (d_L V h (V 6 0))) := by
  have hr' := hr
  obtain ⟨⟨hA, hW, hM, h11⟩, ⟨hR, hP⟩, h3, h6, h9⟩ := hr
  have hL := hW.L
  have h24 := hR.2.1
  intro d
  induction d with
  | zero =>
    intro i hi k hk
    obtain ⟨k, rfl⟩ : ∃ m, k = m + 1 := ⟨k - 1, by omega⟩
    rw [zX3_digest_56_s]
    unfold jX3_digest_56
    rw [hA 6 0 (by decide), if_pos ((a_le (by omega) (by omega)).mpr (by omega)), show i = V 6 0 by omega]
    exact d_c105 (fun w hw => c_cnt hr' (by omega)) hR n 0 (by omega) 70000 (by omega)
  | succ d ih =>
    intro i hi k hk
    obtain ⟨k, rfl⟩ : ∃ m, k = m + 1 := ⟨k - 1, by omega⟩
    have q := ih (i + 1) (by omega) k (by omega)
    rw [zX3_digest_56_s]
    unfold jX3_digest_56
    rw [hA 6 0 (by decide), if_neg (by rw [a_le (by omega) (by omega)]; omega)]
    have q2 := d_c70 hA hW (k56 := zX3_digest_56 s0 s1 s2 k) (l := i) (by omega) (h := d_L V h i) 5 0 rfl 70000 (by omega)
    rw [← d_L_s] at q2
    exact q2.trans q
theorem d_c6 {b : Nat} {s0 s1 s2 s3 μ : q_S} {V K : q_V} {n : Nat} {c : Nat → Nat} {vr sp : Nat} (hr : r_r b s0 s1 s2 s3 μ V K n c vr sp) : ∀ (d i : Nat), i + d = V 0 0 → ∀ (k : Nat), d < k → zX3_digest_6 s0 s1 s2 k (d_E V i) (nI i) = some (d_T V n c vr sp (d_L V (d_E V (V 0 0)) (V 6 0))) := by
  have hr' := hr
  obtain ⟨⟨hA, hW, hM, h11⟩, ⟨hR, hP⟩, h3, h6, h9⟩ := hr
  have hE := hW.E
  have hL := hW.L
  intro d
  induction d with
  | zero =>
    intro i hi k hk
    obtain ⟨k, rfl⟩ : ∃ m, k = m + 1 := ⟨k - 1, by omega⟩
    rw [zX3_digest_6_s]
    unfold jX3_digest_6
    rw [hA 0 0 (by decide), if_pos ((a_le (by omega) (by omega)).mpr (by omega)), show i = V 0 0 by omega]
    exact d_c56 hr' (V 6 0) 0 (by omega) 70000 (by omega)
  | succ d ih =>
    intro i hi k hk
    obtain ⟨k, rfl⟩ : ∃ m, k = m + 1 := ⟨k - 1, by omega⟩
    have q := ih (i + 1) (by omega) k (by omega)
    rw [zX3_digest_6_s]
    unfold jX3_digest_6
    rw [hA 0 0 (by decide), if_neg (by rw [a_le (by omega) (by omega)]; omega)]
    have q2 := d_c20 hA hW (k6 := zX3_digest_6 s0 s1 s2 k) (e := i) (by omega) (h := d_E V i) 8 0 rfl 70000 (by omega)
    rw [← d_E_s] at q2
    exact q2.trans q
/-! the reference's -/
theorem d_mix {g : q_G} {h : Int64} (hg : g 40 = h) (x : Int32) : zX4_mix g x.toInt64 = some (q_ul g 40 (d_m h x)) := by
  unfold zX4_mix
  rw [a_lt', hg]
  rfl
theorem d_m117 {μ : q_S} {f : Nat → Int32} (hf : ∀ w, w < 11 → zX4_howMany μ (nI w) = some (f w)) {h : Int64} : ∀ (d i : Nat), i + d = 11 → ∀ (k : Nat), d < k → ∀ (g : q_G), g 40 = d_f f h i → ∃ g', zX4_digest_117 μ k g (nI i) = some (d_f f h 11, g', μ) := by
  intro d
  induction d with
  | zero =>
    intro i hi k hk g hg
    obtain ⟨k, rfl⟩ : ∃ m, k = m + 1 := ⟨k - 1, by omega⟩
    have : i = 11 := by omega
    subst this
    rw [zX4_digest_117_s]
    unfold jX4_digest_117
    rw [if_pos (by decide), hg]
    exact ⟨g, rfl⟩
  | succ d ih =>
    intro i hi k hk g hg
    obtain ⟨k, rfl⟩ : ∃ m, k = m + 1 := ⟨k - 1, by omega⟩
    rw [zX4_digest_117_s]
    unfold jX4_digest_117
    rw [if_neg (by rw [show (11 : Int32) = nI 11 from rfl, a_le (by omega) (by omega)]; omega), hf i (by omega), a_b1, d_mix hg, a_b1, a_lt', nI_1]
    exact ih (i + 1) (by omega) k (by omega) _ (by rw [q_ul_s, d_f_s])
theorem d_m90 {μ : q_S} {f : Nat → Int32} (hf : ∀ w, w < 11 → zX4_howMany μ (nI w) = some (f w)) {n : Nat} {c : Nat → Nat} (hR : p_M μ n c) {h : Int64} : ∀ (d i : Nat), i + d = n → ∀ (k : Nat), d < k → ∀ (g : q_G), g 40 = d_f (fun j => nI (c j)) h i → ∃ g', zX4_digest_90 μ k g (nI i) = some (d_f f (d_f (fun j => nI (c j)) h n) 11, g', μ) := by
  have h24 := hR.2.1
  intro d
  induction d with
  | zero =>
    intro i hi k hk g hg
    obtain ⟨k, rfl⟩ : ∃ m, k = m + 1 := ⟨k - 1, by omega⟩
    have : i = n := by omega
    subst this
    rw [zX4_digest_90_s]
    unfold jX4_digest_90
    rw [hR.1, if_pos ((a_le (by omega) (by omega)).mpr (by omega))]
    exact d_m117 hf 11 0 rfl 70000 (by omega) g hg
  | succ d ih =>
    intro i hi k hk g hg
    obtain ⟨k, rfl⟩ : ∃ m, k = m + 1 := ⟨k - 1, by omega⟩
    rw [zX4_digest_90_s]
    unfold jX4_digest_90
    rw [hR.1, if_neg (by rw [a_le (by omega) (by omega)]; omega), a_gd (a_ib (by omega) (by omega)), a_cl (by omega), (hR.2.2 i (by omega)).1, d_mix hg, a_b1, a_lt', nI_1]
    exact ih (i + 1) (by omega) k (by omega) _ (by rw [q_ul_s, d_f_s])
theorem d_m60 {μ : q_S} {V : q_V} (hM : m_A μ V) (hW : v_W V) {k50 : q_S → q_G → Int32 → Option (Int64 × q_G × q_S)} {l : Nat} (hl : l < V 6 0) {h : Int64} : ∀ (d i : Nat), i + d = 5 → ∀ (k : Nat), d < k → ∀ (g : q_G), g 40 = d_f (o_l V l) h i → ∃ g', zX4_digest_60 k50 (nI l) k μ g (nI i) = k50 μ g' (nI (l + 1)) ∧ g' 40 = d_f (o_l V l) h 5 := by
  intro d
  induction d with
  | zero =>
    intro i hi k hk g hg
    obtain ⟨k, rfl⟩ : ∃ m, k = m + 1 := ⟨k - 1, by omega⟩
    have : i = 5 := by omega
    subst this
    refine ⟨g, ?_, hg⟩
    rw [zX4_digest_60_s]
    unfold jX4_digest_60
    rw [if_pos (by decide), a_lt', nI_1]
  | succ d ih =>
    intro i hi k hk g hg
    obtain ⟨k, rfl⟩ : ∃ m, k = m + 1 := ⟨k - 1, by omega⟩
    rw [zX4_digest_60_s]
    unfold jX4_digest_60
    rw [if_neg (by rw [show (5 : Int32) = nI 5 from rfl, a_le (by omega) (by omega)]; omega), m_aboutL hM hW hl (by omega), a_b2, d_mix hg, a_b1, a_lt', nI_1]
    exact ih (i + 1) (by omega) k (by omega) _ (by rw [q_ul_s, d_f_s])
theorem d_m19 {V : q_V} (hW : v_W V) {k9 : q_S → q_G → Int32 → Option (Int64 × q_G × q_S)} {e : Nat} (he : e < V 0 0) {h : Int64} : ∀ (d i : Nat), i + d = 8 → ∀ (k : Nat), d < k → ∀ (μ : q_S) (g : q_G), m_A μ V → g 40 = d_f (o_e V e) h i → ∃ g' μ', zX4_digest_19 k9 (nI e) k μ g (nI i) = k9 μ' g' (nI (e + 1)) ∧ g' 40 = d_f (o_e V e) h 8 ∧ m_z μ μ' := by
  have hE := hW.E
  intro d
  induction d with
  | zero =>
    intro i hi k hk μ g hM hg
    obtain ⟨k, rfl⟩ : ∃ m, k = m + 1 := ⟨k - 1, by omega⟩
    have : i = 8 := by omega
    subst this
    refine ⟨g, μ, ?_, hg, m_z.rf⟩
    rw [zX4_digest_19_s]
    unfold jX4_digest_19
    rw [if_pos (by decide), a_lt', nI_1]
  | succ d ih =>
    intro i hi k hk μ g hM hg
    obtain ⟨k, rfl⟩ : ∃ m, k = m + 1 := ⟨k - 1, by omega⟩
    obtain ⟨μ1, r1, r2⟩ := m_aboutE hM hW he (w := i) (by omega)
    obtain ⟨g', μ', r3, r4, r5⟩ := ih (i + 1) (by omega) k (by omega) μ1 (q_ul g 40 (d_m (d_f (o_e V e) h i) (o_e V e i))) (r2.A hM hE) (by rw [q_ul_s, d_f_s])
    refine ⟨g', μ', ?_, r4, r2.tr r5⟩
    rw [zX4_digest_19_s]
    unfold jX4_digest_19
    rw [if_neg (by rw [show (8 : Int32) = nI 8 from rfl, a_le (by omega) (by omega)]; omega), r1, a_b2, d_mix hg, a_b1, a_lt', nI_1]
    exact r3
theorem d_m50 {μ : q_S} {V : q_V} {n : Nat} {c : Nat → Nat} {vr sp : Nat} (hW : v_W V) (hM : m_A μ V) (hP : p_M μ n c) (h11 : μ 11 0 = nI (V 10 0)) (h0 : μ 0 0 = nI vr) (h16 : μ 16 0 = nI sp) {h : Int64} : ∀ (d i : Nat), i + d = V 6 0 → ∀ (k : Nat), d < k → ∀ (g : q_G), g 40 = d_L V h i → ∃ g', zX4_digest_50 k μ g (nI i) = some (d_T V n c vr sp (d_L V h (V 6 0)), g', μ) := by
  have hL := hW.L
  have h24 := hP.2.1
  intro d
  induction d with
  | zero =>
    intro i hi k hk g hg
    obtain ⟨k, rfl⟩ : ∃ m, k = m + 1 := ⟨k - 1, by omega⟩
    have : i = V 6 0 := by omega
    subst this
    rw [zX4_digest_50_s]
    unfold jX4_digest_50
    rw [hM.1.2.1, if_pos ((a_le (by omega) (by omega)).mpr (by omega))]
    exact d_m90 (fun w hw => m_cnt hW hM h11 hP.1 h0 h16 (by omega)) hP n 0 (by omega) 70000 (by omega) g hg
  | succ d ih =>
    intro i hi k hk g hg
    obtain ⟨k, rfl⟩ : ∃ m, k = m + 1 := ⟨k - 1, by omega⟩
    rw [zX4_digest_50_s]
    unfold jX4_digest_50
    rw [hM.1.2.1, if_neg (by rw [a_le (by omega) (by omega)]; omega)]
    obtain ⟨g1, r1, r2⟩ := d_m60 hM hW (k50 := zX4_digest_50 k) (l := i) (by omega) (h := d_L V h i) 5 0 rfl 70000 (by omega) g hg
    obtain ⟨g2, r3⟩ := ih (i + 1) (by omega) k (by omega) g1 (by rw [r2, d_L_s])
    exact ⟨g2, r1.trans r3⟩
theorem d_m9 {V : q_V} {n : Nat} {c : Nat → Nat} {vr sp : Nat} (hW : v_W V) : ∀ (d i : Nat), i + d = V 0 0 → ∀ (k : Nat), d < k → ∀ (μ : q_S) (g : q_G), m_A μ V → p_M μ n c → μ 11 0 = nI (V 10 0) → μ 0 0 = nI vr → μ 16 0 = nI sp → g 40 = d_E V i → ∃ g' μ', zX4_digest_9 k μ g (nI i) = some (d_T V n c vr sp (d_L V (d_E V (V 0 0)) (V 6 0)), g', μ') ∧ m_z μ μ' := by
  have hE := hW.E
  have hL := hW.L
  intro d
  induction d with
  | zero =>
    intro i hi k hk μ g hM hP h11 h0 h16 hg
    obtain ⟨k, rfl⟩ : ∃ m, k = m + 1 := ⟨k - 1, by omega⟩
    have : i = V 0 0 := by omega
    subst this
    rw [zX4_digest_9_s]
    unfold jX4_digest_9
    rw [hM.1.1, if_pos ((a_le (by omega) (by omega)).mpr (by omega))]
    obtain ⟨g', r⟩ := d_m50 hW hM hP h11 h0 h16 (h := d_E V (V 0 0)) (V 6 0) 0 (by omega) 70000 (by omega) g hg
    exact ⟨g', μ, r, m_z.rf⟩
  | succ d ih =>
    intro i hi k hk μ g hM hP h11 h0 h16 hg
    obtain ⟨k, rfl⟩ : ∃ m, k = m + 1 := ⟨k - 1, by omega⟩
    rw [zX4_digest_9_s]
    unfold jX4_digest_9
    rw [hM.1.1, if_neg (by rw [a_le (by omega) (by omega)]; omega)]
    obtain ⟨g1, μ1, r1, r2, r3⟩ := d_m19 hW (k9 := zX4_digest_9 k) (e := i) (by omega) (h := d_E V i) 8 0 rfl 70000 (by omega) μ g hM hg
    obtain ⟨g2, μ2, r4, r5⟩ := ih (i + 1) (by omega) k (by omega) μ1 g1 (r3.A hM hE) (hP.fr (r3 17 0 (by decide) (by decide) (by decide)) (fun j => r3 18 j (by omega) (by omega) (by omega))) (by rw [r3 11 0 (by decide) (by decide) (by decide)]; exact h11) (by rw [r3 0 0 (by decide) (by decide) (by decide)]; exact h0) (by rw [r3 16 0 (by decide) (by decide) (by decide)]; exact h16) (by rw [r2, d_E_s])
    exact ⟨g2, μ2, r1.trans r4, r3.tr r5⟩
theorem o_digest {b : Nat} {s0 s1 s2 s3 μ : q_S} {g : q_G} (h : r_R b s0 s1 s2 s3 μ) : ∃ r g' μ', zX3_digest s0 s1 s2 = some r ∧ zX4_digest μ g = some (r, g', μ') ∧ r_R (b + 1) s0 s1 s2 s3 μ' := by
  obtain ⟨V, K, n, c, vr, sp, h⟩ := h
  have h' := h
  obtain ⟨⟨hA, hW, hM, h11⟩, ⟨hR, hP⟩, h3, h6, h9⟩ := h
  have hE := hW.E
  obtain ⟨g', μ', r1, r2⟩ := d_m9 (n := n) (c := c) (vr := vr) (sp := sp) hW (V 0 0) 0 (by omega) 70000 (by omega) μ (q_ul g 40 1019) hM hP h11 h3.2.1 h6.2.1 q_ul_s
  refine ⟨_, g', μ', d_c6 h' (V 0 0) 0 (by omega) 70000 (by omega), ?_, h'.upd hA hW (r2.A hM hE) (by rw [r2 11 0 (by decide) (by decide) (by decide)]; exact h11) (r_fr.z r2) id⟩
  unfold zX4_digest
  rw [a_lt']
  exact r1
