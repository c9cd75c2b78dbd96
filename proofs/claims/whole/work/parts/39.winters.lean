/-! comings and winters played through -/
def w_n (s : Nat) : Nat := (1103515245 * s + 12345) % 2147483648
theorem w_n_lt (s : Nat) : w_n s < 2147483648 := Nat.mod_lt _ (by omega)
def w_e (V : q_V) (s : Nat) : q_V := if v_wt V (w_n s / 65536 % V 0 0) (w_n (w_n s) / 65536 % V 6 0) = true then v_eat V (w_n s / 65536 % V 0 0) (w_n (w_n s) / 65536 % V 6 0) else V
def w_1 (V : q_V) (s k : Nat) : q_V := if k % 3 = 0 then v_u (v_wn (w_e V s) 4) 10 0 (w_e V s 10 0 + 1) else w_e V s
def w_r : Nat → Nat → q_V → Nat → q_V × Nat
  | 0, _, V, s => (V, s)
  | d + 1, k, V, s => w_r d (k + 1) (w_1 V s k) (w_n (w_n s))
theorem w_r_s {d k : Nat} {V : q_V} {s : Nat} : w_r (d + 1) k V s = w_r d (k + 1) (w_1 V s k) (w_n (w_n s)) := rfl
theorem v_W.c10 {V : q_V} (h : v_W V) (x : Nat) : v_W (v_u V 10 0 x) := by
  unfold v_W v_T v_lf at h ⊢
  simp only [v_u_k (V := V) (k := 10) (j := 0) (x := x) (k' := 0) (by decide), v_u_k (V := V) (k := 10) (j := 0) (x := x) (k' := 1) (by decide), v_u_k (V := V) (k := 10) (j := 0) (x := x) (k' := 2) (by decide), v_u_k (V := V) (k := 10) (j := 0) (x := x) (k' := 3) (by decide), v_u_k (V := V) (k := 10) (j := 0) (x := x) (k' := 4) (by decide), v_u_k (V := V) (k := 10) (j := 0) (x := x) (k' := 5) (by decide), v_u_k (V := V) (k := 10) (j := 0) (x := x) (k' := 6) (by decide), v_u_k (V := V) (k := 10) (j := 0) (x := x) (k' := 7) (by decide), v_u_k (V := V) (k := 10) (j := 0) (x := x) (k' := 8) (by decide), v_u_k (V := V) (k := 10) (j := 0) (x := x) (k' := 9) (by decide), v_u_k (V := V) (k := 10) (j := 0) (x := x) (k' := 11) (by decide), v_u_k (V := V) (k := 10) (j := 0) (x := x) (k' := 12) (by decide), v_u_k (V := V) (k := 10) (j := 0) (x := x) (k' := 13) (by decide), v_u_k (V := V) (k := 10) (j := 0) (x := x) (k' := 14) (by decide)]
  exact h
theorem m_A.c10 {μ : q_S} {V : q_V} (h : m_A μ V) (x : Nat) : m_A μ (v_u V 10 0 x) := by
  unfold m_A at h ⊢
  simp only [v_u_k (V := V) (k := 10) (j := 0) (x := x) (k' := 0) (by decide), v_u_k (V := V) (k := 10) (j := 0) (x := x) (k' := 1) (by decide), v_u_k (V := V) (k := 10) (j := 0) (x := x) (k' := 2) (by decide), v_u_k (V := V) (k := 10) (j := 0) (x := x) (k' := 3) (by decide), v_u_k (V := V) (k := 10) (j := 0) (x := x) (k' := 4) (by decide), v_u_k (V := V) (k := 10) (j := 0) (x := x) (k' := 5) (by decide), v_u_k (V := V) (k := 10) (j := 0) (x := x) (k' := 6) (by decide), v_u_k (V := V) (k := 10) (j := 0) (x := x) (k' := 7) (by decide), v_u_k (V := V) (k := 10) (j := 0) (x := x) (k' := 8) (by decide), v_u_k (V := V) (k := 10) (j := 0) (x := x) (k' := 9) (by decide), v_u_k (V := V) (k := 10) (j := 0) (x := x) (k' := 11) (by decide), v_u_k (V := V) (k := 10) (j := 0) (x := x) (k' := 12) (by decide), v_u_k (V := V) (k := 10) (j := 0) (x := x) (k' := 13) (by decide), v_u_k (V := V) (k := 10) (j := 0) (x := x) (k' := 14) (by decide)]
  exact h
theorem v_W.we {V : q_V} (h : v_W V) (s : Nat) : v_W (w_e V s) := by
  unfold w_e
  by_cases q : v_wt V (w_n s / 65536 % V 0 0) (w_n (w_n s) / 65536 % V 6 0) = true
  · rw [if_pos q]
    obtain ⟨w1, w2, w3, w4, w5⟩ := v_wt_of q
    exact h.eat w1 w2 w4
  · rw [if_neg q]; exact h
theorem v_W.w1k {V : q_V} (h : v_W V) (s k : Nat) : v_W (w_1 V s k) := by
  unfold w_1
  split
  · exact ((h.we s).wn 4).c10 _
  · exact h.we s
theorem w_e_k {V : q_V} {s k : Nat} (hk : k ≠ 3 ∧ k ≠ 4 ∧ k ≠ 5 ∧ k ≠ 7) (j : Nat) : w_e V s k j = V k j := by
  unfold w_e
  split
  · exact v_eat_k hk
  · rfl
theorem w_1_k {V : q_V} {s n k : Nat} (hk : k = 0 ∨ k = 6) (j : Nat) : w_1 V s n k j = V k j := by
  unfold w_1
  split
  · rw [v_u_k (by omega), v_wn_k (by omega), w_e_k (by omega)]
  · rw [w_e_k (by omega)]
theorem a_next {s : Nat} (hs : s < 2 ^ 31) : zX3_nextSeed (nI s) = some (nI (w_n s)) := by
  unfold zX3_nextSeed
  rw [nI_l hs, show (1103515245 : Int64) = lN 1103515245 from rfl, show (12345 : Int64) = lN 12345 from rfl, show (2147483648 : Int64) = lN 2147483648 from rfl, lN_mul, lN_add, pk_lRem (by omega) (by omega) (by omega), lN_i]
  rfl
theorem a_drawn {s c : Nat} (hs : s < 2 ^ 31) (hc : 0 < c) (hc2 : c ≤ 8) : zX3_drawn (nI s) (nI c) = some (nI (s / 65536 % c)) := by
  unfold zX3_drawn
  have hz : q_nz (nI c) = true := by
    unfold q_nz
    have : ¬ nI c = (0 : Int32) := fun z => by
      have := (a_eq (b := 0) (by omega) (by omega)).mp z
      omega
    simp [this]
  rw [if_pos (by rw [show (1 : Int32) = nI 1 from rfl, a_le (by omega) (by omega)]; omega), a_gd hz, show (65536 : Int32) = nI 65536 from rfl, pk_div hs (by omega) (by omega), pk_rem (by omega) hc (by omega)]
theorem lN_and31 {x : Nat} (hx : x < 2 ^ 63) : lN x &&& (2147483647 : Int64) = lN (x % 2147483648) := by
  apply Int64.toBitVec_inj.mp
  apply BitVec.eq_of_toNat_eq
  rw [Int64.toBitVec_and, BitVec.toNat_and, show ((2147483647 : Int64)).toBitVec.toNat = 2 ^ 31 - 1 by decide, Nat.and_two_pow_sub_one_eq_mod]
  show (BitVec.ofNat 64 x).toNat % 2 ^ 31 = (BitVec.ofNat 64 _).toNat
  rw [BitVec.toNat_ofNat, BitVec.toNat_ofNat, Nat.mod_eq_of_lt (show x < 2 ^ 64 by omega), Nat.mod_eq_of_lt (show x % 2147483648 < 2 ^ 64 by omega)]
theorem q_ul_s {g : q_G} {k : Nat} {v : Int64} : q_ul g k v k = v := by
  unfold q_ul
  rw [show Nat.beq k k = true from Nat.beq_refl k]
  rfl
theorem a_draw {g : q_G} {s c : Nat} (hg : g 26 = lN s) (hs : s < 2 ^ 31) (hc : 0 < c) (hc2 : c ≤ 8) : ∃ g', zX4_draw g (nI c) = some (nI (w_n s / 65536 % c), g') ∧ g' 26 = lN (w_n s) := by
  have hw := w_n_lt s
  refine ⟨q_ul g 26 (lN (w_n s)), ?_, q_ul_s⟩
  have e : (((1103515245 : Int64) * (g 26)) + (12345 : Int64)) &&& (2147483647 : Int64) = lN (w_n s) := by
    rw [hg, show (1103515245 : Int64) = lN 1103515245 from rfl, show (12345 : Int64) = lN 12345 from rfl, lN_mul, lN_add, lN_and31 (by omega)]
    rfl
  unfold zX4_draw
  have hz : q_nzl (nI c).toInt64 = true := by
    rw [nI_l (by omega)]
    unfold q_nzl
    have : ¬ lN c = (0 : Int64) := fun z => by
      have := (pk_lEQ (b := 0) (by omega) (by omega)).mp z
      omega
    simp [this]
  rw [e, a_lt', a_gd hz, q_ul_s, nI_l (by omega), show (65536 : Int64) = lN 65536 from rfl, pk_lDiv (by omega) (by omega) (by omega), pk_lRem (by omega) hc (by omega), lN_i]
theorem w_play {t : Nat} (ht : t ≤ 60) : ∀ (d k : Nat), k + d = t + 1 → ∀ (n : Nat), d < n → ∀ (σ : q_S) (V : q_V) (s : Nat), v_A σ V → v_W V → V 0 0 ≠ 0 → s < 2 ^ 31 → ∃ σ', zX3_playWinters_16 (nI t) n σ (nI s) (nI k) = some (nI (w_r d k V s).2, σ') ∧ v_A σ' (w_r d k V s).1 := by
  intro d
  induction d with
  | zero =>
    intro k hk n hn σ V s hA hW h0 hs
    obtain ⟨n, rfl⟩ : ∃ k, n = k + 1 := ⟨n - 1, by omega⟩
    refine ⟨σ, ?_, hA⟩
    rw [zX3_playWinters_16_s]
    unfold jX3_playWinters_16
    rw [if_pos ((a_lt (by omega) (by omega)).mpr (by omega))]
    rfl
  | succ d ih =>
    intro k hk n hn σ V s hA hW h0 hs
    obtain ⟨n, rfl⟩ : ∃ k, n = k + 1 := ⟨n - 1, by omega⟩
    have hE := hW.E
    have hL := hW.L
    have h6 : V 6 0 ≠ 0 := fun z => h0 (hW.1.2.2.mpr z)
    have hw1 := w_n_lt s
    have hw2 := w_n_lt (w_n s)
    have hme : w_n s / 65536 % V 0 0 < V 0 0 := Nat.mod_lt _ (by omega)
    have hml : w_n (w_n s) / 65536 % V 6 0 < V 6 0 := Nat.mod_lt _ (by omega)
    have tail : ∀ σ1, v_A σ1 (w_e V s) → ∃ σ', zX3_playWinters_83 (zX3_playWinters_16 (nI t) n) σ1 (nI (w_n (w_n s))) (nI k) = some (nI (w_r (d + 1) k V s).2, σ') ∧ v_A σ' (w_r (d + 1) k V s).1 := by
      intro σ1 hA1
      rw [w_r_s]
      have hW1 := hW.we s
      unfold zX3_playWinters_83
      rw [show (3 : Int32) = nI 3 from rfl, pk_rem (by omega) (by omega) (by omega)]
      have go : ∀ σ2, v_A σ2 (w_1 V s k) → ∃ σ', zX3_playWinters_16 (nI t) n σ2 (nI (w_n (w_n s))) (nI (k + 1)) = some (nI (w_r d (k + 1) (w_1 V s k) (w_n (w_n s))).2, σ') ∧ v_A σ' (w_r d (k + 1) (w_1 V s k) (w_n (w_n s))).1 := fun σ2 h2 => ih (k + 1) (by omega) n (by omega) σ2 _ _ h2 (hW.w1k s k) (by rw [w_1_k (by omega)]; exact h0) (by omega)
      by_cases q : k % 3 = 0
      · obtain ⟨σ2, k1, hA2⟩ := c_passWinter hA1 hW1
        rw [if_pos (show nI (k % 3) = 0 by rw [q]; rfl), k1, a_b1, a_lt', nI_1]
        refine go σ2 ?_
        unfold w_1
        rw [if_pos q]
        exact hA2
      · rw [if_neg (show ¬ nI (k % 3) = (0 : Int32) from fun z => q ((a_eq (b := 0) (by omega) (by omega)).mp z)), a_lt', nI_1]
        refine go σ1 ?_
        unfold w_1
        rw [if_neg q]
        exact hA1
    rw [zX3_playWinters_16_s]
    unfold jX3_playWinters_16
    rw [if_neg (by rw [a_lt (by omega) (by omega)]; omega), a_next hs, a_b1, hA 0 0 (by decide), hA 6 0 (by decide), a_drawn (by omega) (by omega) (by omega), a_b1, a_next (by omega), a_b1, a_drawn (by omega) (by omega) (by omega), a_b1, c_wouldTake hA hW (by omega) (by omega), a_b1]
    by_cases q : v_wt V (w_n s / 65536 % V 0 0) (w_n (w_n s) / 65536 % V 6 0) = true
    · obtain ⟨σ1, k1, hA1⟩ := c_takeWhole hA hW hme hml
      rw [if_pos q, if_neg (by decide), k1, a_b1]
      exact tail σ1 (by unfold w_e; rw [if_pos q]; exact hA1)
    · rw [if_neg q, if_pos rfl]
      exact tail σ (by unfold w_e; rw [if_neg q]; exact hA)
def w_an (V : q_V) (t s : Nat) (x : Int32) : Int32 := if x = 0 then nI (v_pc ((w_r t 1 V s).1 7 0) 10) else if x = 1 then nI (v_su ((w_r t 1 V s).1 4) 4) else nI (w_r t 1 V s).2
theorem w_r_W : ∀ (d k : Nat) (V : q_V) (s : Nat), v_W V → s < 2 ^ 31 → v_W (w_r d k V s).1 ∧ (w_r d k V s).2 < 2 ^ 31 := by
  intro d
  induction d with
  | zero => intro k V s h hs; exact ⟨h, hs⟩
  | succ d ih => intro k V s h hs; rw [w_r_s]; exact ih _ _ _ (h.w1k s k) (w_n_lt _)
theorem c_winters {σ2 σ4 : q_S} {V : q_V} (hA : v_A σ2 V) (hW : v_W V) (h0 : V 0 0 ≠ 0) {t s : Nat} (ht0 : 1 ≤ t) (ht : t ≤ 60) (hs : s < 2 ^ 31) {x : Int32} (hx0 : ¬ x < 0) (hx : x ≤ 2) : ∃ σ4', zX3_winters σ2 σ4 (nI t) (nI s) x = some (w_an V t s x, σ4') := by
  obtain ⟨y, e1, hA1⟩ := c_copyFrom (σ0 := σ4) hA hW
  obtain ⟨σ', e2, hA2⟩ := w_play ht t 1 (by omega) 70000 (by omega) y V s hA1 hW h0 hs
  obtain ⟨hW2, hs2⟩ := w_r_W t 1 V s hW hs
  have hb := hW2.bL
  refine ⟨σ', ?_⟩
  unfold zX3_winters zX3_playWinters
  have e2' : zX3_playWinters_16 (nI t) 70000 y (nI s) (1 : Int32) = some (nI (w_r t 1 V s).2, σ') := e2
  rw [if_neg (by rw [show (1 : Int32) = nI 1 from rfl, a_lt (by omega) (by omega)]; omega), if_neg (by rw [show (60 : Int32) = nI 60 from rfl, a_lt (by omega) (by omega)]; omega), if_neg (a_neg hs), if_neg hx0, if_pos hx, c_isRead hA hW, a_b1, if_neg h0, if_neg (by decide), e1, a_b1, e2', a_b2]
  unfold w_an
  by_cases z : x = 0
  · rw [if_pos z, if_pos z, hA2 7 0 (by decide), a_pc _ (by omega), a_b1]
  · rw [if_neg z, if_neg z]
    by_cases z1 : x = 1
    · rw [if_pos z1, if_pos z1, c_sumOf (g := (w_r t 1 V s).1 4) (fun j hj => hA2 4 j hj), a_b1]
    · rw [if_neg z1, if_neg z1]

theorem w_comes {μ0 : q_S} (hS : m_S μ0) {t : Nat} (ht : t ≤ 60) (x : Int32) : ∀ (d k : Nat), k + d = t + 1 → ∀ (n : Nat), d < n → ∀ (μ : q_S) (g : q_G) (V : q_V) (s : Nat), m_fr μ0 μ → m_A μ V → v_W V → V 0 0 ≠ 0 → s < 2 ^ 31 → g 26 = lN s → ∃ g' μ', zX4_wintersNow_13 (nI t) x n μ g (nI k) = some ((if x = 0 then nI (v_pc ((w_r d k V s).1 7 0) 10) else if x = 1 then nI (v_su ((w_r d k V s).1 4) 4) else nI (w_r d k V s).2), g', μ') ∧ m_q μ0 μ' := by
  intro d
  induction d with
  | zero =>
    intro k hk n hn μ g V s hf hA hW h0 hs hg
    obtain ⟨n, rfl⟩ : ∃ k, n = k + 1 := ⟨n - 1, by omega⟩
    obtain ⟨μ', k1, hq⟩ := m_load hS hf
    refine ⟨g, μ', ?_, hq⟩
    rw [zX4_wintersNow_13_s]
    unfold jX4_wintersNow_13
    simp only [a_lt']
    rw [if_pos ((a_lt (by omega) (by omega)).mpr (by omega)), m_leftMany hA hW, a_b1, m_carriesAll hA hW, a_b1, k1, a_b1, hA.1.2.1, m_eatenMany hW, hg, lN_i]
    show _ = some ((if x = 0 then nI (v_pc (V 7 0) 10) else if x = 1 then nI (v_su (V 4) 4) else nI s), g, μ')
    by_cases z : x = 0
    · rw [if_pos z, if_pos z]
    · rw [if_neg z, if_neg z]
      by_cases z1 : x = 1
      · rw [if_pos z1, if_pos z1]
      · rw [if_neg z1, if_neg z1]
  | succ d ih =>
    intro k hk n hn μ g V s hf hA hW h0 hs hg
    obtain ⟨n, rfl⟩ : ∃ k, n = k + 1 := ⟨n - 1, by omega⟩
    have hE := hW.E
    have hL := hW.L
    have h6 : V 6 0 ≠ 0 := fun z => h0 (hW.1.2.2.mpr z)
    have hw1 := w_n_lt s
    have hw2 := w_n_lt (w_n s)
    have hme : w_n s / 65536 % V 0 0 < V 0 0 := Nat.mod_lt _ (by omega)
    have hml : w_n (w_n s) / 65536 % V 6 0 < V 6 0 := Nat.mod_lt _ (by omega)
    obtain ⟨g1, d1, hg1⟩ := a_draw (c := V 0 0) hg hs (by omega) (by omega)
    obtain ⟨g2, d2, hg2⟩ := a_draw (c := V 6 0) hg1 (by omega) (by omega) (by omega)
    rw [w_r_s]
    have tail : ∀ μ1, m_fr μ0 μ1 → m_A μ1 (w_e V s) → ∃ g' μ', zX4_wintersNow_58 (zX4_wintersNow_13 (nI t) x n) μ1 g2 (nI k) = some ((if x = 0 then nI (v_pc ((w_r d (k + 1) (w_1 V s k) (w_n (w_n s))).1 7 0) 10) else if x = 1 then nI (v_su ((w_r d (k + 1) (w_1 V s k) (w_n (w_n s))).1 4) 4) else nI (w_r d (k + 1) (w_1 V s k) (w_n (w_n s))).2), g', μ') ∧ m_q μ0 μ' := by
      intro μ1 hf1 hA1
      have hW1 := hW.we s
      unfold zX4_wintersNow_58
      rw [show (3 : Int32) = nI 3 from rfl, pk_rem (by omega) (by omega) (by omega)]
      have go : ∀ μ2, m_fr μ0 μ2 → m_A μ2 (w_1 V s k) → _ := fun μ2 hf2 h2 => ih (k + 1) (by omega) n (by omega) μ2 g2 _ (w_n (w_n s)) hf2 h2 (hW.w1k s k) (by rw [w_1_k (by omega)]; exact h0) (by omega) hg2
      by_cases q : k % 3 = 0
      · obtain ⟨μ2, k1, hA2, hf2⟩ := m_passWinter hA1 hW1
        rw [if_pos (show nI (k % 3) = 0 by rw [q]; rfl), k1, a_b1, a_lt', nI_1]
        refine go μ2 (hf1.tr hf2) ?_
        unfold w_1
        rw [if_pos q]
        exact hA2.c10 _
      · rw [if_neg (show ¬ nI (k % 3) = (0 : Int32) from fun z => q ((a_eq (b := 0) (by omega) (by omega)).mp z)), a_lt', nI_1]
        refine go μ1 hf1 ?_
        unfold w_1
        rw [if_neg q]
        exact hA1
    rw [zX4_wintersNow_13_s]
    unfold jX4_wintersNow_13
    rw [if_neg (by rw [a_lt (by omega) (by omega)]; omega), hA.1.1, hA.1.2.1, d1, a_b2, d2, a_b2, m_would hA hW hme hml, a_b1]
    by_cases q : v_wt V (w_n s / 65536 % V 0 0) (w_n (w_n s) / 65536 % V 6 0) = true
    · obtain ⟨μ1, k1, hA1, hf1⟩ := m_eats hA hW hme hml
      rw [if_pos q, if_neg (by decide), k1, a_b1]
      exact tail μ1 (hf.tr hf1) (by unfold w_e; rw [if_pos q]; exact hA1)
    · rw [if_neg q, if_pos rfl]
      exact tail μ hf (by unfold w_e; rw [if_neg q]; exact hA)
theorem m_wintersNow {μ : q_S} {g : q_G} {V : q_V} (hA : m_A μ V) (hW : v_W V) (h0 : V 0 0 ≠ 0) {t s : Nat} (ht0 : 1 ≤ t) (ht : t ≤ 60) (hs : s < 2 ^ 31) (x : Int32) : ∃ g' μ', zX4_wintersNow μ g (nI t) (nI s) x = some (w_an V t s x, g', μ') ∧ m_z μ μ' := by
  obtain ⟨μ1, h1, hsv, hS⟩ := m_save μ
  obtain ⟨g', μ', h2, hq⟩ := w_comes hS ht x t 1 (by omega) 70000 (by omega) μ1 (q_ul g 26 (lN s)) V s m_fr.rf (hA.sv hsv) hW h0 hs q_ul_s
  refine ⟨g', μ', ?_, m_z.of hsv hq⟩
  unfold zX4_wintersNow
  rw [h1, a_b1, a_lt', nI_l hs]
  exact h2
