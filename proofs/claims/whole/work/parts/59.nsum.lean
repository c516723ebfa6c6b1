section OR
variable {σ : St} {a b L Lb c cb x y : Nat}
theorem vl_cmp {g g' : Nat → Nat} {n i : Nat} (hi : i < n) (hg : ∀ j, j < n → g j < BS) (he : ∀ j, i < j → j < n → g j = g' j) (hl : g i < g' i) : vl BS g n < vl BS g' n := by
  obtain ⟨d, rfl⟩ : ∃ d, n = (i + 1) + d := ⟨n - (i + 1), by omega⟩
  rw [vl_add, vl_add (i + 1) d]
  have e1 : vl BS (fun j => g (i + 1 + j)) d = vl BS (fun j => g' (i + 1 + j)) d := vl_congr (fun j hj => he (i + 1 + j) (by omega) (by omega))
  rw [e1]
  have h1 : vl BS g i < BS ^ i := vl_lt (fun j hj => hg j (by omega))
  have h2 : (g i + 1) * BS ^ i ≤ g' i * BS ^ i := Nat.mul_le_mul_right _ hl
  rw [Nat.add_mul, Nat.one_mul] at h2
  show vl BS g i + g i * BS ^ i + _ < vl BS g' i + g' i * BS ^ i + _
  omega
theorem t_order_loop {n : Nat} {g gb : Nat → Nat} {f fb : Nat → Int32} (h1 : σ.1 a = some (OO L n)) (h2 : σ.1 L = some (AA c f)) (h3 : ∀ j, j < n → f j = nI (g j)) (h4 : n ≤ c) (h5 : c ≤ 4000) (h6 : ∀ j, j < n → g j < BS) (k1 : σ.1 b = some (OO Lb n)) (k2 : σ.1 Lb = some (AA cb fb)) (k3 : ∀ j, j < n → fb j = nI (gb j)) (k4 : n ≤ cb) (k5 : cb ≤ 4000) (k6 : ∀ j, j < n → gb j < BS) : ∀ (k m : Nat), m < k → m ≤ n → (∃ i, i < m ∧ g i ≠ gb i ∧ (∀ j, i < j → j < m → g j = gb j) ∧ f_X2_order_L35 k σ a b (nI m + (-1)) = some (.inl (nI i))) ∨ ((∀ j, j < m → g j = gb j) ∧ f_X2_order_L35 k σ a b (nI m + (-1)) = some (.inr ())) := by
  intro k
  induction k with
  | zero => intro m h; omega
  | succ k ih =>
    intro m hk hm
    show (∃ i, i < m ∧ g i ≠ gb i ∧ _ ∧ b_X2_order_L35 (f_X2_order_L35 k) σ a b _ = _) ∨ (_ ∧ b_X2_order_L35 (f_X2_order_L35 k) σ a b _ = _)
    unfold b_X2_order_L35
    rcases Nat.eq_zero_or_pos m with w | w
    · subst w
      exact Or.inr ⟨fun j hj => by omega, q_t (by decide) rfl⟩
    · obtain ⟨i, rfl⟩ : ∃ i, m = i + 1 := ⟨m - 1, by omega⟩
      rw [pk_m1]
      have hi : i < n := by omega
      by_cases he : g i = gb i
      · rcases ih i (by omega) (by omega) with ⟨t, t1, t2, t3, t4⟩ | ⟨t1, t2⟩
        · refine Or.inl ⟨t, by omega, t2, fun j hj1 hj2 => ?_, ?_⟩
          · by_cases hj : j = i
            · rw [hj]; exact he
            · exact t3 j hj1 (by omega)
          · refine q_f (nI_pos (by omega)) ?_
            refine q_b1 (gR_eq h1 rfl) ?_
            refine q_b1 (ldI_eq h2 rfl (by omega) (by omega)) ?_
            refine q_b1 (gR_eq k1 rfl) ?_
            refine q_b1 (ldI_eq k2 rfl (by omega) (by omega)) ?_
            refine q_t (by rw [h3 i hi, k3 i hi, he]) ?_
            exact q_lt t4
        · refine Or.inr ⟨fun j hj => ?_, ?_⟩
          · by_cases hj2 : j = i
            · rw [hj2]; exact he
            · exact t1 j (by omega)
          · refine q_f (nI_pos (by omega)) ?_
            refine q_b1 (gR_eq h1 rfl) ?_
            refine q_b1 (ldI_eq h2 rfl (by omega) (by omega)) ?_
            refine q_b1 (gR_eq k1 rfl) ?_
            refine q_b1 (ldI_eq k2 rfl (by omega) (by omega)) ?_
            refine q_t (by rw [h3 i hi, k3 i hi, he]) ?_
            exact q_lt t2
      · refine Or.inl ⟨i, by omega, he, fun j _ _ => by omega, ?_⟩
        refine q_f (nI_pos (by omega)) ?_
        refine q_b1 (gR_eq h1 rfl) ?_
        refine q_b1 (ldI_eq h2 rfl (by omega) (by omega)) ?_
        refine q_b1 (gR_eq k1 rfl) ?_
        refine q_b1 (ldI_eq k2 rfl (by omega) (by omega)) ?_
        refine q_f ?_ rfl
        rw [h3 i hi, k3 i hi]
        exact fun z => he ((nI_eq (bs_lt (h6 i hi)) (bs_lt (k6 i hi))).mp z)
theorem t_order (ha : NV σ a L c x) (hb : NV σ b Lb cb y) : f_X2_order σ a b = some (if x < y then -1 else if x = y then 0 else 1) := by
  obtain ⟨n, g, f, h1, h2, h3, h4, h5, h6, h7, h8⟩ := ha.split
  obtain ⟨m, gb, fb, k1, k2, k3, k4, k5, k6, k7, k8⟩ := hb.split
  have hFU := FU_ge
  unfold f_X2_order
  refine q_b1 (gI_eq h1 rfl) ?_
  refine q_b1 (gI_eq k1 rfl) ?_
  by_cases hnm : n = m
  · subst hnm
    refine q_t rfl ?_
    refine q_b1 (gI_eq h1 rfl) ?_
    refine q_le (y := nI n + (-1)) (by
      rcases Nat.eq_zero_or_pos n with w | w
      · subst w; decide
      · obtain ⟨i, rfl⟩ : ∃ i, n = i + 1 := ⟨n - 1, by omega⟩
        rw [pk_m1, nI_pred]) ?_
    rcases t_order_loop h1 h2 h3 h4 h5 h6 k1 k2 k3 k4 k5 k6 FU n (by omega) (Nat.le_refl _) with ⟨i, i1, i2, i3, i4⟩ | ⟨i1, i2⟩
    · refine q_b1 i4 ?_
      refine q_b1 (gR_eq h1 rfl) ?_
      refine q_b1 (ldI_eq h2 rfl (by omega) (by omega)) ?_
      refine q_b1 (gR_eq k1 rfl) ?_
      refine q_b1 (ldI_eq k2 rfl (by omega) (by omega)) ?_
      rw [h3 i i1, k3 i i1]
      rcases Nat.lt_or_gt_of_ne i2 with w | w
      · have hlt : x < y := by rw [← h8, ← k8]; exact vl_cmp i1 h6 i3 w
        rw [if_pos hlt]
        exact q_t (nI_le (Nat.le_of_lt w) (bs_lt (k6 i i1))) rfl
      · have hlt : y < x := by rw [← h8, ← k8]; exact vl_cmp i1 k6 (fun j q1 q2 => (i3 j q1 q2).symm) w
        rw [if_neg (c := x < y) (by omega), if_neg (c := x = y) (by omega)]
        exact q_f (nI_ge w (bs_lt (h6 i i1))) rfl
    · refine q_b1 i2 ?_
      have hxy : x = y := by rw [← h8, ← k8]; exact vl_congr i1
      rw [if_neg (c := x < y) (by omega), if_pos hxy]
  · refine q_f (fun z => hnm ((nI_eq (by omega) (by omega)).mp z)) ?_
    refine q_b1 (gI_eq h1 rfl) ?_
    refine q_b1 (gI_eq k1 rfl) ?_
    have up : ∀ {n m : Nat} {g gb : Nat → Nat}, n < m → (∀ j, j < n → g j < BS) → (0 < m → 0 < gb (m - 1)) → vl BS g n < vl BS gb m := by
      intro n m g gb hlt q6 q7
      have q1 := vl_lt q6
      have q2 := nm_pos q7 (by omega)
      have q3 : BS ^ n ≤ BS ^ (m - 1) := Nat.pow_le_pow_right (by decide) (by omega)
      omega
    rcases Nat.lt_or_gt_of_ne hnm with w | w
    · have hlt : x < y := by rw [← h8, ← k8]; exact up w h6 k7
      rw [if_pos hlt]
      exact q_t (nI_le (Nat.le_of_lt w) (by omega)) rfl
    · have hlt : y < x := by rw [← h8, ← k8]; exact up w k6 h7
      rw [if_neg (c := x < y) (by omega), if_neg (c := x = y) (by omega)]
      exact q_f (nI_ge w (by omega)) rfl
end OR
/-! ===== sums ===== -/
def pad (n : Nat) (g : Nat → Nat) : Nat → Nat := fun j => if j < n then g j else 0
theorem pad_lt {n : Nat} {g : Nat → Nat} (h : ∀ j, j < n → g j < BS) (j : Nat) : pad n g j < BS := by
  unfold pad
  split
  · exact h j (by assumption)
  · decide
theorem pad_vl {n m : Nat} {g : Nat → Nat} (h : n ≤ m) : vl BS (pad n g) m = vl BS g n := by
  exact (vl_pad (g := pad n g) h (fun j q1 _ => if_neg (by omega))).trans (vl_congr (fun j hj => if_pos hj))
section SU
variable {σ : St} {a b d L Lb Ld c cb cd n nb nn : Nat} {gb gd : Nat → Nat}
theorem t_sum_loop {σ1 : St} {f0 fb fd : Nat → Int32} (ha : σ1.1 a = some (OO L n)) (hL : σ1.1 L = some (AA c f0)) (hb : σ1.1 b = some (OO Lb nb)) (hLb : σ1.1 Lb = some (AA cb fb)) (hd : σ1.1 d = some (OO Ld nn)) (hLd : σ1.1 Ld = some (AA cd fd)) (n1 : L ≠ Lb) (n2 : L ≠ Ld) (b3 : ∀ j, j < nb → fb j = nI (gb j)) (b4 : nb ≤ cb) (b5 : cb ≤ 4000) (b6 : ∀ j, j < nb → gb j < BS) (d3 : ∀ j, j < nn → fd j = nI (gd j)) (d4 : nn ≤ cd) (d5 : cd ≤ 4000) (d6 : ∀ j, j < nn → gd j < BS) {N : Nat} (hN : N < c) (hc : c ≤ 4000) :
    ∀ (k i v : Nat) (F : Nat → Int32) (G : Nat → Nat), N - i < k → i ≤ N → v ≤ 1 → (∀ j, j < i → F j = nI (G j) ∧ G j < BS) → vl BS G i + v * BS ^ i = vl BS (pad nb gb) i + vl BS (pad nn gd) i →
      ∃ F' G' v', v' ≤ 1 ∧ f_X2_becomeSum_L25 k (stH σ1 L (AA c F)) a b d (nI N) (nI v) (nI i) = some (nI v', stH σ1 L (AA c F'), 0, 0) ∧ (∀ j, j < N → F' j = nI (G' j) ∧ G' j < BS) ∧ vl BS G' N + v' * BS ^ N = vl BS (pad nb gb) N + vl BS (pad nn gd) N := by
  intro k
  induction k with
  | zero => intro i v F G h; omega
  | succ k ih =>
    intro i v F G hk hi hv g1 g2
    by_cases hiN : i = N
    · subst hiN
      refine ⟨F, G, v, hv, ?_, g1, g2⟩
      show b_X2_becomeSum_L25 (f_X2_becomeSum_L25 k) _ a b d _ _ _ = _
      unfold b_X2_becomeSum_L25
      exact q_t (nI_le (Nat.le_refl _) (by omega)) rfl
    · have hlt : i < N := by omega
      have eB : BS = 1000000000 := rfl
      have qa : (stH σ1 L (AA c F)).1 a = some (OO L n) := by rw [stH_n (ne_OA hL ha)]; exact ha
      have qb : (stH σ1 L (AA c F)).1 b = some (OO Lb nb) := by rw [stH_n (ne_OA hL hb)]; exact hb
      have qd : (stH σ1 L (AA c F)).1 d = some (OO Ld nn) := by rw [stH_n (ne_OA hL hd)]; exact hd
      have qLb : (stH σ1 L (AA c F)).1 Lb = some (AA cb fb) := by rw [stH_n n1.symm]; exact hLb
      have qLd : (stH σ1 L (AA c F)).1 Ld = some (AA cd fd) := by rw [stH_n n2.symm]; exact hLd
      have pb := pad_lt b6 i
      have pd := pad_lt d6 i
      have step : ∀ w u : Nat, w ≤ 1 → u < BS → u + w * BS = v + pad nb gb i + pad nn gd i → ∃ F' G' v', v' ≤ 1 ∧ f_X2_becomeSum_L25 k (stH σ1 L (AA c (upd F i (nI u)))) a b d (nI N) (nI w) (nI (i + 1)) = some (nI v', stH σ1 L (AA c F'), 0, 0) ∧ (∀ j, j < N → F' j = nI (G' j) ∧ G' j < BS) ∧ vl BS G' N + v' * BS ^ N = vl BS (pad nb gb) N + vl BS (pad nn gd) N := by
        intro w u hw hu he
        refine ih (i + 1) w (upd F i (nI u)) (fun j => if j = i then u else G j) (by omega) (by omega) hw (fun j hj => ?_) ?_
        · by_cases hj2 : j = i
          · subst hj2
            rw [pk_us, if_pos rfl]; exact ⟨rfl, hu⟩
          · rw [pk_un hj2, if_neg hj2]; exact g1 j (by omega)
        · show vl BS (fun j => if j = i then u else G j) i + (if i = i then u else G i) * BS ^ i + w * BS ^ (i + 1) = vl BS (pad nb gb) i + pad nb gb i * BS ^ i + (vl BS (pad nn gd) i + pad nn gd i * BS ^ i)
          rw [if_pos rfl, vl_congr (g' := G) (fun j hj => if_neg (by omega))]
          have e1 : u * BS ^ i + w * BS ^ (i + 1) = (v + pad nb gb i + pad nn gd i) * BS ^ i := by
            rw [← he, Nat.add_mul, Nat.pow_succ, Nat.mul_comm (BS ^ i) BS, Nat.mul_assoc]
          rw [Nat.add_mul, Nat.add_mul] at e1
          omega
      have hv2 : v + pad nb gb i + pad nn gd i < 2 ^ 31 := by omega
      by_cases hcar : v + pad nb gb i + pad nn gd i < BS
      · obtain ⟨F', G', v', s1, s2, s3, s4⟩ := step 0 (v + pad nb gb i + pad nn gd i) (by omega) hcar (by omega)
        refine ⟨F', G', v', s1, ?_, s3, s4⟩
        show b_X2_becomeSum_L25 (f_X2_becomeSum_L25 k) _ a b d _ _ _ = _
        unfold b_X2_becomeSum_L25
        refine q_f (nI_ge hlt (by omega)) ?_
        refine q_b1 (gI_eq qb rfl) ?_
        refine q_j1 (nI (pad nb gb i)) (fun kk => ?_) ?_
        · by_cases hb2 : i < nb
          · refine q_f (nI_ge hb2 (by omega)) ?_
            refine q_b1 (gR_eq qb rfl) ?_
            refine q_b1 (ldI_eq qLb rfl (by omega) (by omega)) ?_
            rw [b3 i hb2]; unfold pad; rw [if_pos hb2]
          · refine q_t (nI_le (by omega) (by omega)) ?_
            unfold pad; rw [if_neg hb2]; rfl
        refine q_le (nI_add _ _) ?_
        refine q_b1 (gI_eq qd rfl) ?_
        refine q_j1 (nI (pad nn gd i)) (fun kk => ?_) ?_
        · by_cases hb2 : i < nn
          · refine q_f (nI_ge hb2 (by omega)) ?_
            refine q_b1 (gR_eq qd rfl) ?_
            refine q_b1 (ldI_eq qLd rfl (by omega) (by omega)) ?_
            rw [d3 i hb2]; unfold pad; rw [if_pos hb2]
          · refine q_t (nI_le (by omega) (by omega)) ?_
            unfold pad; rw [if_neg hb2]; rfl
        refine q_le (nI_add _ _) ?_
        refine q_j1 (nI 0) (fun kk => q_t (nI_lt (b := BS) hcar (by decide)) rfl) ?_
        refine q_b1 (gR_eq qa rfl) ?_
        refine q_j1 (nI (v + pad nb gb i + pad nn gd i)) (fun kk => q_t rfl rfl) ?_
        refine q_b1 (stI_eq (i := i) stH_s rfl (by omega) (by omega)) ?_
        rw [stH_stH]
        exact q_le (nI_1 i) s2
      · obtain ⟨F', G', v', s1, s2, s3, s4⟩ := step 1 (v + pad nb gb i + pad nn gd i - BS) (by omega) (by omega) (by omega)
        refine ⟨F', G', v', s1, ?_, s3, s4⟩
        show b_X2_becomeSum_L25 (f_X2_becomeSum_L25 k) _ a b d _ _ _ = _
        unfold b_X2_becomeSum_L25
        refine q_f (nI_ge hlt (by omega)) ?_
        refine q_b1 (gI_eq qb rfl) ?_
        refine q_j1 (nI (pad nb gb i)) (fun kk => ?_) ?_
        · by_cases hb2 : i < nb
          · refine q_f (nI_ge hb2 (by omega)) ?_
            refine q_b1 (gR_eq qb rfl) ?_
            refine q_b1 (ldI_eq qLb rfl (by omega) (by omega)) ?_
            rw [b3 i hb2]; unfold pad; rw [if_pos hb2]
          · refine q_t (nI_le (by omega) (by omega)) ?_
            unfold pad; rw [if_neg hb2]; rfl
        refine q_le (nI_add _ _) ?_
        refine q_b1 (gI_eq qd rfl) ?_
        refine q_j1 (nI (pad nn gd i)) (fun kk => ?_) ?_
        · by_cases hb2 : i < nn
          · refine q_f (nI_ge hb2 (by omega)) ?_
            refine q_b1 (gR_eq qd rfl) ?_
            refine q_b1 (ldI_eq qLd rfl (by omega) (by omega)) ?_
            rw [d3 i hb2]; unfold pad; rw [if_pos hb2]
          · refine q_t (nI_le (by omega) (by omega)) ?_
            unfold pad; rw [if_neg hb2]; rfl
        refine q_le (nI_add _ _) ?_
        refine q_j1 (nI 1) (fun kk => q_f (nI_nlt (b := BS) (by omega) hv2) rfl) ?_
        refine q_b1 (gR_eq qa rfl) ?_
        refine q_j1 (nI (v + pad nb gb i + pad nn gd i - BS)) (fun kk => q_f (by decide) (by rw [show (1000000000 : Int32) = nI BS from rfl, pk_sub (by omega)])) ?_
        refine q_b1 (stI_eq (i := i) stH_s rfl (by omega) (by omega)) ?_
        rw [stH_stH]
        exact q_le (nI_1 i) s2
theorem t_sum {x y z : Nat} (hD : Dm σ) (h : NV σ a L c x) (hb : NV σ b Lb cb y) (hd : NV σ d Ld cd z) (nab : a ≠ b) (nad : a ≠ d) (n1 : L ≠ Lb) (n2 : L ≠ Ld) (hy : y < 10 ^ Em) (hz : z < 10 ^ Em) : Ye (f_X2_becomeSum σ a b d) (PN σ a L c (y + z)) := by
  obtain ⟨n, g0, f, h1, h2, h3, h4, h5, h6, h7, h8⟩ := h.split
  obtain ⟨m, gb, fb, k1, k2, k3, k4, k5, k6, k7, k8⟩ := hb.split
  obtain ⟨o, gd, fd, o1, o2, o3, o4, o5, o6, o7, o8⟩ := hd.split
  have hEm : Em = 17000 := rfl
  have hm : m ≤ 1900 := by
    rcases Nat.eq_zero_or_pos m with w | w
    · omega
    · have := limbs_le k7 k8 w hy
      omega
  have ho : o ≤ 1900 := by
    rcases Nat.eq_zero_or_pos o with w | w
    · omega
    · have := limbs_le o7 o8 w hz
      omega
  have hFU := FU_ge
  have eB : BS = 1000000000 := rfl
  have hM : max m o ≤ 1900 := Nat.max_le.mpr ⟨hm, ho⟩
  have hM1 := Nat.le_max_left m o
  have hM2 := Nat.le_max_right m o
  unfold f_X2_becomeSum
  refine e_ob h1 ?_
  refine e_b1 (gI_eq k1 rfl) ?_
  refine e_b1 (gI_eq o1 rfl) ?_
  refine e_b1 (j_max rfl rfl (by omega) (by omega)) ?_
  refine e_bd (t_makeRoom (m := max m o + 1) hD h1 h2 (nI_1 _) (by omega) (by omega)) ?_
  rintro _ σ2 kc sc ⟨L', c', f', m1, m2, m3, m4, m5, m6, m7, m8, m9, m10, -⟩
  have hc' : c' ≤ 4000 := by have h9 : max c (2 * (max m o + 1)) ≤ 4000 := Nat.max_le.mpr ⟨h5, by omega⟩; omega
  have hL' : L' ≠ a := ne_AO m2 m1
  have q1 : L' ≠ Lb := by
    rcases m7 with w | w
    · rw [w]; exact n1
    · have := hD.lt k2; omega
  have q2 : L' ≠ Ld := by
    rcases m7 with w | w
    · rw [w]; exact n2
    · have := hD.lt o2; omega
  obtain ⟨F', G', v', s1, s2, s3, s4⟩ := t_sum_loop (σ1 := σ2) (N := max m o) m1 m2 (m8.at hD k1 (fun z => nab z.symm)) (m8.at hD k2 (fun z => ne_AO k2 h1 z)) (m8.at hD o1 (fun z => nad z.symm)) (m8.at hD o2 (fun z => ne_AO o2 h1 z)) q1 q2 k3 k4 k5 k6 o3 o4 o5 o6 (by omega) hc' FU 0 0 f' (fun _ => 0) (by omega) (by omega) (by omega) (fun j hj => by omega) (by simp [vl])
  rw [stH_self m2] at s2
  refine e_bd0 s2 ?_
  have q3 : (stH σ2 L' (AA c' F')).1 a = some (OO L' n) := by rw [stH_n hL'.symm]; exact m1
  refine e_b1 (gR_eq q3 rfl) ?_
  refine e_b1 (stI_eq (i := max m o) stH_s rfl (by omega) (by omega)) ?_
  rw [stH_stH]
  have q4 : (stH σ2 L' (AA c' (upd F' (max m o) (nI v')))).1 a = some (OO L' n) := by rw [stH_n hL'.symm]; exact m1
  refine e_b1 (pF_eq q4 (Nat.le_of_ble_eq_true rfl)) ?_
  have hst : ([Value.ref L', .int (nI n)].set 1 (.int (nI (max m o) + 1))) = [.ref L', .int (nI (max m o + 1))] := by rw [nI_1]; rfl
  rw [hst]
  obtain ⟨σ3, t1, t2⟩ := fin_trim (σ := σ) (a := a) (L := L) (c := c) (N := max m o + 1) (k := kc) (s := sc) (F := upd F' (max m o) (nI v')) (G := fun j => if j = max m o then v' else G' j) m1 m2 m7 (m8.mono (fun q _ z => Or.inl z)) (fun j hj => by
    by_cases hj2 : j = max m o
    · rw [hj2, pk_us, if_pos rfl]
    · rw [pk_un hj2, if_neg hj2]; exact (s3 j (by omega)).1) m3 hc' (fun j hj => by
    show (if j = max m o then v' else G' j) < BS
    split
    · omega
    · exact (s3 j (by omega)).2) m4 m9 m10
  refine e_bd0 t1 ?_
  have hval : vl BS (fun j => if j = max m o then v' else G' j) (max m o + 1) = y + z := by
    show vl BS (fun j => if j = max m o then v' else G' j) (max m o) + (if max m o = max m o then v' else G' (max m o)) * BS ^ (max m o) = _
    rw [if_pos rfl, vl_congr (g' := G') (fun j hj => if_neg (by omega)), s4, pad_vl hM1, pad_vl hM2, k8, o8]
  rw [hval] at t2
  exact e_ret t2
end SU
