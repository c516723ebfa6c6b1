section MT
variable {σ : St} {o r : Nat} {X : Nat → Nat → Int32}
theorem t_mtrim_loop {n0 : Nat} {g : Nat → Nat} (hr : r < 4) (hn : n0 ≤ 16990) (h1 : ∀ j, j < n0 → X 5 (17000 * r + j) = nI (g j) ∧ g j < 10) : ∀ (k n : Nat), n < k → n ≤ n0 → ∃ n', n' ≤ n ∧ f_X6_trim_L2 k (mst σ o X) o (nI r) (nI n) = some (nI n') ∧ (∀ j, n' ≤ j → j < n → g j = 0) ∧ (0 < n' → 0 < g (n' - 1)) := by
  intro k
  induction k with
  | zero => intro n h; omega
  | succ k ih =>
    intro n hk hn0
    show ∃ n', n' ≤ n ∧ b_X6_trim_L2 (f_X6_trim_L2 k) _ o _ _ = _ ∧ _
    unfold b_X6_trim_L2
    rcases Nat.eq_zero_or_pos n with h | h
    · subst h
      exact ⟨0, Nat.le_refl _, q_t (by decide) rfl, fun j _ h => by omega, fun h => by omega⟩
    · obtain ⟨m, rfl⟩ : ∃ m, n = m + 1 := ⟨n - 1, by omega⟩
      obtain ⟨c1, c2⟩ := h1 m (by omega)
      by_cases hz : g m = 0
      · obtain ⟨n', a1, a2, a3, a4⟩ := ih m (by omega) (by omega)
        refine ⟨n', by omega, ?_, fun j hj hj2 => ?_, a4⟩
        · refine q_f (nI_nle (by omega) (by omega)) ?_
          refine q_b1 m_g4 ?_
          refine q_b1 (ld5 nI_r1 (by omega)) ?_
          refine q_t (by rw [c1, hz]; rfl) ?_
          exact q_le (pk_m1 m) a2
        · by_cases hjm : j = m
          · rw [hjm]; exact hz
          · exact a3 j hj (by omega)
      · refine ⟨m + 1, Nat.le_refl _, ?_, fun j _ h => by omega, fun _ => by rw [Nat.add_sub_cancel]; omega⟩
        refine q_f (nI_nle (by omega) (by omega)) ?_
        refine q_b1 m_g4 ?_
        refine q_b1 (ld5 nI_r1 (by omega)) ?_
        refine q_f ?_ rfl
        rw [c1]
        exact nI_ne0 (by omega) (by omega)
theorem t_mtrim {n : Nat} {g : Nat → Nat} {x y : Int32} (hr : r < 4) (hx : x = nI r) (hy : y = nI n) (hn : n ≤ 16990) (h1 : ∀ j, j < n → X 5 (17000 * r + j) = nI (g j) ∧ g j < 10) : ∃ X', f_X6_trim (mst σ o X) o x y = some ((), mst σ o X', 0, 0) ∧ Rw X' r (vl 10 g n) ∧ Ot (fun q => q = r) X X' ∧ X' 0 = X 0 := by
  subst hx hy
  have hF := FU_ge
  obtain ⟨n', a1, a2, a3, a4⟩ := t_mtrim_loop (σ := σ) (o := o) hr hn h1 FU n (by omega) (Nat.le_refl _)
  refine ⟨ups X 6 (upd (X 6) r (nI n')), ?_, ?_, Ot.m6, by rw [ups_n (by decide)]⟩
  · unfold f_X6_trim
    refine q_ob m_o ?_
    refine q_b1 a2 ?_
    refine q_b1 m_g5 ?_
    exact q_b1 (st6 rfl hr) rfl
  · rw [vl_pad a1 a3]
    refine Rw.of (by rw [ups_s, pk_us]) (by omega) (fun j hj => ?_) a4
    rw [ups_n (by decide)]
    exact h1 j (by omega)
theorem t_mraise_loop1 {n by' : Nat} {m0 : Nat → Int32} (hr : r < 4) (hn : n + by' ≤ 16990) : ∀ (k i : Nat) (m : Nat → Int32), i < k → i ≤ n → (∀ j, j < i → m (17000 * r + j) = m0 (17000 * r + j)) → (∀ j, i ≤ j → j < n → m (17000 * r + j + by') = m0 (17000 * r + j)) → (∀ q, (q < 17000 * r ∨ 17000 * (r + 1) ≤ q) → m q = m0 q) →
    ∃ m', f_X6_raise_L19 k (mst σ o (ups X 5 m)) o (nI r) (nI by') (nI i + (-1)) = some ((), mst σ o (ups X 5 m'), 0, 0) ∧ (∀ j, j < n → m' (17000 * r + j + by') = m0 (17000 * r + j)) ∧ (∀ q, (q < 17000 * r ∨ 17000 * (r + 1) ≤ q) → m' q = m0 q) := by
  intro k
  induction k with
  | zero => intro i m h; omega
  | succ k ih =>
    intro i m hk hi h1 h2 h3
    show ∃ m', b_X6_raise_L19 (f_X6_raise_L19 k) _ o _ _ _ = _ ∧ _
    unfold b_X6_raise_L19
    rcases Nat.eq_zero_or_pos i with h | h
    · subst h
      exact ⟨m, q_t (by decide) rfl, fun j hj => h2 j (Nat.zero_le _) hj, h3⟩
    · obtain ⟨e, rfl⟩ : ∃ e, i = e + 1 := ⟨i - 1, by omega⟩
      rw [pk_m1]
      obtain ⟨m', a1, a2, a3⟩ := ih e (upd m (17000 * r + e + by') (m (17000 * r + e))) (by omega) (by omega) (fun j hj => by rw [pk_un (by omega)]; exact h1 j (by omega)) (fun j hj hj2 => by
        by_cases hje : j = e
        · subst hje; rw [pk_us]; exact h1 j (by omega)
        · rw [pk_un (by omega)]; exact h2 j (by omega) hj2) (fun q hq => by rw [pk_un (by omega)]; exact h3 q hq)
      refine ⟨m', ?_, a2, a3⟩
      refine q_f (nI_pos (by omega)) ?_
      refine q_b1 m_g4 ?_
      refine q_b1 m_g4 ?_
      refine q_b1 (ld5 nI_r (by omega)) ?_
      refine q_b1 (st5 (i := 17000 * r + e + by') (by rw [nI_r, nI_add]) (by omega)) ?_
      rw [ups_ups, ups_s]
      exact q_lt a1
theorem t_mraise_loop2 {by' : Nat} {m0 : Nat → Int32} (hr : r < 4) (hn : by' ≤ 16990) : ∀ (k i : Nat) (m : Nat → Int32), by' - i < k → i ≤ by' → (∀ j, j < i → m (17000 * r + j) = 0) → (∀ q, (q < 17000 * r ∨ 17000 * r + by' ≤ q) → m q = m0 q) →
    ∃ m', f_X6_raise_L57 k (mst σ o (ups X 5 m)) o (nI r) (nI by') (nI i) = some ((), mst σ o (ups X 5 m'), 0, 0) ∧ (∀ j, j < by' → m' (17000 * r + j) = 0) ∧ (∀ q, (q < 17000 * r ∨ 17000 * r + by' ≤ q) → m' q = m0 q) := by
  intro k
  induction k with
  | zero => intro i m h; omega
  | succ k ih =>
    intro i m hk hi h1 h3
    show ∃ m', b_X6_raise_L57 (f_X6_raise_L57 k) _ o _ _ _ = _ ∧ _
    unfold b_X6_raise_L57
    by_cases h : i = by'
    · subst h
      exact ⟨m, q_t (nI_le (Nat.le_refl _) (by omega)) rfl, h1, h3⟩
    · obtain ⟨m', a1, a2, a3⟩ := ih (i + 1) (upd m (17000 * r + i) 0) (by omega) (by omega) (fun j hj => by
        by_cases hji : j = i
        · subst hji; rw [pk_us]
        · rw [pk_un (by omega)]; exact h1 j (by omega)) (fun q hq => by rw [pk_un (by omega)]; exact h3 q hq)
      refine ⟨m', ?_, a2, a3⟩
      refine q_f (nI_ge (by omega) (by omega)) ?_
      refine q_b1 m_g4 ?_
      refine q_b1 (st5 nI_r (by omega)) ?_
      rw [ups_ups, ups_s]
      exact q_le (nI_1 i) a1
theorem sz_mul {x k : Nat} (h : 0 < x) : sz (x * 10 ^ k) = sz x + k := by
  refine sz_eq (by have := sz_pos h; omega) ?_ ?_
  · rw [Nat.pow_add]
    exact Nat.mul_lt_mul_of_pos_right (sz_lt x) (Nat.pow_pos (by decide))
  · have h1 := sz_pos h
    rw [show sz x + k - 1 = sz x - 1 + k by omega, Nat.pow_add]
    exact Nat.mul_le_mul_right _ (sz_ge h)
theorem dg_mul_hi {x k j : Nat} : dg (x * 10 ^ k) (j + k) = dg x j := by
  unfold dg
  rw [Nat.pow_add, Nat.mul_comm (10 ^ j), Nat.mul_comm x, Nat.mul_div_mul_left _ _ (Nat.pow_pos (by decide))]
theorem dg_mul_lo {x k j : Nat} (h : j < k) : dg (x * 10 ^ k) j = 0 := by
  unfold dg
  obtain ⟨e, rfl⟩ : ∃ e, k = j + (e + 1) := ⟨k - j - 1, by omega⟩
  rw [Nat.pow_add, Nat.mul_left_comm, Nat.mul_div_cancel_left _ (Nat.pow_pos (by decide)), Nat.pow_succ, ← Nat.mul_assoc, Nat.mul_mod_left]
/-- raise -/
theorem t_mraise {x k : Nat} {y z : Int32} (hr : r < 4) (h : Rw X r x) (hy : y = nI r) (hz : z = nI k) (hk : 0 < x → sz x + k ≤ 16990) : ∃ X', f_X6_raise (mst σ o X) o y z = some ((), mst σ o X', 0, 0) ∧ Rw X' r (x * 10 ^ k) ∧ Ot (fun q => q = r) X X' ∧ X' 0 = X 0 := by
  subst hy hz
  have hF := FU_ge
  obtain ⟨h1, h2, h3⟩ := id h
  rcases Nat.eq_zero_or_pos x with hx | hx
  · subst hx
    refine ⟨X, ?_, by rw [Nat.zero_mul]; exact h, Ot.rf, rfl⟩
    unfold f_X6_raise
    refine q_ob m_o ?_
    refine q_b1 m_g5 ?_
    refine q_b1 (ld6 rfl hr) ?_
    exact q_t (by rw [h2]; rfl) rfl
  · have hk := hk hx
    have hs := sz_pos hx
    obtain ⟨m1, a1, a2, a3⟩ := t_mraise_loop1 (σ := σ) (o := o) (X := X) (n := sz x) (m0 := X 5) hr hk FU (sz x) (X 5) (by omega) (Nat.le_refl _) (fun _ _ => rfl) (fun j h1 h2 => by omega) (fun _ _ => rfl)
    obtain ⟨m2, b1, b2, b3⟩ := t_mraise_loop2 (σ := σ) (o := o) (X := X) (by' := k) (m0 := m1) hr (by omega) FU 0 m1 (by omega) (Nat.zero_le _) (fun j h => by omega) (fun _ _ => rfl)
    rw [ups_self] at a1
    have hsz := sz_mul (k := k) hx
    refine ⟨ups (ups X 5 m2) 6 (upd (X 6) r (nI (sz x + k))), ?_, ⟨by rw [hsz]; exact hk, by rw [ups_s, pk_us, hsz], fun j hj => ?_⟩, ?_, by rw [ups_n (by decide), ups_n (by decide)]⟩
    · unfold f_X6_raise
      refine q_ob m_o ?_
      refine q_b1 m_g5 ?_
      refine q_b1 (ld6 rfl hr) ?_
      rw [h2]
      refine q_f (nI_ne0 hs (by omega)) ?_
      refine q_b1 m_g5 ?_
      refine q_b1 (ld6 rfl hr) ?_
      rw [h2]
      refine q_le (y := nI (sz x) + (-1)) (Int32.sub_eq_add_neg ..) ?_
      refine q_bd0 a1 ?_
      refine q_bd0 b1 ?_
      refine q_b1 m_g5 ?_
      refine q_b1 (ld6 rfl hr) ?_
      rw [ups_n (by decide), h2, nI_add]
      refine q_b1 (st6 rfl hr) ?_
      rw [ups_n (by decide)]
    · rw [ups_n (by decide), ups_s]
      rw [hsz] at hj
      by_cases hjk : j < k
      · rw [b2 j hjk, dg_mul_lo hjk]; rfl
      · obtain ⟨e, rfl⟩ : ∃ e, j = e + k := ⟨j - k, by omega⟩
        rw [b3 _ (by omega), ← Nat.add_assoc, a2 e (by omega), h3 e (by omega), dg_mul_hi]
    · refine Ot.trans (Ot.m5 (r := r) (m := m2) (fun q hq => ?_)) ?_ (fun q h => h)
      · rw [b3 q (by omega), a3 q hq]
      · have := Ot.m6 (X := ups X 5 m2) (r := r) (v := nI (sz x + k))
        rw [ups_n (by decide)] at this
        exact this
theorem t_mzeros_loop {x : Nat} (hr : r < 4) (h : Rw X r x) : ∀ (k i : Nat), sz x - i < k → i ≤ sz x → (∀ j, j < i → dg x j = 0) → ∃ z, z ≤ sz x ∧ f_X6_zeros_L2 k (mst σ o X) o (nI r) (nI i) = some (nI z) ∧ (∀ j, j < z → dg x j = 0) ∧ (z < sz x → 0 < dg x z) := by
  obtain ⟨h1, h2, h3⟩ := h
  intro k
  induction k with
  | zero => intro i h; omega
  | succ k ih =>
    intro i hk hi hz
    show ∃ z, z ≤ sz x ∧ b_X6_zeros_L2 (f_X6_zeros_L2 k) _ o _ _ = _ ∧ _
    unfold b_X6_zeros_L2
    have pre : ldI (mst σ o X) (o + 6) (nI r) = some (nI (sz x)) := by rw [ld6 rfl hr, h2]
    by_cases he : i = sz x
    · refine ⟨i, by omega, ?_, hz, fun w => by omega⟩
      refine q_b1 m_g5 ?_
      refine q_b1 pre ?_
      exact q_t (nI_le (by omega) (by omega)) rfl
    · have hlt : i < sz x := by omega
      have hd := dg_lt x i
      by_cases h0 : dg x i = 0
      · obtain ⟨z, a1, a2, a3, a4⟩ := ih (i + 1) (by omega) (by omega) (fun j hj => by
          by_cases hji : j = i
          · rw [hji]; exact h0
          · exact hz j (by omega))
        refine ⟨z, a1, ?_, a3, a4⟩
        refine q_b1 m_g5 ?_
        refine q_b1 pre ?_
        refine q_f (nI_ge hlt (by omega)) ?_
        refine q_b1 m_g4 ?_
        refine q_b1 (ld5 nI_r (by omega)) ?_
        refine q_t (by rw [h3 i hlt, h0]; rfl) ?_
        exact q_le (nI_1 i) a2
      · refine ⟨i, by omega, ?_, hz, fun _ => by omega⟩
        refine q_b1 m_g5 ?_
        refine q_b1 pre ?_
        refine q_f (nI_ge hlt (by omega)) ?_
        refine q_b1 m_g4 ?_
        refine q_b1 (ld5 nI_r (by omega)) ?_
        refine q_f ?_ rfl
        rw [h3 i hlt]
        exact nI_ne0 (by omega) (by omega)
theorem ez_dg {x z : Nat} (h1 : ∀ j, j < z → dg x j = 0) (h2 : z ≤ sz x) (h3 : z < sz x → 0 < dg x z) : EZ x z := by
  have hd : ∀ k, (∀ j, j < k → dg x j = 0) → 10 ^ k ∣ x := by
    intro k hk
    rw [Nat.dvd_iff_mod_eq_zero, ← vl_dg]
    exact vl_zero hk
  refine ⟨fun h => ?_, fun h => ⟨hd z h1, fun w => ?_⟩⟩
  · subst h; rw [sz_0] at h2; omega
  · have hz : z < sz x := by
      rcases Nat.lt_or_ge z (sz x) with q | q
      · exact q
      · have : x = 0 := by
          rw [← vl_sz x]
          exact vl_zero (fun j hj => h1 j (by omega))
        omega
    have h4 := h3 hz
    rw [Nat.dvd_iff_mod_eq_zero, Nat.mod_pow_succ] at w
    have h5 : 0 < 10 ^ z * (x / 10 ^ z % 10) := Nat.mul_pos (Nat.pow_pos (by decide)) h4
    omega
theorem t_mzeros {x : Nat} {y : Int32} (hr : r < 4) (h : Rw X r x) (hy : y = nI r) : ∃ z, f_X6_zeros (mst σ o X) o y = some (nI z) ∧ EZ x z ∧ z ≤ sz x := by
  subst hy
  have hF := FU_ge
  have h9 := h.1
  obtain ⟨z, a1, a2, a3, a4⟩ := t_mzeros_loop (σ := σ) (o := o) hr h FU 0 (by omega) (Nat.zero_le _) (fun j h => by omega)
  refine ⟨z, ?_, ez_dg a3 a1 a4, a1⟩
  unfold f_X6_zeros
  refine q_ob m_o ?_
  exact q_b1 a2 rfl
end MT
