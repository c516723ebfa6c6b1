section PR
variable {σ : St} {a b d L Lb Ld c cb cd x y z n nb nd : Nat} {gb gd : Nat → Nat}
theorem L_i (v : Nat) : (lN v).toInt32 = nI v := lN_i v
theorem dL {v : Nat} (h : v < 2 ^ 63) : dvL (lN v) 1000000000 = some (lN (v / BS)) := dvL_eq (b := BS) rfl rfl h (by decide) (by decide)
theorem mL (v : Nat) : (lN v - lN (v / BS) * 1000000000 : Int64).toInt32 = nI (v % BS) := by
  rw [show (1000000000 : Int64) = lN BS from rfl, lN_mul, lN_sub (Nat.div_mul_le_self _ _), lN_i]
  congr 1
  have := Nat.mod_add_div v BS
  rw [Nat.mul_comm BS] at this
  omega
theorem mulB {u t : Nat} (hu : u < BS) (ht : t < BS) : u * t + 2 * BS < 2 ^ 62 := by
  have h1 : u * t ≤ BS * BS := Nat.mul_le_mul (Nat.le_of_lt hu) (Nat.le_of_lt ht)
  have h2 : BS * BS + 2 * BS < 2 ^ 62 := by decide
  omega
theorem carryB {u t w v : Nat} (hu : u < BS) (ht : t < BS) (hw : w < BS) (hv : v < BS) : (u * t + w + v) / BS < BS := by
  rw [Nat.div_lt_iff_lt_mul (by decide)]
  have h1 : u * t ≤ (BS - 1) * (BS - 1) := Nat.mul_le_mul (by omega) (by omega)
  have h2 : (BS - 1) * (BS - 1) + (BS - 1) + (BS - 1) < BS * BS := by decide
  omega
theorem t_at_loop {f0 fd : Nat → Int32} {t s N A : Nat} {G0 : Nat → Nat} (hL : σ.1 L = some (AA c f0)) (hLd : σ.1 Ld = some (AA cd fd)) (n1 : L ≠ Ld) (d3 : ∀ j, j < nd → fd j = nI (gd j)) (d4 : nd ≤ cd) (d5 : cd ≤ 4000) (d6 : ∀ j, j < nd → gd j < BS) (ht : t < BS) (hN : nd + s ≤ N) (hc : N ≤ c) (hc4 : c ≤ 4000) :
    ∀ (k i v : Nat) (F : Nat → Int32) (G : Nat → Nat), nd - i < k → i ≤ nd → v < BS → (∀ j, j < N → F j = nI (G j) ∧ G j < BS) → (∀ j, s + i ≤ j → j < N → G j = G0 j) → vl BS G N + v * BS ^ (s + i) = A + t * vl BS gd i * BS ^ s →
      ∃ F' G' v', v' < BS ∧ f_X2_addTimes_L12 k (stH σ L (AA c F)) Ld (nI nd) (lN t) (nI s) L (lN v) (nI i) = some (lN v', stH σ L (AA c F'), 0, 0) ∧ (∀ j, j < N → F' j = nI (G' j) ∧ G' j < BS) ∧ (∀ j, s + nd ≤ j → j < N → G' j = G0 j) ∧ vl BS G' N + v' * BS ^ (s + nd) = A + t * vl BS gd nd * BS ^ s := by
  intro k
  induction k with
  | zero => intro i v F G h; omega
  | succ k ih =>
    intro i v F G hk hi hv g1 g0 g2
    show ∃ F' G' v', v' < BS ∧ b_X2_addTimes_L12 (f_X2_addTimes_L12 k) _ Ld _ _ _ L _ _ = _ ∧ _
    unfold b_X2_addTimes_L12
    have eB : BS = 1000000000 := rfl
    by_cases hin : i = nd
    · subst hin
      exact ⟨F, G, v, hv, q_t (nI_le (Nat.le_refl _) (by omega)) rfl, g1, g0, g2⟩
    · have hlt : i < nd := by omega
      have hG := (g1 (s + i) (by omega)).2
      have hgd := d6 i hlt
      have hb := mulB hgd ht
      have hcar := carryB hgd ht hG hv
      have qLd : (stH σ L (AA c F)).1 Ld = some (AA cd fd) := by rw [stH_n n1.symm]; exact hLd
      have hmod : (gd i * t + G (s + i) + v) % BS < BS := Nat.mod_lt _ (by decide)
      obtain ⟨F', G', v', s1, s2, s3, s4, s5⟩ := ih (i + 1) ((gd i * t + G (s + i) + v) / BS) (upd F (s + i) (nI ((gd i * t + G (s + i) + v) % BS))) (up1 G (s + i) ((gd i * t + G (s + i) + v) % BS)) (by omega) (by omega) hcar (cells_upd g1 hmod) (fun j q1 q2 => by unfold up1; rw [if_neg (by omega)]; exact g0 j (by omega) q2) (by
        have e1 := vl_upd (B := BS) (G := G) (p := s + i) (d := (gd i * t + G (s + i) + v) % BS) N (by omega)
        show vl BS (up1 G (s + i) ((gd i * t + G (s + i) + v) % BS)) N + (gd i * t + G (s + i) + v) / BS * BS ^ (s + i + 1) = A + t * (vl BS gd i + gd i * BS ^ i) * BS ^ s
        have e2 : (gd i * t + G (s + i) + v) % BS * BS ^ (s + i) + (gd i * t + G (s + i) + v) / BS * BS ^ (s + i + 1) = (gd i * t + G (s + i) + v) * BS ^ (s + i) := by
          rw [Nat.pow_succ, Nat.mul_comm (BS ^ (s + i)) BS, ← Nat.mul_assoc, ← Nat.add_mul, Nat.mul_comm _ BS, Nat.mod_add_div]
        rw [Nat.add_mul, Nat.add_mul] at e2
        have e3 : t * (vl BS gd i + gd i * BS ^ i) * BS ^ s = t * vl BS gd i * BS ^ s + gd i * t * BS ^ (s + i) := by
          rw [Nat.mul_add, Nat.add_mul, Nat.pow_add]
          congr 1
          rw [Nat.mul_comm (gd i) t, Nat.mul_assoc, Nat.mul_assoc, Nat.mul_assoc, Nat.mul_comm (BS ^ i) (BS ^ s)]
        rw [e3]
        omega)
      refine ⟨F', G', v', s1, ?_, s3, s4, s5⟩
      refine q_f (nI_ge hlt (by omega)) ?_
      refine q_b1 (ldI_eq (i := i) qLd rfl (by omega) (by omega)) ?_
      refine q_b1 (ldI_eq (i := s + i) stH_s (by rw [nI_add, Nat.add_comm]) (by omega) (by omega)) ?_
      refine q_le (y := lN (gd i * t + G (s + i) + v)) (by rw [d3 i hlt, (g1 (s + i) (by omega)).1, nI_l (bs_lt hgd), nI_l (bs_lt hG), lN_mul, lN_add, lN_add]) ?_
      refine q_b1 (dL (by omega)) ?_
      refine q_b1 (stI_eq (i := s + i) stH_s (by rw [nI_add, Nat.add_comm]) (by omega) (by omega)) ?_
      rw [mL, stH_stH]
      exact q_le (nI_1 i) s2
theorem t_addTimes {f0 fd F : Nat → Int32} {t s N m : Nat} {G : Nat → Nat} (ha : σ.1 a = some (OO L m)) (hL : σ.1 L = some (AA c f0)) (hLd : σ.1 Ld = some (AA cd fd)) (n1 : L ≠ Ld) (d3 : ∀ j, j < nd → fd j = nI (gd j)) (d4 : nd ≤ cd) (d5 : cd ≤ 4000) (d6 : ∀ j, j < nd → gd j < BS) (ht : t < BS) (hN : nd + s < N) (hc : N ≤ c) (hc4 : c ≤ 4000) (g1 : ∀ j, j < N → F j = nI (G j) ∧ G j < BS) (g0 : ∀ j, s + nd ≤ j → j < N → G j = 0) :
    ∃ F' G', f_X2_addTimes (stH σ L (AA c F)) a Ld (nI nd) (lN t) (nI s) = some ((), stH σ L (AA c F'), 0, 0) ∧ (∀ j, j < N → F' j = nI (G' j) ∧ G' j < BS) ∧ (∀ j, s + nd + 1 ≤ j → j < N → G' j = 0) ∧ vl BS G' N = vl BS G N + t * vl BS gd nd * BS ^ s := by
  have hFU := FU_ge
  have qa : (stH σ L (AA c F)).1 a = some (OO L m) := by rw [stH_n (ne_OA hL ha)]; exact ha
  obtain ⟨F', G', v', s1, s2, s3, s4, s5⟩ := t_at_loop (A := vl BS G N) (G0 := G) (s := s) hL hLd n1 d3 d4 d5 d6 ht (by omega) hc hc4 FU 0 0 F G (by omega) (by omega) (by decide) g1 (fun j _ _ => rfl) (by simp [vl])
  have hz : G' (s + nd) = 0 := by rw [s4 (s + nd) (by omega) (by omega)]; exact g0 _ (by omega) (by omega)
  have e1 := vl_upd (B := BS) (G := G') (p := s + nd) (d := v') N (by omega)
  rw [hz, Nat.zero_mul, Nat.add_zero] at e1
  refine ⟨upd F' (s + nd) (nI v'), up1 G' (s + nd) v', ?_, cells_upd s3 s1, fun j q1 q2 => ?_, by omega⟩
  · unfold f_X2_addTimes
    refine q_ob qa ?_
    refine q_b1 (gR_eq qa rfl) ?_
    refine q_bd0 s2 ?_
    refine q_b1 (stI_eq (i := s + nd) stH_s (by rw [nI_add, Nat.add_comm]) (by omega) (by omega)) ?_
    rw [L_i, stH_stH]
  · unfold up1
    rw [if_neg (by omega), s4 j (by omega) q2]
    exact g0 j (by omega) q2
theorem t_prod_loop {f0 fb fd : Nat → Int32} {m : Nat} (ha : σ.1 a = some (OO L m)) (hL : σ.1 L = some (AA c f0)) (hb : σ.1 b = some (OO Lb nb)) (hLb : σ.1 Lb = some (AA cb fb)) (hd : σ.1 d = some (OO Ld nd)) (hLd : σ.1 Ld = some (AA cd fd)) (n1 : L ≠ Lb) (n2 : L ≠ Ld) (b3 : ∀ j, j < nb → fb j = nI (gb j)) (b4 : nb ≤ cb) (b5 : cb ≤ 4000) (b6 : ∀ j, j < nb → gb j < BS) (d3 : ∀ j, j < nd → fd j = nI (gd j)) (d4 : nd ≤ cd) (d5 : cd ≤ 4000) (d6 : ∀ j, j < nd → gd j < BS) (hc : nb + nd ≤ c) (hc4 : c ≤ 4000) :
    ∀ (k i : Nat) (F : Nat → Int32) (G : Nat → Nat), nb - i < k → i ≤ nb → (∀ j, j < nb + nd → F j = nI (G j) ∧ G j < BS) → (∀ j, i + nd ≤ j → j < nb + nd → G j = 0) → vl BS G (nb + nd) = vl BS gb i * vl BS gd nd →
      ∃ F' G', f_X2_becomeProduct_L23 k (stH σ L (AA c F)) a b d (nI (nb + nd)) (nI i) = some ((), stH σ L (AA c F'), 0, 0) ∧ (∀ j, j < nb + nd → F' j = nI (G' j) ∧ G' j < BS) ∧ vl BS G' (nb + nd) = vl BS gb nb * vl BS gd nd := by
  intro k
  induction k with
  | zero => intro i F G h; omega
  | succ k ih =>
    intro i F G hk hi g1 g0 g2
    show ∃ F' G', b_X2_becomeProduct_L23 (f_X2_becomeProduct_L23 k) _ a b d _ _ = _ ∧ _
    unfold b_X2_becomeProduct_L23
    have qa : (stH σ L (AA c F)).1 a = some (OO L m) := by rw [stH_n (ne_OA hL ha)]; exact ha
    have qb : (stH σ L (AA c F)).1 b = some (OO Lb nb) := by rw [stH_n (ne_OA hL hb)]; exact hb
    have qd : (stH σ L (AA c F)).1 d = some (OO Ld nd) := by rw [stH_n (ne_OA hL hd)]; exact hd
    have qLb : (stH σ L (AA c F)).1 Lb = some (AA cb fb) := by rw [stH_n n1.symm]; exact hLb
    by_cases hin : i = nb
    · subst hin
      refine ⟨F, G, ?_, g1, g2⟩
      refine q_b1 (gI_eq qb rfl) ?_
      exact q_t (nI_le (Nat.le_refl _) (by omega)) rfl
    · have hlt : i < nb := by omega
      have hgi := b6 i hlt
      have next : ∀ (F1 : Nat → Int32) (G1 : Nat → Nat), (∀ j, j < nb + nd → F1 j = nI (G1 j) ∧ G1 j < BS) → (∀ j, i + nd + 1 ≤ j → j < nb + nd → G1 j = 0) → vl BS G1 (nb + nd) = vl BS G (nb + nd) + gb i * vl BS gd nd * BS ^ i → ∃ F' G', f_X2_becomeProduct_L23 k (stH σ L (AA c F1)) a b d (nI (nb + nd)) (nI (i + 1)) = some ((), stH σ L (AA c F'), 0, 0) ∧ (∀ j, j < nb + nd → F' j = nI (G' j) ∧ G' j < BS) ∧ vl BS G' (nb + nd) = vl BS gb nb * vl BS gd nd := by
        intro F1 G1 q1 q2 q3
        refine ih (i + 1) F1 G1 (by omega) (by omega) q1 (fun j w1 w2 => q2 j (by omega) w2) ?_
        rw [q3, g2]
        show _ = (vl BS gb i + gb i * BS ^ i) * vl BS gd nd
        rw [Nat.add_mul, Nat.mul_right_comm (gb i)]
      by_cases hz : gb i = 0
      · obtain ⟨F', G', s1, s2, s3⟩ := next F G g1 (fun j w1 w2 => g0 j (by omega) w2) (by rw [hz, Nat.zero_mul, Nat.zero_mul, Nat.add_zero])
        refine ⟨F', G', ?_, s2, s3⟩
        refine q_b1 (gI_eq qb rfl) ?_
        refine q_f (nI_ge hlt (by omega)) ?_
        refine q_b1 (gR_eq qb rfl) ?_
        refine q_b1 (ldI_eq (i := i) qLb rfl (by omega) (by omega)) ?_
        refine q_j1 (stH σ L (AA c F)) (fun kk => q_t (by rw [b3 i hlt, hz]; rfl) rfl) ?_
        exact q_le (nI_1 i) s1
      · obtain ⟨F1, G1, p1, p2, p3, p4⟩ := t_addTimes (t := gb i) (s := i) (N := nb + nd) ha hL hLd n2 d3 d4 d5 d6 hgi (by omega) hc hc4 g1 (fun j w1 w2 => g0 j (by omega) w2)
        obtain ⟨F', G', s1, s2, s3⟩ := next F1 G1 p2 p3 p4
        refine ⟨F', G', ?_, s2, s3⟩
        refine q_b1 (gI_eq qb rfl) ?_
        refine q_f (nI_ge hlt (by omega)) ?_
        refine q_b1 (gR_eq qb rfl) ?_
        refine q_b1 (ldI_eq (i := i) qLb rfl (by omega) (by omega)) ?_
        refine q_j1 (stH σ L (AA c F1)) (fun kk => ?_) ?_
        · refine q_f (by rw [b3 i hlt]; exact fun w => hz ((nI_z hgi).mp w)) ?_
          refine q_b1 (gR_eq qd rfl) ?_
          refine q_b1 (gI_eq qd rfl) ?_
          refine q_b1 (gR_eq qb rfl) ?_
          refine q_b1 (ldI_eq (i := i) qLb rfl (by omega) (by omega)) ?_
          rw [b3 i hlt, nI_l (bs_lt hgi)]
          exact q_bd0 p1 rfl
        exact q_le (nI_1 i) s1
theorem t_product (hD : Dm σ) (h : NV σ a L c x) (hb : NV σ b Lb cb y) (hd : NV σ d Ld cd z) (nab : a ≠ b) (nad : a ≠ d) (n1 : L ≠ Lb) (n2 : L ≠ Ld) (hy : y < 10 ^ 8500) (hz : z < 10 ^ 8500) : Ye (f_X2_becomeProduct σ a b d) (PN σ a L c (y * z)) := by
  obtain ⟨n, g0, f, h1, h2, h3, h4, h5, h6, h7, h8⟩ := h.split
  obtain ⟨m, gb, fb, k1, k2, k3, k4, k5, k6, k7, k8⟩ := hb.split
  obtain ⟨o, gd, fd, o1, o2, o3, o4, o5, o6, o7, o8⟩ := hd.split
  have hm : m ≤ 945 := by
    rcases Nat.eq_zero_or_pos m with w | w
    · omega
    · have := limbs_le k7 k8 w hy
      clear hy hz
      omega
  have ho : o ≤ 945 := by
    rcases Nat.eq_zero_or_pos o with w | w
    · omega
    · have := limbs_le o7 o8 w hz
      clear hy hz
      omega
  clear hy hz
  have hFU := FU_ge
  unfold f_X2_becomeProduct
  refine e_ob h1 ?_
  refine e_b1 (gI_eq k1 rfl) ?_
  refine e_b1 (gI_eq o1 rfl) ?_
  refine e_le (nI_add m o) ?_
  refine e_bd (t_makeRoom (m := m + o) hD h1 h2 rfl (by omega) (by omega)) ?_
  rintro _ σ2 kc sc ⟨L', c', f', m1, m2, m3, m4, m5, m6, m7, m8, m9, m10, -⟩
  have hc' : c' ≤ 4000 := by have h9 : max c (2 * (m + o)) ≤ 4000 := Nat.max_le.mpr ⟨h5, by omega⟩; omega
  have hL' : L' ≠ a := ne_AO m2 m1
  have q1 : L' ≠ Lb := by
    rcases m7 with w | w
    · rw [w]; exact n1
    · have := hD.lt k2; omega
  have q2 : L' ≠ Ld := by
    rcases m7 with w | w
    · rw [w]; exact n2
    · have := hD.lt o2; omega
  refine e_bd0 (t_empty (m := m + o) m1 m2 rfl m3 (by omega)) ?_
  obtain ⟨F', G', s1, s2, s3⟩ := t_prod_loop (σ := σ2) m1 m2 (m8.at hD k1 (fun z => nab z.symm)) (m8.at hD k2 (fun z => ne_AO k2 h1 z)) (m8.at hD o1 (fun z => nad z.symm)) (m8.at hD o2 (fun z => ne_AO o2 h1 z)) q1 q2 k3 k4 k5 k6 o3 o4 o5 o6 m3 hc' FU 0 (zeroTo f' (m + o)) (fun _ => 0) (by omega) (by omega) (fun j hj => ⟨by unfold zeroTo; rw [if_pos hj]; rfl, by decide⟩) (fun _ _ _ => rfl) (by rw [vl_zero (fun _ _ => rfl)]; simp [vl])
  refine e_bd0 s1 ?_
  have q3 : (stH σ2 L' (AA c' F')).1 a = some (OO L' n) := by rw [stH_n hL'.symm]; exact m1
  refine e_b1 (pF_eq q3 (Nat.le_of_ble_eq_true rfl)) ?_
  obtain ⟨σ3, t1, t2⟩ := fin_trim (σ := σ) (a := a) (L := L) (c := c) (N := m + o) (k := kc) (s := sc) (F := F') (G := G') m1 m2 m7 (m8.mono (fun q _ z => Or.inl z)) (fun j hj => (s2 j hj).1) m3 hc' (fun j hj => (s2 j hj).2) m4 m9 m10
  refine e_bd0 t1 ?_
  rw [s3, k8, o8] at t2
  exact e_ret t2
end PR
