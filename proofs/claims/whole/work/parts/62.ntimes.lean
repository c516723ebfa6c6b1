section ST
variable {σ : St} {a L Lr c cr n t fm s N A : Nat} {gd : Nat → Nat}
theorem stB1 {u t v : Nat} (hu : u < 2 * BS) (ht : t < BS) (hv : v ≤ 2 * BS) : (u * t + v) / BS + 1 ≤ 2 * BS ∧ u * t + v < 2 ^ 62 := by
  have h1 : u * t ≤ (2 * BS - 1) * (BS - 1) := Nat.mul_le_mul (by omega) (by omega)
  have e1 : (2 * BS - 1) * (BS - 1) + 2 * BS < 2 * BS * BS := by decide
  have e2 : 2 * BS * BS < 2 ^ 62 := by decide
  have h2 : (u * t + v) / BS < 2 * BS := by
    rw [Nat.div_lt_iff_lt_mul (by decide)]
    omega
  omega
/-- subtractTimes: the row's limbs from fm to n, times t, are taken off those at s, s + 1 .. ; v is still to be taken above -/
theorem t_st_loop {f0 fr : Nat → Int32} {G0 : Nat → Nat} {sh : Nat} (hs : s = fm + sh) (hL : σ.1 L = some (AA c f0)) (hR : σ.1 Lr = some (AA cr fr)) (n1 : L ≠ Lr) (d3 : ∀ j, fm ≤ j → j < n → fr j = nI (gd j)) (d4 : n ≤ cr) (d5 : cr ≤ 4000) (d6 : ∀ j, fm ≤ j → j < n → gd j < 2 * BS) (ht : t < BS) (hN : n + sh ≤ N) (hc : N ≤ c) (hc4 : c ≤ 4000) :
    ∀ (k e v : Nat) (F : Nat → Int32) (G : Nat → Nat), n - (fm + e) < k → fm + e ≤ n → v ≤ 2 * BS → (∀ j, j < N → F j = nI (G j) ∧ G j < BS) → (∀ j, (j < s ∨ s + e ≤ j) → j < N → G j = G0 j) → vl BS G N + t * vl BS (fun i => gd (fm + i)) e * BS ^ s = A + v * BS ^ (s + e) →
      ∃ F' G' v', v' ≤ 2 * BS ∧ f_X2_subtractTimes_L12 k (stH σ L (AA c F)) Lr (nI n) (lN t) (nI sh) L (lN v) (nI (fm + e)) = some (lN v', stH σ L (AA c F'), 0, 0) ∧ (∀ j, j < N → F' j = nI (G' j) ∧ G' j < BS) ∧ (∀ j, (j < s ∨ n + sh ≤ j) → j < N → G' j = G0 j) ∧ vl BS G' N + t * vl BS (fun i => gd (fm + i)) (n - fm) * BS ^ s = A + v' * BS ^ (n + sh) := by
  intro k
  induction k with
  | zero => intro e v F G h; omega
  | succ k ih =>
    intro e v F G hk hi hv g1 g0 g2
    show ∃ F' G' v', v' ≤ 2 * BS ∧ b_X2_subtractTimes_L12 (f_X2_subtractTimes_L12 k) _ Lr _ _ _ L _ _ = _ ∧ _
    unfold b_X2_subtractTimes_L12
    have eB : BS = 1000000000 := rfl
    by_cases hin : fm + e = n
    · refine ⟨F, G, v, hv, q_t (nI_le (by omega) (by omega)) rfl, g1, fun j q1 q2 => g0 j (by omega) q2, ?_⟩
      rw [show n - fm = e by omega, show n + sh = s + e by omega]
      exact g2
    · have hlt : fm + e < n := by omega
      have hG := (g1 (s + e) (by omega)).2
      have hgd := d6 (fm + e) (by omega) hlt
      obtain ⟨hc1, hb⟩ := stB1 hgd ht hv
      have qR : (stH σ L (AA c F)).1 Lr = some (AA cr fr) := by rw [stH_n n1.symm]; exact hR
      have hpm : (gd (fm + e) * t + v) % BS < BS := Nat.mod_lt _ (by decide)
      have hdm := Nat.mod_add_div (gd (fm + e) * t + v) BS
      have next : ∀ w u : Nat, w ≤ 2 * BS → u < BS → u + gd (fm + e) * t + v = G (s + e) + w * BS → ∃ F' G' v', v' ≤ 2 * BS ∧ f_X2_subtractTimes_L12 k (stH σ L (AA c (upd F (s + e) (nI u)))) Lr (nI n) (lN t) (nI sh) L (lN w) (nI (fm + (e + 1))) = some (lN v', stH σ L (AA c F'), 0, 0) ∧ (∀ j, j < N → F' j = nI (G' j) ∧ G' j < BS) ∧ (∀ j, (j < s ∨ n + sh ≤ j) → j < N → G' j = G0 j) ∧ vl BS G' N + t * vl BS (fun i => gd (fm + i)) (n - fm) * BS ^ s = A + v' * BS ^ (n + sh) := by
        intro w u hw hu he
        refine ih (e + 1) w (upd F (s + e) (nI u)) (up1 G (s + e) u) (by omega) (by omega) hw (cells_upd g1 hu) (fun j q1 q2 => by unfold up1; rw [if_neg (by omega)]; exact g0 j (by omega) q2) ?_
        have e1 := vl_upd (B := BS) (G := G) (p := s + e) (d := u) N (by omega)
        show vl BS (up1 G (s + e) u) N + t * (vl BS (fun i => gd (fm + i)) e + gd (fm + e) * BS ^ e) * BS ^ s = A + w * BS ^ (s + e + 1)
        have e2 : (u + gd (fm + e) * t + v) * BS ^ (s + e) = (G (s + e) + w * BS) * BS ^ (s + e) := by rw [he]
        have e3 : t * (vl BS (fun i => gd (fm + i)) e + gd (fm + e) * BS ^ e) * BS ^ s = t * vl BS (fun i => gd (fm + i)) e * BS ^ s + gd (fm + e) * t * BS ^ (s + e) := by
          rw [Nat.mul_add, Nat.add_mul, Nat.pow_add]
          congr 1
          rw [Nat.mul_comm (gd (fm + e)) t, Nat.mul_assoc, Nat.mul_assoc, Nat.mul_assoc, Nat.mul_comm (BS ^ e) (BS ^ s)]
        have e4 : w * BS * BS ^ (s + e) = w * BS ^ (s + e + 1) := by rw [Nat.pow_succ, Nat.mul_comm (BS ^ (s + e)) BS, Nat.mul_assoc]
        rw [Nat.add_mul, Nat.add_mul, Nat.add_mul, e4] at e2
        rw [e3]
        omega
      have pre1 : ((nI (gd (fm + e))).toInt64 * lN t + lN v : Int64) = lN (gd (fm + e) * t + v) := by rw [nI_l (by omega), lN_mul, lN_add]
      by_cases hge : (gd (fm + e) * t + v) % BS ≤ G (s + e)
      · obtain ⟨F', G', v', s1, s2, s3, s4, s5⟩ := next ((gd (fm + e) * t + v) / BS) (G (s + e) - (gd (fm + e) * t + v) % BS) (by omega) (by omega) (by rw [Nat.mul_comm _ BS]; omega)
        refine ⟨F', G', v', s1, ?_, s3, s4, s5⟩
        refine q_f (nI_ge hlt (by omega)) ?_
        refine q_b1 (ldI_eq (i := fm + e) qR rfl (by omega) (by omega)) ?_
        refine q_le (y := lN (gd (fm + e) * t + v)) (by rw [d3 (fm + e) (by omega) hlt, pre1]) ?_
        refine q_b1 (dL (by omega)) ?_
        refine q_b1 (ldI_eq (i := s + e) stH_s (by rw [nI_add]; congr 1; omega) (by omega) (by omega)) ?_
        refine q_le (y := nI (G (s + e) - (gd (fm + e) * t + v) % BS)) (by rw [(g1 (s + e) (by omega)).1, mL, pk_sub hge]) ?_
        refine q_j1 (lN ((gd (fm + e) * t + v) / BS), nI (G (s + e) - (gd (fm + e) * t + v) % BS)) (fun kk => q_t (nI_pos' (by omega)) rfl) ?_
        refine q_b1 (stI_eq (i := s + e) stH_s (by rw [nI_add]; congr 1; omega) (by omega) (by omega)) ?_
        rw [stH_stH]
        exact q_le (nI_1 (fm + e)) s2
      · obtain ⟨F', G', v', s1, s2, s3, s4, s5⟩ := next ((gd (fm + e) * t + v) / BS + 1) (G (s + e) + BS - (gd (fm + e) * t + v) % BS) (by omega) (by omega) (by rw [Nat.add_mul, Nat.one_mul, Nat.mul_comm _ BS]; omega)
        refine ⟨F', G', v', s1, ?_, s3, s4, s5⟩
        refine q_f (nI_ge hlt (by omega)) ?_
        refine q_b1 (ldI_eq (i := fm + e) qR rfl (by omega) (by omega)) ?_
        refine q_le (y := lN (gd (fm + e) * t + v)) (by rw [d3 (fm + e) (by omega) hlt, pre1]) ?_
        refine q_b1 (dL (by omega)) ?_
        refine q_b1 (ldI_eq (i := s + e) stH_s (by rw [nI_add]; congr 1; omega) (by omega) (by omega)) ?_
        refine q_le (y := nI (G (s + e)) - nI ((gd (fm + e) * t + v) % BS)) (by rw [(g1 (s + e) (by omega)).1, mL]) ?_
        refine q_j1 (lN ((gd (fm + e) * t + v) / BS + 1), nI (G (s + e) + BS - (gd (fm + e) * t + v) % BS)) (fun kk => ?_) ?_
        · refine q_f (dif_lt (by omega) (by omega)) ?_
          refine q_le (dif_fix (by omega)) ?_
          exact q_le (lN_1 _) rfl
        refine q_b1 (stI_eq (i := s + e) stH_s (by rw [nI_add]; congr 1; omega) (by omega) (by omega)) ?_
        rw [stH_stH]
        exact q_le (nI_1 (fm + e)) s2
theorem t_st {f0 fr F : Nat → Int32} {G : Nat → Nat} {sh m : Nat} (ha : σ.1 a = some (OO L m)) (hL : σ.1 L = some (AA c f0)) (hR : σ.1 Lr = some (AA cr fr)) (n1 : L ≠ Lr) (hfn : fm ≤ n) (d3 : ∀ j, fm ≤ j → j < n → fr j = nI (gd j)) (d4 : n ≤ cr) (d5 : cr ≤ 4000) (d6 : ∀ j, fm ≤ j → j < n → gd j < 2 * BS) (ht : t < BS) (hN : n + sh ≤ N) (hc : N ≤ c) (hc4 : c ≤ 4000) (g1 : ∀ j, j < N → F j = nI (G j) ∧ G j < BS) :
    ∃ F' G' v', v' ≤ 2 * BS ∧ f_X2_subtractTimes (stH σ L (AA c F)) a Lr (nI fm) (nI n) (lN t) (nI sh) = some (lN v', stH σ L (AA c F'), 0, 0) ∧ (∀ j, j < N → F' j = nI (G' j) ∧ G' j < BS) ∧ (∀ j, (j < fm + sh ∨ n + sh ≤ j) → j < N → G' j = G j) ∧ vl BS G' N + t * vl BS (fun i => gd (fm + i)) (n - fm) * BS ^ (fm + sh) = vl BS G N + v' * BS ^ (n + sh) := by
  have hFU := FU_ge
  have qa : (stH σ L (AA c F)).1 a = some (OO L m) := by rw [stH_n (ne_OA hL ha)]; exact ha
  obtain ⟨F', G', v', s1, s2, s3, s4, s5⟩ := t_st_loop (A := vl BS G N) (G0 := G) (s := fm + sh) rfl hL hR n1 d3 d4 d5 d6 ht hN hc hc4 FU 0 0 F G (by omega) (by omega) (by omega) g1 (fun j _ _ => rfl) (by simp [vl])
  refine ⟨F', G', v', s1, ?_, s3, s4, s5⟩
  unfold f_X2_subtractTimes
  refine q_ob qa ?_
  refine q_b1 (gR_eq qa rfl) ?_
  exact q_bd0 s2 rfl
/-- addBack -/
theorem t_ab_loop {f0 fr : Nat → Int32} {G0 : Nat → Nat} {sh : Nat} (hs : s = fm + sh) (hL : σ.1 L = some (AA c f0)) (hR : σ.1 Lr = some (AA cr fr)) (n1 : L ≠ Lr) (d3 : ∀ j, fm ≤ j → j < n → fr j = nI (gd j)) (d4 : n ≤ cr) (d5 : cr ≤ 4000) (d6 : ∀ j, fm ≤ j → j < n → gd j < 2 * BS) (hN : n + sh ≤ N) (hc : N ≤ c) (hc4 : c ≤ 4000) :
    ∀ (k e v : Nat) (F : Nat → Int32) (G : Nat → Nat), n - (fm + e) < k → fm + e ≤ n → v ≤ 3 → (∀ j, j < N → F j = nI (G j) ∧ G j < BS) → (∀ j, (j < s ∨ s + e ≤ j) → j < N → G j = G0 j) → vl BS G N + v * BS ^ (s + e) = A + vl BS (fun i => gd (fm + i)) e * BS ^ s →
      ∃ F' G' v', v' ≤ 3 ∧ f_X2_addBack_L12 k (stH σ L (AA c F)) Lr (nI n) (nI sh) L (lN v) (nI (fm + e)) = some (lN v', stH σ L (AA c F'), 0, 0) ∧ (∀ j, j < N → F' j = nI (G' j) ∧ G' j < BS) ∧ (∀ j, (j < s ∨ n + sh ≤ j) → j < N → G' j = G0 j) ∧ vl BS G' N + v' * BS ^ (n + sh) = A + vl BS (fun i => gd (fm + i)) (n - fm) * BS ^ s := by
  intro k
  induction k with
  | zero => intro e v F G h; omega
  | succ k ih =>
    intro e v F G hk hi hv g1 g0 g2
    show ∃ F' G' v', v' ≤ 3 ∧ b_X2_addBack_L12 (f_X2_addBack_L12 k) _ Lr _ _ L _ _ = _ ∧ _
    unfold b_X2_addBack_L12
    have eB : BS = 1000000000 := rfl
    by_cases hin : fm + e = n
    · refine ⟨F, G, v, hv, q_t (nI_le (by omega) (by omega)) rfl, g1, fun j q1 q2 => g0 j (by omega) q2, ?_⟩
      rw [show n - fm = e by omega, show n + sh = s + e by omega]
      exact g2
    · have hlt : fm + e < n := by omega
      have hG := (g1 (s + e) (by omega)).2
      have hgd := d6 (fm + e) (by omega) hlt
      have qR : (stH σ L (AA c F)).1 Lr = some (AA cr fr) := by rw [stH_n n1.symm]; exact hR
      have hpm : (G (s + e) + gd (fm + e) + v) % BS < BS := Nat.mod_lt _ (by decide)
      have hdm := Nat.mod_add_div (G (s + e) + gd (fm + e) + v) BS
      have hq3 : (G (s + e) + gd (fm + e) + v) / BS ≤ 3 := Nat.le_of_lt_succ ((Nat.div_lt_iff_lt_mul (by decide)).mpr (by omega))
      obtain ⟨F', G', v', s1, s2, s3, s4, s5⟩ := ih (e + 1) ((G (s + e) + gd (fm + e) + v) / BS) (upd F (s + e) (nI ((G (s + e) + gd (fm + e) + v) % BS))) (up1 G (s + e) ((G (s + e) + gd (fm + e) + v) % BS)) (by omega) (by omega) hq3 (cells_upd g1 hpm) (fun j q1 q2 => by unfold up1; rw [if_neg (by omega)]; exact g0 j (by omega) q2) (by
        have e1 := vl_upd (B := BS) (G := G) (p := s + e) (d := (G (s + e) + gd (fm + e) + v) % BS) N (by omega)
        show vl BS (up1 G (s + e) ((G (s + e) + gd (fm + e) + v) % BS)) N + (G (s + e) + gd (fm + e) + v) / BS * BS ^ (s + e + 1) = A + (vl BS (fun i => gd (fm + i)) e + gd (fm + e) * BS ^ e) * BS ^ s
        have e2 : (G (s + e) + gd (fm + e) + v) % BS * BS ^ (s + e) + (G (s + e) + gd (fm + e) + v) / BS * BS ^ (s + e + 1) = (G (s + e) + gd (fm + e) + v) * BS ^ (s + e) := by
          rw [Nat.pow_succ, Nat.mul_comm (BS ^ (s + e)) BS, ← Nat.mul_assoc, ← Nat.add_mul, Nat.mul_comm _ BS, Nat.mod_add_div]
        rw [Nat.add_mul (G (s + e) + gd (fm + e)), Nat.add_mul] at e2
        have e3 : (vl BS (fun i => gd (fm + i)) e + gd (fm + e) * BS ^ e) * BS ^ s = vl BS (fun i => gd (fm + i)) e * BS ^ s + gd (fm + e) * BS ^ (s + e) := by
          rw [Nat.add_mul, Nat.pow_add]
          congr 1
          rw [Nat.mul_assoc, Nat.mul_comm (BS ^ e) (BS ^ s)]
        rw [e3]
        omega)
      refine ⟨F', G', v', s1, ?_, s3, s4, s5⟩
      refine q_f (nI_ge hlt (by omega)) ?_
      refine q_b1 (ldI_eq (i := s + e) stH_s (by rw [nI_add]; congr 1; omega) (by omega) (by omega)) ?_
      refine q_b1 (ldI_eq (i := fm + e) qR rfl (by omega) (by omega)) ?_
      refine q_le (y := lN (G (s + e) + gd (fm + e) + v)) (by rw [(g1 (s + e) (by omega)).1, d3 (fm + e) (by omega) hlt, nI_l (by omega), nI_l (by omega), lN_add, lN_add]) ?_
      refine q_b1 (dL (by omega)) ?_
      refine q_b1 (stI_eq (i := s + e) stH_s (by rw [nI_add]; congr 1; omega) (by omega) (by omega)) ?_
      rw [mL, stH_stH]
      exact q_le (nI_1 (fm + e)) s2
theorem t_ab {f0 fr F : Nat → Int32} {G : Nat → Nat} {sh m : Nat} (ha : σ.1 a = some (OO L m)) (hL : σ.1 L = some (AA c f0)) (hR : σ.1 Lr = some (AA cr fr)) (n1 : L ≠ Lr) (hfn : fm ≤ n) (d3 : ∀ j, fm ≤ j → j < n → fr j = nI (gd j)) (d4 : n ≤ cr) (d5 : cr ≤ 4000) (d6 : ∀ j, fm ≤ j → j < n → gd j < 2 * BS) (hN : n + sh ≤ N) (hc : N ≤ c) (hc4 : c ≤ 4000) (g1 : ∀ j, j < N → F j = nI (G j) ∧ G j < BS) :
    ∃ F' G' v', v' ≤ 3 ∧ f_X2_addBack (stH σ L (AA c F)) a Lr (nI fm) (nI n) (nI sh) = some (lN v', stH σ L (AA c F'), 0, 0) ∧ (∀ j, j < N → F' j = nI (G' j) ∧ G' j < BS) ∧ (∀ j, (j < fm + sh ∨ n + sh ≤ j) → j < N → G' j = G j) ∧ vl BS G' N + v' * BS ^ (n + sh) = vl BS G N + vl BS (fun i => gd (fm + i)) (n - fm) * BS ^ (fm + sh) := by
  have hFU := FU_ge
  have qa : (stH σ L (AA c F)).1 a = some (OO L m) := by rw [stH_n (ne_OA hL ha)]; exact ha
  obtain ⟨F', G', v', s1, s2, s3, s4, s5⟩ := t_ab_loop (A := vl BS G N) (G0 := G) (s := fm + sh) rfl hL hR n1 d3 d4 d5 d6 hN hc hc4 FU 0 0 F G (by omega) (by omega) (by omega) g1 (fun j _ _ => rfl) (by simp [vl])
  refine ⟨F', G', v', s1, ?_, s3, s4, s5⟩
  unfold f_X2_addBack
  refine q_ob qa ?_
  refine q_b1 (gR_eq qa rfl) ?_
  exact q_bd0 s2 rfl
end ST
