section SZ
variable {σ : St} {a L c x : Nat}
theorem j_absI {z : Int} (h1 : -2147483648 < z) (h2 : z < 2147483648) : f_J9_abs_0f7a4 σ (iZ z) = some (nI z.natAbs) := by
  unfold f_J9_abs_0f7a4
  by_cases h : 0 ≤ z
  · refine q_t ((iZ_le (a := 0) (by omega) (by omega) (by omega) (by omega)).mpr h) ?_
    rw [iZ_nat h]
    congr 2
    omega
  · refine q_f (fun w => h ((iZ_le (a := 0) (by omega) (by omega) (by omega) (by omega)).mp w)) ?_
    rw [iZ_neg, iZ_nat (by omega)]
    congr 2
    omega
theorem j_absL {z : Int} (h1 : -9223372036854775808 < z) (h2 : z < 9223372036854775808) : f_J9_abs_067f4 σ (lZ z) = some (lN z.natAbs) := by
  unfold f_J9_abs_067f4
  by_cases h : 0 ≤ z
  · refine q_t ((lZ_le (a := 0) (by omega) (by omega) (by omega) (by omega)).mpr h) ?_
    rw [lZ_nat h]
    congr 2
    omega
  · refine q_f (fun w => h ((lZ_le (a := 0) (by omega) (by omega) (by omega) (by omega)).mp w)) ?_
    rw [lZ_neg, lZ_nat (by omega)]
    congr 2
    omega
theorem t_sz_loop {m : Nat} {f0 : Nat → Int32} (ha : σ.1 a = some (OO L m)) (hL : σ.1 L = some (AA c f0)) (hc : 3 ≤ c) (hc4 : c ≤ 4000) :
    ∀ (k i : Nat) (z : Int) (F : Nat → Int32) (g : Nat → Nat), 3 - i < k → i ≤ 3 → -9223372036854775808 ≤ z → z < 9223372036854775808 → (∀ j, j < i → F j = nI (g j) ∧ g j < BS) → (0 < i → z ≠ 0 ∨ 0 < g (i - 1)) → (i = 3 → z = 0) → (i = 2 → z.natAbs < 1000) → (i = 1 → z.natAbs < 1000000000000) → x = vl BS g i + z.natAbs * BS ^ i →
      ∃ i' F' g', f_X2_becomeSizeOf_L7 k (stH (stH σ L (AA c F)) a (OO L i)) a (lZ z) = some ((), stH (stH σ L (AA c F')) a (OO L i'), 0, 0) ∧ i' ≤ 3 ∧ (∀ j, j < i' → F' j = nI (g' j) ∧ g' j < BS) ∧ (0 < i' → 0 < g' (i' - 1)) ∧ x = vl BS g' i' := by
  intro k
  induction k with
  | zero => intro i z F g h; omega
  | succ k ih =>
    intro i z F g hk hi z1 z2 g1 g2 g3 g4 g5 hx
    show ∃ i' F' g', b_X2_becomeSizeOf_L7 (f_X2_becomeSizeOf_L7 k) _ a _ = _ ∧ _
    unfold b_X2_becomeSizeOf_L7
    have eB : BS = 1000000000 := rfl
    by_cases hz : z = 0
    · subst hz
      refine ⟨i, F, g, ?_, hi, g1, fun h => ?_, ?_⟩
      · refine q_b1 (gI_eq stH_s rfl) ?_
        by_cases h3 : i = 3
        · exact q_t (by rw [h3]; decide) rfl
        · refine q_f (nI_ge (b := 3) (by omega) (by decide)) ?_
          exact q_t rfl rfl
      · rcases g2 h with w | w
        · exact absurd rfl w
        · exact w
      · rw [hx]; show vl BS g i + 0 * BS ^ i = _; rw [Nat.zero_mul, Nat.add_zero]
    · have h3 : i < 3 := by
        rcases Nat.lt_or_ge i 3 with w | w
        · exact w
        · exact absurd (g3 (by omega)) hz
      have hm : (z.tmod 1000000000).natAbs = z.natAbs % BS := by rw [Int.natAbs_tmod]; rfl
      have hd : (z.tdiv 1000000000).natAbs = z.natAbs / BS := by rw [Int.natAbs_tdiv]; rfl
      have hml : z.natAbs % BS < BS := Nat.mod_lt _ (by decide)
      have hdm := Nat.mod_add_div z.natAbs BS
      have hda : (z.tdiv 1000000000).natAbs * BS + z.natAbs % BS = z.natAbs := by rw [hd, Nat.mul_comm]; omega
      obtain ⟨q, hq⟩ : ∃ q, z.tdiv 1000000000 = q := ⟨_, rfl⟩
      rw [hq] at hd hda
      have hda2 : q.natAbs * 1000000000 + z.natAbs % BS = z.natAbs := hda
      obtain ⟨i', F', g', r1, r2, r3, r4, r5⟩ := ih (i + 1) q (upd F i (nI (z.natAbs % BS))) (up1 g i (z.natAbs % BS)) (by omega) (by omega) (by omega) (by omega) (fun j hj => by
          unfold up1
          by_cases hji : j = i
          · subst hji; rw [if_pos rfl, pk_us]; exact ⟨rfl, hml⟩
          · rw [if_neg hji, pk_un hji]; exact g1 j (by omega)) (fun _ => by
          rw [Nat.add_sub_cancel]
          unfold up1
          rw [if_pos rfl]
          omega) (fun h => by have := g4 (by omega); omega) (fun h => by have := g5 (by omega); omega) (fun h => by omega) (by
          rw [hx]
          show vl BS g i + z.natAbs * BS ^ i = vl BS (up1 g i (z.natAbs % BS)) i + up1 g i (z.natAbs % BS) i * BS ^ i + q.natAbs * BS ^ (i + 1)
          have e1 : vl BS (up1 g i (z.natAbs % BS)) i = vl BS g i := vl_congr (fun j hj => by unfold up1; rw [if_neg (by omega)])
          have e2 : up1 g i (z.natAbs % BS) i = z.natAbs % BS := by unfold up1; rw [if_pos rfl]
          rw [e1, e2, Nat.pow_succ, Nat.add_assoc]
          congr 1
          conv => lhs; rw [← hda, Nat.add_mul]
          rw [Nat.mul_comm (BS ^ i) BS, ← Nat.mul_assoc, Nat.add_comm])
      refine ⟨i', F', g', ?_, r2, r3, r4, r5⟩
      refine q_b1 (gI_eq stH_s rfl) ?_
      refine q_f (nI_ge (b := 3) (by omega) (by decide)) ?_
      refine q_f (fun w => hz ((lZ_eq (b := 0) z1 z2 (by omega) (by omega)).mp w)) ?_
      refine q_b1 (gR_eq stH_s rfl) ?_
      refine q_b1 (gI_eq stH_s rfl) ?_
      refine q_b1 (rmZ (b := 1000000000) rfl rfl z1 z2 (by decide) (by decide)) ?_
      rw [lZ_i]
      refine q_b1 (j_absI (by omega) (by omega)) ?_
      rw [hm]
      refine q_b1 (stI_eq (i := i) (n := c) (f := F) (by rw [stH_n (ne_AO hL ha), stH_s]) rfl (by omega) (by omega)) ?_
      refine q_b1 (dvZ (b := 1000000000) rfl rfl z1 z2 (by decide) (by decide)) ?_
      rw [hq]
      have eS : stH (stH (stH σ L (AA c F)) a (OO L i)) L (AA c (upd F i (nI (z.natAbs % BS)))) = stH (stH σ L (AA c (upd F i (nI (z.natAbs % BS))))) a (OO L i) := by rw [stH_comm (ne_OA hL ha), stH_stH]
      rw [eS]
      refine q_b1 (gI_eq stH_s rfl) ?_
      refine q_b1 (pF1 stH_s (nI_1 i)) ?_
      rw [stH_stH]
      exact r1
theorem t_sizeOf {j : Int64} (h : NV σ a L c x) (hc : 3 ≤ c) : Ye (f_X2_becomeSizeOf σ a j) (PN σ a L c j.toInt.natAbs) := by
  obtain ⟨n, g, f, h1, h2, h3, h4, h5, h6, h7, h8⟩ := h.split
  have hFU := FU_ge
  have z1 := lZ_lo j
  have z2 := lZ_hi j
  obtain ⟨i', F', g', r1, r2, r3, r4, r5⟩ := t_sz_loop (x := j.toInt.natAbs) h1 h2 hc h5 FU 0 j.toInt f (fun _ => 0) (by omega) (by omega) z1 z2 (fun j hj => by omega) (fun h => by omega) (fun h => by omega) (fun h => by omega) (fun h => by omega) (by show _ = 0 + _ * 1; rw [Nat.zero_add, Nat.mul_one])
  rw [stH_self h2, ← lZ_of j] at r1
  unfold f_X2_becomeSizeOf
  refine e_ob h1 ?_
  refine e_b1 (pF1 h1 (m := 0) rfl) ?_
  refine e_bd0 r1 ?_
  refine e_ret ⟨L, c, NV.mk (n := i') (g := g') stH_s (by rw [stH_n (ne_AO h2 h1), stH_s]) (fun j hj => (r3 j hj).1) (by omega) h5 (fun j hj => (r3 j hj).2) r4 r5.symm, Or.inl rfl, ?_, Nat.le_refl _, Nat.le_refl _, by omega⟩
  have q1 : (stH σ L (AA c F')).1 a = some (OO L n) := by rw [stH_n (ne_OA h2 h1)]; exact h1
  exact (Fr.st (S := fun q => q = a ∨ q = L) (e := AA c F') h2 (Or.inr rfl)).trans (Fr.st (S := fun q => q = a ∨ q = L) (e := OO L i') q1 (Or.inl rfl)) (fun _ _ w => w)
end SZ
