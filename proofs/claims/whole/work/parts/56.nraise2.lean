section RB
variable {σ : St} {a L c x : Nat}
theorem limbs_le {g : Nat → Nat} {n y E : Nat} (k7 : 0 < n → 0 < g (n - 1)) (k8 : vl BS g n = y) (hn : 0 < n) (hy : y < 10 ^ E) : 9 * (n - 1) < E := by
  have := nm_pos k7 hn
  rw [k8, BS_pow] at this
  exact p10_inj (Nat.lt_of_le_of_lt this hy)
theorem t_raise {b Lb cb y k : Nat} {z : Int32} (hD : Dm σ) (hT : TN σ) (h : NV σ a L c x) (hb : NV σ b Lb cb y) (hab : a ≠ b → L ≠ Lb) (hE : a = b → L = Lb) (hz : z = nI k) (hk : k < 17000) (hy : y * 10 ^ k < 10 ^ Em) : Ye (f_X2_raise σ a b z) (PN σ a L c (y * 10 ^ k)) := by
  subst hz
  obtain ⟨n, g0, f, h1, h2, h3, h4, h5, h6, h7, h8⟩ := h.split
  obtain ⟨m, gb, fb, k1, k2, k3, k4, k5, k6, k7, k8⟩ := hb.split
  unfold f_X2_raise
  refine e_ob h1 ?_
  refine e_b1 (gI_eq k1 rfl) ?_
  rcases Nat.eq_zero_or_pos m with w | w
  · subst w
    have hy0 : y = 0 := k8.symm
    subst hy0
    refine e_j1 () (fun k => if_pos rfl) ?_
    refine e_b1 (pF_eq h1 (Nat.le_of_ble_eq_true rfl)) ?_
    refine e_ret ⟨L, c, NV.mk (n := 0) (g := g0) stH_s (by rw [stH_n (ne_AO h2 h1)]; exact h2) (fun j hj => by omega) (by omega) h5 (fun j hj => by omega) (fun hj => by omega) ?_, Or.inl rfl, Fr.st h1 (Or.inl rfl), Nat.le_refl _, Nat.le_refl _, by omega⟩
    rw [Nat.zero_mul]; rfl
  · have hsz : 9 * (m - 1) + k < 17000 := by
      have hEm : Em = 17000 := rfl
      have h9 := nm_pos k7 w
      rw [k8, BS_pow] at h9
      have h10 : 10 ^ (9 * (m - 1) + k) ≤ y * 10 ^ k := by rw [Nat.pow_add]; exact Nat.mul_le_mul_right _ h9
      have h11 := p10_inj (Nat.lt_of_le_of_lt h10 hy)
      omega
    refine e_jno (fun kj => ?_)
    refine e_f (nI_ne0 w (by omega)) ?_
    refine e_t (nI_pos' (by omega)) ?_
    refine e_b1 (dvI_eq (b := 9) rfl rfl (by omega) (by decide) (by decide)) ?_
    refine e_b1 (rmI_eq (b := 9) rfl rfl (by omega) (by decide) (by decide)) ?_
    refine e_b1 (tens hT rfl (by omega)) ?_
    refine e_b1 (gI_eq k1 rfl) ?_
    refine e_bd (t_makeRoom (m := m + k / 9 + 1) hD h1 h2 (by rw [nI_add, nI_1]) (by omega) (by omega)) ?_
    rintro _ σ2 kc sc ⟨L', c', f', m1, m2, m3, m4, m5, m6, m7, m8, m9, m10, -⟩
    have hD2 := m8.2.2.2 hD
    have hL' : L' ≠ a := ne_AO m2 m1
    have hc' : c' ≤ 4000 := by have h9 : max c (2 * (m + k / 9 + 1)) ≤ 4000 := Nat.max_le.mpr ⟨h5, by omega⟩; omega
    refine e_le (x := nI m + (-1)) (by
      obtain ⟨i, rfl⟩ : ∃ i, m = i + 1 := ⟨m - 1, by omega⟩
      rw [pk_m1, nI_pred]) ?_
    let g : Nat → Nat := fun j => if j < m then gb j else 0
    have gm : ∀ j, j < m → g j = gb j := fun j hj => if_pos hj
    have gn : g m = 0 := if_neg (by omega)
    have gB : ∀ j, g j < BS := fun j => by
      by_cases hj : j < m
      · rw [gm j hj]; exact k6 j hj
      · have : g j = 0 := if_neg hj
        rw [this]; decide
    have hb2 : ∃ nb', σ2.1 b = some (OO (if a = b then L' else Lb) nb') := by
      by_cases e : a = b
      · rw [if_pos e, ← e]; exact ⟨_, m1⟩
      · rw [if_neg e]; exact ⟨_, m8.at hD k1 (fun z => e z.symm)⟩
    obtain ⟨nb', hb2⟩ := hb2
    have hra : (if a = b then L' else Lb) = L' ∨ ∃ cb fb, cb ≤ 4000 ∧ m ≤ cb ∧ σ2.1 (if a = b then L' else Lb) = some (AA cb fb) ∧ ∀ j, j < m → fb j = nI (g j) := by
      by_cases e : a = b
      · rw [if_pos e]; exact Or.inl rfl
      · rw [if_neg e]
        exact Or.inr ⟨cb, fb, k5, k4, m8.at hD k2 (fun z => ne_AO k2 h1 z), fun j hj => by rw [gm j hj]; exact k3 j hj⟩
    have hF0 : (if a = b then L' else Lb) = L' → ∀ j, j < m → f' j = nI (g j) := by
      intro z j hj
      by_cases e : a = b
      · subst e
        have hLL := hE rfl
        subst hLL
        have hff := Option.some.inj (h2.symm.trans k2)
        simp at hff
        obtain ⟨rfl, rfl⟩ := hff
        rw [m6 j (by omega), k3 j hj, gm j hj]
      · rw [if_neg e] at z
        rcases m7 with w2 | w2
        · exact absurd (w2.symm.trans z.symm) (hab e)
        · have := hD.lt k2; omega
    have hFU := FU_ge
    obtain ⟨F', l1, l2⟩ := t_raise_loop (up := k / 9) (r := k % 9) (c' := c') (n := m) (g := g) (y5 := nI m) (by omega) m1 hb2 ⟨f', m2⟩ hra (fun j _ => gB j) gn (by omega) hc' FU m f' (by omega) (Nat.le_refl _) hF0 (fun j hj1 hj2 => by omega)
    have hlo0 : loR (10 ^ (k % 9)) (g m) = 0 := by rw [gn]; unfold loR; rw [Nat.zero_mul]; rfl
    rw [stH_self m2, hlo0] at l1
    refine e_bd0 l1 ?_
    have q1 : (stH σ2 L' (AA c' F')).1 a = some (OO L' n) := by rw [stH_n hL'.symm]; exact m1
    refine e_b1 (gR_eq q1 rfl) ?_
    refine e_b1 (stI_eq (i := k / 9) stH_s rfl (by omega) (by omega)) ?_
    rw [stH_stH]
    have q2 : (stH σ2 L' (AA c' (upd F' (k / 9) (nI (loR (10 ^ (k % 9)) (g 0)))))).1 a = some (OO L' n) := by rw [stH_n hL'.symm]; exact m1
    refine e_bd0 (t_empty (m := k / 9) q2 stH_s rfl (by omega) (by omega)) ?_
    rw [stH_stH]
    have q3 : (stH σ2 L' (AA c' (zeroTo (upd F' (k / 9) (nI (loR (10 ^ (k % 9)) (g 0)))) (k / 9)))).1 a = some (OO L' n) := by rw [stH_n hL'.symm]; exact m1
    refine e_b1 (pF_eq q3 (Nat.le_of_ble_eq_true rfl)) ?_
    let G : Nat → Nat := fun j => if j < k / 9 then 0 else shR (10 ^ (k % 9)) g (j - k / 9)
    have hG : ∀ j, G j < BS := by
      intro j
      by_cases hj : j < k / 9
      · have : G j = 0 := if_pos hj
        rw [this]; decide
      · have e1 : G j = shR (10 ^ (k % 9)) g (j - k / 9) := if_neg hj
        rw [e1]
        unfold shR
        split
        · rw [Nat.zero_add]; exact Nat.mod_lt _ (by decide)
        · rw [Nat.add_comm]; exact hilo_lt (by omega) (gB _)
    have hcells : ∀ j, j < m + k / 9 + 1 → zeroTo (upd F' (k / 9) (nI (loR (10 ^ (k % 9)) (g 0)))) (k / 9) j = nI (G j) := by
      intro j hj
      unfold zeroTo
      by_cases hj1 : j < k / 9
      · have e1 : G j = 0 := if_pos hj1
        rw [if_pos hj1, e1]; rfl
      · have e1 : G j = shR (10 ^ (k % 9)) g (j - k / 9) := if_neg hj1
        rw [if_neg hj1, e1]
        by_cases hj2 : j = k / 9
        · rw [hj2, pk_us, Nat.sub_self]
          unfold shR
          rw [if_pos rfl, Nat.zero_add]
        · rw [pk_un hj2]
          obtain ⟨i, rfl⟩ : ∃ i, j = i + k / 9 + 1 := ⟨j - k / 9 - 1, by omega⟩
          rw [l2 i (by omega)]
          unfold shR
          rw [if_neg (by omega), show i + k / 9 + 1 - k / 9 = i + 1 by omega, Nat.add_sub_cancel, Nat.add_comm]
    have q4 : (stH (stH σ2 L' (AA c' (zeroTo (upd F' (k / 9) (nI (loR (10 ^ (k % 9)) (g 0)))) (k / 9)))) a (OO L' (m + k / 9 + 1))).1 L' = some (AA c' (zeroTo (upd F' (k / 9) (nI (loR (10 ^ (k % 9)) (g 0)))) (k / 9))) := by rw [stH_n hL', stH_s]
    have hcount : nI m + nI (k / 9) + 1 = nI (m + k / 9 + 1) := by rw [nI_add, nI_1]
    have hst : ([Value.ref L', .int (nI n)].set 1 (.int (nI m + nI (k / 9) + 1))) = [.ref L', .int (nI (m + k / 9 + 1))] := by rw [hcount]; rfl
    rw [hst]
    obtain ⟨n', t1, t2, t3⟩ := t_trimV (σ := stH (stH σ2 L' (AA c' (zeroTo (upd F' (k / 9) (nI (loR (10 ^ (k % 9)) (g 0)))) (k / 9)))) a (OO L' (m + k / 9 + 1))) (a := a) (L := L') (c := c') (n := m + k / 9 + 1) (g := G) stH_s q4 hcells (by omega) hc' (fun j _ => hG j)
    refine e_bd0 t2 ?_
    have hval : vl BS G (m + k / 9 + 1) = y * 10 ^ k := by
      rw [show m + k / 9 + 1 = k / 9 + (m + 1) by omega, vl_add, vl_zero (fun j hj => if_pos hj), Nat.zero_add]
      have e1 : vl BS (fun j => G (k / 9 + j)) (m + 1) = vl BS (shR (10 ^ (k % 9)) g) (m + 1) := vl_congr (fun j _ => by
        have : G (k / 9 + j) = shR (10 ^ (k % 9)) g (k / 9 + j - k / 9) := if_neg (by omega)
        rw [this, Nat.add_sub_cancel_left])
      have e2 := sh_sum (F := 10 ^ (k % 9)) (g := g) (m + 1)
      rw [if_neg (by omega), Nat.add_sub_cancel] at e2
      have e3 : hiR (10 ^ (k % 9)) (g m) = 0 := by rw [gn]; unfold hiR; rw [Nat.zero_mul]; rfl
      have e4 : vl BS g (m + 1) = y := by
        show vl BS g m + g m * BS ^ m = y
        rw [gn, Nat.zero_mul, Nat.add_zero, vl_congr gm, k8]
      rw [e3, Nat.zero_mul, Nat.add_zero, e4] at e2
      rw [e1, e2, BS_pow, Nat.mul_comm (10 ^ (k % 9)) y, Nat.mul_left_comm, ← Nat.pow_add, show 9 * (k / 9) + k % 9 = k by omega]
    rw [hval] at t3
    refine e_ret ⟨L', c', ?_, m7, ?_, m4, by omega, by omega⟩
    · exact t3
    · have f1 : Fr (fun q => q = L') σ2 (stH σ2 L' (AA c' (zeroTo (upd F' (k / 9) (nI (loR (10 ^ (k % 9)) (g 0)))) (k / 9)))) := Fr.st m2 rfl
      have f2 : Fr (fun q => q = a) (stH σ2 L' (AA c' (zeroTo (upd F' (k / 9) (nI (loR (10 ^ (k % 9)) (g 0)))) (k / 9)))) (stH (stH σ2 L' (AA c' (zeroTo (upd F' (k / 9) (nI (loR (10 ^ (k % 9)) (g 0)))) (k / 9)))) a (OO L' (m + k / 9 + 1))) := Fr.st q3 rfl
      have f3 : Fr (fun q => q = a) (stH (stH σ2 L' (AA c' (zeroTo (upd F' (k / 9) (nI (loR (10 ^ (k % 9)) (g 0)))) (k / 9)))) a (OO L' (m + k / 9 + 1))) (stH (stH (stH σ2 L' (AA c' (zeroTo (upd F' (k / 9) (nI (loR (10 ^ (k % 9)) (g 0)))) (k / 9)))) a (OO L' (m + k / 9 + 1))) a (OO L' n')) := Fr.st stH_s rfl
      refine (((m8.mono (S1 := fun q => q = a ∨ q = L) (fun q _ z => Or.inl z)).trans f1 (fun q hq z => ?_)).trans f2 (fun q _ z => Or.inl z)).trans f3 (fun q _ z => Or.inl z)
      rcases m7 with w2 | w2
      · exact Or.inr (z.trans w2)
      · omega
end RB
