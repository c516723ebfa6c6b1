/-! ===== raise: times a power of ten ===== -/
def hiR (F v : Nat) : Nat := v * F / BS
def loR (F v : Nat) : Nat := v * F % BS
def shR (F : Nat) (g : Nat → Nat) (j : Nat) : Nat := (if j = 0 then 0 else hiR F (g (j - 1))) + loR F (g j)
theorem sh_sum {F : Nat} {g : Nat → Nat} : ∀ m : Nat, vl BS (shR F g) m + (if m = 0 then 0 else hiR F (g (m - 1)) * BS ^ m) = F * vl BS g m
  | 0 => by simp [vl]
  | m + 1 => by
    have ih := sh_sum (F := F) (g := g) m
    rw [if_neg (by omega), Nat.add_sub_cancel]
    show vl BS (shR F g) m + shR F g m * BS ^ m + hiR F (g m) * BS ^ (m + 1) = F * (vl BS g m + g m * BS ^ m)
    have e1 : shR F g m * BS ^ m = (if m = 0 then 0 else hiR F (g (m - 1)) * BS ^ m) + loR F (g m) * BS ^ m := by
      unfold shR
      rw [Nat.add_mul]
      congr 1
      split
      · rw [Nat.zero_mul]
      · rfl
    have e2 : loR F (g m) * BS ^ m + hiR F (g m) * BS ^ (m + 1) = F * (g m * BS ^ m) := by
      unfold loR hiR
      rw [Nat.pow_succ, show g m * F / BS * (BS ^ m * BS) = BS * (g m * F / BS) * BS ^ m by rw [Nat.mul_comm (BS ^ m) BS, ← Nat.mul_assoc, Nat.mul_comm (g m * F / BS) BS], ← Nat.add_mul, Nat.mod_add_div, Nat.mul_comm (g m) F, Nat.mul_assoc]
    rw [Nat.mul_add, ← ih, e1]
    omega
theorem hi_lt {F v : Nat} (hv : v < BS) (hF : 0 < F) : hiR F v < F := by
  unfold hiR
  rw [Nat.div_lt_iff_lt_mul (by decide), Nat.mul_comm F]
  exact Nat.mul_lt_mul_of_pos_right hv hF
theorem lo_le {r v : Nat} (hr : r < 9) : loR (10 ^ r) v + 10 ^ r ≤ BS := by
  unfold loR
  have e : BS = 10 ^ r * 10 ^ (9 - r) := by rw [← Nat.pow_add, show r + (9 - r) = 9 by omega]
  have h1 : v * 10 ^ r % BS = 10 ^ r * (v % 10 ^ (9 - r)) := by
    conv => lhs; rw [e]
    rw [Nat.mul_comm v, Nat.mul_mod_mul_left]
  rw [h1]
  have h2 : v % 10 ^ (9 - r) + 1 ≤ 10 ^ (9 - r) := Nat.mod_lt _ (Nat.pow_pos (by decide))
  have h3 := Nat.mul_le_mul_left (10 ^ r) h2
  rw [Nat.mul_add, Nat.mul_one] at h3
  omega
theorem hilo_lt {r v w : Nat} (hr : r < 9) (hv : v < BS) : loR (10 ^ r) w + hiR (10 ^ r) v < BS := by
  have h1 := lo_le (r := r) (v := w) hr
  have h2 := hi_lt (F := 10 ^ r) hv (Nat.pow_pos (by decide))
  omega
theorem p10_63 {r v : Nat} (hr : r < 9) (hv : v < BS) : v * 10 ^ r < 2 ^ 62 := by
  have h1 : 10 ^ r ≤ 10 ^ 9 := p10_le (by omega)
  have h2 : v * 10 ^ r ≤ BS * 10 ^ 9 := Nat.mul_le_mul (Nat.le_of_lt hv) h1
  have h3 : BS * 10 ^ 9 < 2 ^ 62 := by decide
  omega
section RA
variable {a b L' Lb c' n up r : Nat} {g : Nat → Nat}
/-- the loop of raise: m limbs are still to be taken; those above lie shifted in L' -/
theorem t_raise_loop {σ1 : St} {N nb : Nat} {y5 : Int32} (hr : r < 9) (ha : σ1.1 a = some (OO L' N)) (hb : σ1.1 b = some (OO Lb nb)) (hL : ∃ f, σ1.1 L' = some (AA c' f)) (hLb : Lb = L' ∨ ∃ cb fb, cb ≤ 4000 ∧ n ≤ cb ∧ σ1.1 Lb = some (AA cb fb) ∧ ∀ j, j < n → fb j = nI (g j)) (hg : ∀ j, j < n → g j < BS) (hgn : g n = 0) (hc : n + up + 1 ≤ c') (hc4 : c' ≤ 4000) :
    ∀ (k m : Nat) (F : Nat → Int32), m < k → m ≤ n → (Lb = L' → ∀ j, j < m → F j = nI (g j)) → (∀ j, m ≤ j → j < n → F (j + up + 1) = nI (loR (10 ^ r) (g (j + 1)) + hiR (10 ^ r) (g j))) →
      ∃ F', f_X2_raise_L57 k (stH σ1 L' (AA c' F)) a b (nI up) (nI (10 ^ r)) y5 (nI (loR (10 ^ r) (g m))) (nI m + (-1)) = some (nI (loR (10 ^ r) (g 0)), stH σ1 L' (AA c' F'), 0, 0) ∧ ∀ j, j < n → F' (j + up + 1) = nI (loR (10 ^ r) (g (j + 1)) + hiR (10 ^ r) (g j)) := by
  intro k
  induction k with
  | zero => intro m F h; omega
  | succ k ih =>
    intro m F hk hm h1 h2
    show ∃ F', b_X2_raise_L57 (f_X2_raise_L57 k) _ a b _ _ _ _ _ = _ ∧ _
    unfold b_X2_raise_L57
    obtain ⟨f0, hL⟩ := hL
    rcases Nat.eq_zero_or_pos m with w | w
    · subst w
      exact ⟨F, q_t (by decide) rfl, fun j hj => h2 j (Nat.zero_le _) hj⟩
    · obtain ⟨i, rfl⟩ : ∃ i, m = i + 1 := ⟨m - 1, by omega⟩
      rw [pk_m1]
      have hgi := hg i (by omega)
      have ha1 : (stH σ1 L' (AA c' F)).1 a = some (OO L' N) := by rw [stH_n (ne_OA hL ha)]; exact ha
      have hb1 : (stH σ1 L' (AA c' F)).1 b = some (OO Lb nb) := by rw [stH_n (ne_OA hL hb)]; exact hb
      have hld : ldI (stH σ1 L' (AA c' F)) Lb (nI i) = some (nI (g i)) := by
        rcases hLb with z | ⟨cb, fb, z1, z2, z3, z4⟩
        · rw [z, ldI_eq (i := i) stH_s rfl (by omega) (by omega), h1 z i (by omega)]
        · by_cases z5 : Lb = L'
          · rw [z5, ldI_eq (i := i) stH_s rfl (by omega) (by omega), h1 z5 i (by omega)]
          · rw [ldI_eq (i := i) (by rw [stH_n z5]; exact z3) rfl (by omega) (by omega), z4 i (by omega)]
      have hp := p10_63 hr hgi
      have hhi := hi_lt (F := 10 ^ r) hgi (Nat.pow_pos (by decide))
      have hp9 : 10 ^ r ≤ 10 ^ 9 := p10_le (by omega)
      have e9 : (10 : Nat) ^ 9 = 1000000000 := by decide
      have hlo : loR (10 ^ r) (g i) < BS := Nat.mod_lt _ (by decide)
      have eB : BS = 1000000000 := rfl
      obtain ⟨F', i1, i2⟩ := ih i (upd F (i + up + 1) (nI (loR (10 ^ r) (g (i + 1)) + hiR (10 ^ r) (g i)))) (by omega) (by omega) (fun z j hj => by rw [pk_un (by omega)]; exact h1 z j (by omega)) (fun j hj1 hj2 => by
        by_cases hj : j = i
        · rw [hj, pk_us]
        · rw [pk_un (by omega)]; exact h2 j (by omega) hj2)
      refine ⟨F', ?_, i2⟩
      refine q_f (nI_pos (by omega)) ?_
      refine q_b1 (gR_eq hb1 rfl) ?_
      refine q_b1 hld ?_
      refine q_le (y := lN (g i * 10 ^ r)) (by rw [nI_l (bs_lt hgi), nI_l (p10_lt (by omega)), lN_mul]) ?_
      refine q_b1 (dvL_eq (b := BS) rfl rfl (by omega) (by decide) (by decide)) ?_
      refine q_le (y := nI (hiR (10 ^ r) (g i))) (lN_i _) ?_
      refine q_b1 (gR_eq ha1 rfl) ?_
      refine q_b1 (stI_eq (i := i + up + 1) stH_s (by rw [nI_add, nI_1]) (by omega) (by omega)) ?_
      refine q_le (y := nI (loR (10 ^ r) (g i))) ?_ ?_
      · rw [nI_l (by omega), show (1000000000 : Int64) = lN BS from rfl, lN_mul]
        have hle : hiR (10 ^ r) (g i) * BS ≤ g i * 10 ^ r := Nat.div_mul_le_self _ _
        rw [lN_sub hle, lN_i]
        congr 1
        unfold hiR loR
        have := Nat.mod_add_div (g i * 10 ^ r) BS
        rw [Nat.mul_comm BS] at this
        omega
      refine q_le (y := nI i + (-1)) rfl ?_
      rw [stH_stH]
      rw [nI_add]
      exact i1
end RA
