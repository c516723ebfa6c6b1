/-- how many zeros a number ends in -/
def EZ (x z : Nat) : Prop := (x = 0 → z = 0) ∧ (0 < x → 10 ^ z ∣ x ∧ ¬ 10 ^ (z + 1) ∣ x)
theorem p10_dvd {a b : Nat} (h : a ≤ b) : 10 ^ a ∣ 10 ^ b := Nat.pow_dvd_pow 10 h
section RE
variable {σ : St} {a L c x : Nat}
theorem nI_z {v : Nat} (h : v < BS) : nI v = 0 ↔ v = 0 := (nI_eq (bs_lt h) (by decide)).trans Iff.rfl
theorem t_ez_loop {n : Nat} {g : Nat → Nat} {f : Nat → Int32} (h1 : σ.1 a = some (OO L n)) (h2 : σ.1 L = some (AA c f)) (h3 : ∀ j, j < n → f j = nI (g j)) (h4 : n ≤ c) (h5 : c ≤ 4000) (h6 : ∀ j, j < n → g j < BS) : ∀ (k i : Nat), n - i < k → i ≤ n → ∃ l, i ≤ l ∧ l ≤ n ∧ f_X2_endingZeros_L2 k σ a (nI i) = some (nI l) ∧ (∀ j, i ≤ j → j < l → g j = 0) ∧ (l < n → 0 < g l) := by
  intro k
  induction k with
  | zero => intro i h; omega
  | succ k ih =>
    intro i hk hi
    show ∃ l, i ≤ l ∧ l ≤ n ∧ b_X2_endingZeros_L2 (f_X2_endingZeros_L2 k) σ a (nI i) = _ ∧ _
    unfold b_X2_endingZeros_L2
    by_cases hin : i = n
    · refine ⟨i, Nat.le_refl _, hi, ?_, fun j _ _ => by omega, fun h => by omega⟩
      refine q_b1 (gI_eq h1 rfl) ?_
      exact q_t (nI_le (by omega) (by omega)) rfl
    · have hlt : i < n := by omega
      have e1 : ¬ nI n ≤ nI i := nI_ge hlt (by omega)
      by_cases hz : g i = 0
      · obtain ⟨l, g1, g2, g3, g4, g5⟩ := ih (i + 1) (by omega) (by omega)
        refine ⟨l, by omega, g2, ?_, fun j hj1 hj2 => ?_, g5⟩
        · refine q_b1 (gI_eq h1 rfl) ?_
          refine q_f e1 ?_
          refine q_b1 (gR_eq h1 rfl) ?_
          refine q_b1 (ldI_eq h2 rfl (by omega) (by omega)) ?_
          refine q_t (by rw [h3 i hlt, hz]; rfl) ?_
          exact q_le (nI_1 i) g3
        · by_cases hj : j = i
          · rw [hj]; exact hz
          · exact g4 j (by omega) hj2
      · refine ⟨i, Nat.le_refl _, hi, ?_, fun j _ _ => by omega, fun _ => by omega⟩
        refine q_b1 (gI_eq h1 rfl) ?_
        refine q_f e1 ?_
        refine q_b1 (gR_eq h1 rfl) ?_
        refine q_b1 (ldI_eq h2 rfl (by omega) (by omega)) ?_
        exact q_f (by rw [h3 i hlt]; exact fun z => hz ((nI_z (h6 i hlt)).mp z)) rfl
theorem t_ez_loop2 (hT : TN σ) {n l v : Nat} {f : Nat → Int32} (h1 : σ.1 a = some (OO L n)) (h2 : σ.1 L = some (AA c f)) (hl : l < c) (h5 : c ≤ 4000) (hv : f l = nI v) (h0 : 0 < v) (hb : v < BS) : ∀ (k i : Nat), 8 - i < k → i ≤ 8 → 10 ^ i ∣ v → ∃ z, z ≤ 8 ∧ f_X2_endingZeros_L37 k σ a (nI l) (nI i) = some (nI z) ∧ 10 ^ z ∣ v ∧ ¬ 10 ^ (z + 1) ∣ v := by
  intro k
  induction k with
  | zero => intro i h; omega
  | succ k ih =>
    intro i hk hi hd
    show ∃ z, z ≤ 8 ∧ b_X2_endingZeros_L37 (f_X2_endingZeros_L37 k) σ a (nI l) (nI i) = _ ∧ _
    unfold b_X2_endingZeros_L37
    by_cases h8 : i = 8
    · refine ⟨8, by omega, q_t (by rw [h8]; decide) (by rw [h8]), by rw [← h8]; exact hd, fun hz => ?_⟩
      have := Nat.le_of_dvd h0 hz
      have e : (10 : Nat) ^ (8 + 1) = BS := by decide
      omega
    · have e1 : ¬ (8 : Int32) ≤ nI i := nI_ge (a := i) (b := 8) (by omega) (by decide)
      have e2 : nI i + 1 = nI (i + 1) := nI_1 i
      have hm := rmI_eq (x := nI v) (y := nI (10 ^ (i + 1))) rfl rfl (bs_lt hb) (Nat.pow_pos (by decide)) (p10_lt (by omega))
      by_cases hz : v % 10 ^ (i + 1) = 0
      · obtain ⟨z, g1, g2, g3, g4⟩ := ih (i + 1) (by omega) (by omega) (Nat.dvd_of_mod_eq_zero hz)
        refine ⟨z, g1, q_f e1 ?_, g3, g4⟩
        refine q_b1 (gR_eq h1 rfl) ?_
        refine q_b1 (ldI_eq h2 rfl hl (by omega)) ?_
        refine q_b1 (tens hT e2 (by omega)) ?_
        rw [hv]
        refine q_b1 hm ?_
        refine q_t (by rw [hz]; rfl) ?_
        exact q_le e2 g2
      · refine ⟨i, hi, q_f e1 ?_, hd, fun h => hz (Nat.mod_eq_zero_of_dvd h)⟩
        refine q_b1 (gR_eq h1 rfl) ?_
        refine q_b1 (ldI_eq h2 rfl hl (by omega)) ?_
        refine q_b1 (tens hT e2 (by omega)) ?_
        rw [hv]
        refine q_b1 hm ?_
        exact q_f (fun h => hz ((nI_z (Nat.lt_of_le_of_lt (Nat.mod_le _ _) hb)).mp h)) rfl
theorem vl_low {g : Nat → Nat} {n l : Nat} (hl : l ≤ n) (hz : ∀ j, j < l → g j = 0) : vl BS g n = BS ^ l * vl BS (fun j => g (l + j)) (n - l) := by
  obtain ⟨d, rfl⟩ : ∃ d, n = l + d := ⟨n - l, by omega⟩
  rw [vl_add, vl_zero hz, Nat.zero_add, Nat.add_sub_cancel_left]
theorem vl_first {g : Nat → Nat} {n : Nat} (hn : 0 < n) : vl BS g n = g 0 + BS * vl BS (fun j => g (1 + j)) (n - 1) := by
  obtain ⟨d, rfl⟩ : ∃ d, n = 1 + d := ⟨n - 1, by omega⟩
  rw [vl_add]
  simp [vl]
theorem dvd_limb {v w r : Nat} (hr : r ≤ 9) : 10 ^ r ∣ v + BS * w ↔ 10 ^ r ∣ v := by
  have h : 10 ^ r ∣ BS * w := Nat.dvd_trans (p10_dvd hr) (Nat.dvd_mul_right (10 ^ 9) w)
  exact (Nat.dvd_add_iff_left h).symm
theorem t_endingZeros (hT : TN σ) (h : NV σ a L c x) : ∃ z, f_X2_endingZeros σ a = some (nI z) ∧ EZ x z ∧ z < 40000 := by
  obtain ⟨n, g, f, h1, h2, h3, h4, h5, h6, h7, h8⟩ := h.split
  have hF := FU_ge
  unfold f_X2_endingZeros
  obtain ⟨l, -, l2, l3, l4, l5⟩ := t_ez_loop h1 h2 h3 h4 h5 h6 FU 0 (by omega) (by omega)
  by_cases hln : l = n
  · have hx : x = 0 := by rw [← h8]; exact vl_zero (fun j hj => l4 j (by omega) (by omega))
    refine ⟨0, ?_, ⟨fun _ => rfl, fun z => by omega⟩, by omega⟩
    refine q_ob h1 ?_
    refine q_b1 l3 ?_
    refine q_b1 (gI_eq h1 rfl) ?_
    exact q_t (by rw [hln]) rfl
  · have hlt : l < n := by omega
    obtain ⟨z, z1, z2, z3, z4⟩ := t_ez_loop2 hT h1 h2 (l := l) (by omega) h5 (h3 l hlt) (l5 hlt) (h6 l hlt) FU 0 (by omega) (by omega) (by simp)
    have hv : x = 10 ^ (9 * l) * (g l + BS * vl BS (fun j => g (l + (1 + j))) (n - l - 1)) := by
      rw [← h8, vl_low (Nat.le_of_lt hlt) (fun j hj => l4 j (by omega) hj), vl_first (by omega), ← BS_pow]
      rfl
    have hx : 0 < x := by
      rw [hv]
      have := l5 hlt
      exact Nat.mul_pos (Nat.pow_pos (by decide)) (by omega)
    refine ⟨9 * l + z, ?_, ⟨fun w => by omega, fun _ => ⟨?_, fun w => z4 ?_⟩⟩, by omega⟩
    · refine q_ob h1 ?_
      refine q_b1 l3 ?_
      refine q_b1 (gI_eq h1 rfl) ?_
      refine q_f (fun w => hln ((nI_eq (by omega) (by omega)).mp w)) ?_
      refine q_b1 z2 ?_
      show some (nI l * nI 9 + nI z) = _
      rw [pk_mul, nI_add, Nat.mul_comm]
    · rw [hv, Nat.pow_add]
      exact Nat.mul_dvd_mul_left _ ((dvd_limb (by omega)).mpr z3)
    · rw [hv, Nat.add_assoc, Nat.pow_add] at w
      exact (dvd_limb (by omega)).mp (Nat.dvd_of_mul_dvd_mul_left (Nat.pow_pos (by decide)) w)
theorem t_hb_loop {n q : Nat} {g : Nat → Nat} {f : Nat → Int32} {y : Int32} (h1 : σ.1 a = some (OO L n)) (h2 : σ.1 L = some (AA c f)) (h3 : ∀ j, j < n → f j = nI (g j)) (h4 : n ≤ c) (h5 : c ≤ 4000) (h6 : ∀ j, j < n → g j < BS) (hq : q < 2 ^ 31) : ∀ (k i : Nat), n - i < k → i ≤ n → i ≤ q → (∃ j, j < q ∧ j < n ∧ 0 < g j ∧ f_X2_hasDigitsBelow_L13 k σ a y (nI q) (nI i) = some (.inl ())) ∨ ((∀ j, i ≤ j → j < q → j < n → g j = 0) ∧ f_X2_hasDigitsBelow_L13 k σ a y (nI q) (nI i) = some (.inr ())) := by
  intro k
  induction k with
  | zero => intro i h; omega
  | succ k ih =>
    intro i hk hi hiq
    show (∃ j, j < q ∧ j < n ∧ 0 < g j ∧ b_X2_hasDigitsBelow_L13 (f_X2_hasDigitsBelow_L13 k) σ a y (nI q) (nI i) = _) ∨ (_ ∧ b_X2_hasDigitsBelow_L13 (f_X2_hasDigitsBelow_L13 k) σ a y (nI q) (nI i) = _)
    unfold b_X2_hasDigitsBelow_L13
    by_cases hiq2 : i = q
    · exact Or.inr ⟨fun j _ _ _ => by omega, q_t (nI_le (by omega) (by omega)) rfl⟩
    · have e0 : ¬ nI q ≤ nI i := nI_ge (by omega) hq
      by_cases hin : i = n
      · refine Or.inr ⟨fun j _ _ _ => by omega, q_f e0 ?_⟩
        refine q_b1 (gI_eq h1 rfl) ?_
        exact q_t (nI_le (by omega) (by omega)) rfl
      · have hlt : i < n := by omega
        have e1 : ¬ nI n ≤ nI i := nI_ge hlt (by omega)
        by_cases hz : g i = 0
        · rcases ih (i + 1) (by omega) (by omega) (by omega) with ⟨j, g1, g2, g3, g4⟩ | ⟨g1, g2⟩
          · refine Or.inl ⟨j, g1, g2, g3, q_f e0 ?_⟩
            refine q_b1 (gI_eq h1 rfl) ?_
            refine q_f e1 ?_
            refine q_b1 (gR_eq h1 rfl) ?_
            refine q_b1 (ldI_eq h2 rfl (by omega) (by omega)) ?_
            refine q_t (by rw [h3 i hlt, hz]; rfl) ?_
            exact q_le (nI_1 i) g4
          · refine Or.inr ⟨fun j hj1 hj2 hj3 => ?_, q_f e0 ?_⟩
            · by_cases hj : j = i
              · rw [hj]; exact hz
              · exact g1 j (by omega) hj2 hj3
            · refine q_b1 (gI_eq h1 rfl) ?_
              refine q_f e1 ?_
              refine q_b1 (gR_eq h1 rfl) ?_
              refine q_b1 (ldI_eq h2 rfl (by omega) (by omega)) ?_
              refine q_t (by rw [h3 i hlt, hz]; rfl) ?_
              exact q_le (nI_1 i) g2
        · refine Or.inl ⟨i, by omega, hlt, by omega, q_f e0 ?_⟩
          refine q_b1 (gI_eq h1 rfl) ?_
          refine q_f e1 ?_
          refine q_b1 (gR_eq h1 rfl) ?_
          refine q_b1 (ldI_eq h2 rfl (by omega) (by omega)) ?_
          exact q_f (by rw [h3 i hlt]; exact fun z => hz ((nI_z (h6 i hlt)).mp z)) rfl
theorem t_hasBelow (hT : TN σ) (h : NV σ a L c x) {k : Nat} {y : Int32} (hy : y = nI k) (hk : k < 2 ^ 31) : f_X2_hasDigitsBelow σ a y = some (if x % 10 ^ k = 0 then 0 else 1) := by
  obtain ⟨n, g, f, h1, h2, h3, h4, h5, h6, h7, h8⟩ := h.split
  have hF := FU_ge
  subst hy
  unfold f_X2_hasDigitsBelow
  refine q_ob h1 ?_
  rcases Nat.eq_zero_or_pos k with w | w
  · subst w
    have e0 : x % 10 ^ 0 = 0 := by rw [Nat.pow_zero, Nat.mod_one]
    rw [if_pos (c := x % 10 ^ 0 = 0) e0]
    exact q_f (show ¬ (0 : Int32) < nI 0 by decide) rfl
  · refine q_t ((nI_ltI (a := 0) (by decide) hk).mpr w) ?_
    have d9 := dvI_eq (x := nI k) (y := 9) (b := 9) rfl rfl hk (by decide) (by decide)
    have r9 := rmI_eq (x := nI k) (y := 9) (b := 9) rfl rfl hk (by decide) (by decide)
    refine q_b1 d9 ?_
    rcases t_hb_loop (y := nI k) h1 h2 h3 h4 h5 h6 (q := k / 9) (by omega) FU 0 (by omega) (by omega) (by omega) with ⟨j, g1, g2, g3, g4⟩ | ⟨g1, g2⟩
    · refine q_b1 g4 ?_
      rw [if_neg]
      · rfl
      · intro z
        have hd : 10 ^ (9 * (j + 1)) ∣ x := Nat.dvd_trans (p10_dvd (by omega)) (Nat.dvd_of_mod_eq_zero z)
        rw [← BS_pow, ← h8] at hd
        have hm := Nat.mod_eq_zero_of_dvd hd
        obtain ⟨d, rfl⟩ : ∃ d, n = (j + 1) + d := ⟨n - (j + 1), by omega⟩
        rw [vl_mod (fun i hi => h6 i (by omega))] at hm
        have := vl_ge (B := BS) g3
        have := Nat.pow_pos (n := j) (show 0 < BS by decide)
        omega
    · refine q_b1 g2 ?_
      refine q_b1 (gI_eq h1 rfl) ?_
      by_cases hn : n ≤ k / 9
      · have hx : x = 0 := by rw [← h8]; exact vl_zero (fun j hj => g1 j (by omega) (by omega) hj)
        subst hx
        rw [if_pos (Nat.zero_mod _)]
        exact q_t (nI_le hn (by omega)) rfl
      · have hlt : k / 9 < n := by omega
        refine q_f (nI_ge hlt (by omega)) ?_
        refine q_b1 (gR_eq h1 rfl) ?_
        refine q_b1 (ldI_eq h2 rfl (by omega) (by omega)) ?_
        refine q_b1 r9 ?_
        refine q_b1 (tens hT rfl (by omega)) ?_
        rw [h3 _ hlt]
        refine q_b1 (rmI_eq rfl rfl (bs_lt (h6 _ hlt)) (Nat.pow_pos (by decide)) (p10_lt (by omega))) ?_
        have hv : x = 10 ^ (9 * (k / 9)) * (g (k / 9) + BS * vl BS (fun j => g (k / 9 + (1 + j))) (n - k / 9 - 1)) := by
          rw [← h8, vl_low (Nat.le_of_lt hlt) (fun j hj => g1 j (by omega) hj (by omega)), vl_first (by omega), ← BS_pow]
          rfl
        have hiff : x % 10 ^ k = 0 ↔ g (k / 9) % 10 ^ (k % 9) = 0 := by
          rw [← Nat.dvd_iff_mod_eq_zero, ← Nat.dvd_iff_mod_eq_zero, hv]
          have e : 10 ^ k = 10 ^ (9 * (k / 9)) * 10 ^ (k % 9) := by rw [← Nat.pow_add]; congr 1; omega
          rw [e]
          constructor
          · intro z
            exact (dvd_limb (by omega)).mp (Nat.dvd_of_mul_dvd_mul_left (Nat.pow_pos (by decide)) z)
          · intro z
            exact Nat.mul_dvd_mul_left _ ((dvd_limb (by omega)).mpr z)
        by_cases hz : g (k / 9) % 10 ^ (k % 9) = 0
        · rw [if_pos (hiff.mpr hz)]
          exact q_t (by rw [hz]; rfl) rfl
        · rw [if_neg (fun w => hz (hiff.mp w))]
          exact q_f (fun w => hz ((nI_z (Nat.lt_of_le_of_lt (Nat.mod_le _ _) (h6 _ hlt))).mp w)) rfl
end RE
