abbrev BS : Nat := 1000000000
/-- no number that the methods handle has more digits -/
def Em : Nat := 17000
def NR (σ : St) (a L c n : Nat) (g : Nat → Nat) : Prop := σ.1 a = some (OO L n) ∧ (∃ f, σ.1 L = some (AA c f) ∧ ∀ j, j < n → f j = nI (g j)) ∧ n ≤ c ∧ c ≤ 4000
def Nm (n : Nat) (g : Nat → Nat) : Prop := (∀ j, j < n → g j < BS) ∧ (0 < n → 0 < g (n - 1))
/-- the object a is a Natural of value x, its limbs in the array L of c places -/
def NV (σ : St) (a L c x : Nat) : Prop := ∃ n g, NR σ a L c n g ∧ Nm n g ∧ vl BS g n = x
def TN (σ : St) : Prop := ∃ f, σ.1 σ.2.2 = some (.inr (.inr (10, f))) ∧ ∀ j, j < 10 → f j = nI (10 ^ j)
theorem tens {σ : St} (h : TN σ) {x : Int32} {i : Nat} (hx : x = nI i) (hi : i < 10) : ldI σ σ.2.2 x = some (nI (10 ^ i)) := by
  obtain ⟨f, h1, h2⟩ := h
  rw [ldI_ro h1 hx hi (by decide), h2 i hi]
theorem p10_lt {i : Nat} (h : i < 10) : 10 ^ i < 2 ^ 31 := by
  have : 10 ^ i ≤ 10 ^ 9 := Nat.pow_le_pow_right (by omega) (by omega)
  have e : (10 : Nat) ^ 9 = 1000000000 := by decide
  omega
/-! how many digits a number has -/
def ndF : Nat → Nat → Nat
  | 0, _ => 1
  | k + 1, x => if x < 10 then 1 else ndF k (x / 10) + 1
def nd (x : Nat) : Nat := ndF x x
theorem ndF_ok : ∀ (k x : Nat), x ≤ k → 0 < ndF k x ∧ x < 10 ^ ndF k x ∧ (10 ^ (ndF k x - 1) ≤ x ∨ ndF k x = 1)
  | 0, x, h => by
    have : x = 0 := by omega
    subst this
    exact ⟨by decide, by decide, Or.inr rfl⟩
  | k + 1, x, h => by
    unfold ndF
    by_cases h1 : x < 10
    · rw [if_pos h1]
      exact ⟨by decide, h1, Or.inr rfl⟩
    · rw [if_neg h1]
      obtain ⟨g1, g2, g3⟩ := ndF_ok k (x / 10) (by omega)
      have e1 : (10 : Nat) ^ (ndF k (x / 10) + 1) = 10 ^ ndF k (x / 10) * 10 := Nat.pow_succ ..
      refine ⟨by omega, by omega, Or.inl ?_⟩
      rw [Nat.add_sub_cancel]
      rcases g3 with g3 | g3
      · have e2 : (10 : Nat) ^ ndF k (x / 10) = 10 ^ (ndF k (x / 10) - 1) * 10 := by
          rw [← Nat.pow_succ]
          congr 1
          omega
        omega
      · rw [g3]; omega
theorem nd_pos (x : Nat) : 0 < nd x := (ndF_ok x x (Nat.le_refl _)).1
theorem nd_lt (x : Nat) : x < 10 ^ nd x := (ndF_ok x x (Nat.le_refl _)).2.1
theorem nd_ge {x : Nat} (h : 0 < x) : 10 ^ (nd x - 1) ≤ x := by
  rcases (ndF_ok x x (Nat.le_refl _)).2.2 with g | g
  · exact g
  · have : nd x = 1 := g
    rw [this]; exact h
theorem p10_le {a b : Nat} (h : a ≤ b) : 10 ^ a ≤ 10 ^ b := Nat.pow_le_pow_right (by omega) h
theorem p10_inj {a b : Nat} (h : 10 ^ a < 10 ^ b) : a < b := Nat.not_le.mp fun z => by have := p10_le z; omega
theorem nd_eq {x d : Nat} (h0 : 0 < d) (h1 : x < 10 ^ d) (h2 : 10 ^ (d - 1) ≤ x ∨ d = 1) : nd x = d := by
  have a1 := nd_pos x
  have a2 := nd_lt x
  rcases Nat.lt_trichotomy (nd x) d with h | h | h
  · rcases h2 with h2 | h2
    · have := p10_le (show nd x ≤ d - 1 by omega)
      omega
    · omega
  · exact h
  · have hx : 0 < x := Nat.pos_of_ne_zero fun z => by
      subst z
      have : nd 0 = 1 := rfl
      omega
    have := nd_ge hx
    have := p10_le (show d ≤ nd x - 1 by omega)
    omega
theorem nd_zero : nd 0 = 1 := rfl
theorem nd_le {x d : Nat} (h0 : 0 < d) : nd x ≤ d ↔ x < 10 ^ d := by
  constructor
  · intro h
    exact Nat.lt_of_lt_of_le (nd_lt x) (p10_le h)
  · intro h
    by_cases hx : x = 0
    · subst hx; rw [nd_zero]; exact h0
    · have := nd_ge (x := x) (by omega)
      have := p10_inj (Nat.lt_of_le_of_lt this h)
      omega
theorem BS_pow (q : Nat) : BS ^ q = 10 ^ (9 * q) := by rw [Nat.pow_mul]
section RD
variable {σ : St} {a L c x : Nat}
theorem NV.split (h : NV σ a L c x) : ∃ n g f, σ.1 a = some (OO L n) ∧ σ.1 L = some (AA c f) ∧ (∀ j, j < n → f j = nI (g j)) ∧ n ≤ c ∧ c ≤ 4000 ∧ (∀ j, j < n → g j < BS) ∧ (0 < n → 0 < g (n - 1)) ∧ vl BS g n = x := by
  obtain ⟨n, g, ⟨h1, ⟨f, h2, h3⟩, h4, h5⟩, ⟨h6, h7⟩, h8⟩ := h
  exact ⟨n, g, f, h1, h2, h3, h4, h5, h6, h7, h8⟩
theorem NV.mk {n : Nat} {g : Nat → Nat} {f : Nat → Int32} (h1 : σ.1 a = some (OO L n)) (h2 : σ.1 L = some (AA c f)) (h3 : ∀ j, j < n → f j = nI (g j)) (h4 : n ≤ c) (h5 : c ≤ 4000) (h6 : ∀ j, j < n → g j < BS) (h7 : 0 < n → 0 < g (n - 1)) (h8 : vl BS g n = x) : NV σ a L c x := ⟨n, g, ⟨h1, ⟨f, h2, h3⟩, h4, h5⟩, ⟨h6, h7⟩, h8⟩
theorem nm_pos {n : Nat} {g : Nat → Nat} (h7 : 0 < n → 0 < g (n - 1)) (hn : 0 < n) : BS ^ (n - 1) ≤ vl BS g n := by
  have := vl_ge (B := BS) (g := g) (n := n - 1) (h7 hn)
  rwa [Nat.sub_add_cancel hn] at this
theorem nm_zero {n : Nat} {g : Nat → Nat} (h7 : 0 < n → 0 < g (n - 1)) : n = 0 ↔ vl BS g n = 0 := by
  constructor
  · rintro rfl; rfl
  · intro h
    rcases Nat.eq_zero_or_pos n with z | z
    · exact z
    · have := nm_pos h7 z
      have := Nat.pow_pos (n := n - 1) (show 0 < BS by decide)
      omega
theorem bs_lt {v : Nat} (h : v < BS) : v < 2 ^ 31 := by
  have : BS = 1000000000 := rfl
  omega
theorem t_isZero (h : NV σ a L c x) : f_X2_isZero σ a = some (if x = 0 then 1 else 0) := by
  obtain ⟨n, g, f, h1, h2, h3, h4, h5, h6, h7, h8⟩ := h.split
  unfold f_X2_isZero
  refine q_ob h1 ?_
  refine q_b1 (gI_eq h1 rfl) ?_
  by_cases hn : n = 0
  · have hx : x = 0 := by rw [← h8]; exact (nm_zero h7).mp hn
    subst hn
    rw [if_pos hx]
    exact q_t rfl rfl
  · have hx : ¬ x = 0 := fun z => hn ((nm_zero h7).mpr (h8.trans z))
    rw [if_neg hx]
    exact q_f (nI_ne0 (by omega) (by omega)) rfl
theorem t_isOne (h : NV σ a L c x) : f_X2_isOne σ a = some (if x = 1 then 1 else 0) := by
  obtain ⟨n, g, f, h1, h2, h3, h4, h5, h6, h7, h8⟩ := h.split
  unfold f_X2_isOne
  refine q_ob h1 ?_
  refine q_b1 (gI_eq h1 rfl) ?_
  by_cases hn : n = 1
  · subst hn
    refine q_t rfl ?_
    refine q_b1 (gR_eq h1 rfl) ?_
    refine q_b1 (ldI_eq (i := 0) h2 rfl (by omega) (by omega)) ?_
    have hx : x = g 0 := by rw [← h8]; simp [vl]
    rw [h3 0 (by omega), hx]
    by_cases h9 : g 0 = 1
    · rw [h9]
      exact q_t rfl rfl
    · rw [if_neg h9]
      exact q_f (fun z => h9 ((nI_eq (bs_lt (h6 0 (by omega))) (by decide)).mp (show nI (g 0) = nI 1 from z))) rfl
  · have hx : ¬ x = 1 := by
      intro z
      rcases Nat.eq_zero_or_pos n with w | w
      · subst w
        have : vl BS g 0 = 0 := rfl
        omega
      · have := nm_pos h7 w
        have h9 : BS ^ 1 ≤ BS ^ (n - 1) := Nat.pow_le_pow_right (by decide) (by omega)
        have : BS ^ 1 = 1000000000 := by decide
        omega
    rw [if_neg hx]
    exact q_f (fun z => hn ((nI_eq (by omega) (by decide)).mp (show nI n = nI 1 from z))) rfl
theorem t_isOdd (h : NV σ a L c x) : f_X2_isOdd σ a = some (nI (x % 2)) := by
  obtain ⟨n, g, f, h1, h2, h3, h4, h5, h6, h7, h8⟩ := h.split
  unfold f_X2_isOdd
  refine q_ob h1 ?_
  refine q_b1 (gI_eq h1 rfl) ?_
  rcases Nat.eq_zero_or_pos n with w | w
  · subst w
    have hx : x = 0 := h8.symm
    subst hx
    exact q_t (by decide) rfl
  · refine q_f (nI_nle w (by omega)) ?_
    refine q_b1 (gR_eq h1 rfl) ?_
    refine q_b1 (ldI_eq (i := 0) h2 rfl (by omega) (by omega)) ?_
    have hx : x % 2 = g 0 % 2 := by
      obtain ⟨d, rfl⟩ : ∃ d, n = 1 + d := ⟨n - 1, by omega⟩
      rw [← h8, vl_add]
      have e : vl BS g 1 = g 0 := by simp [vl]
      rw [e, Nat.pow_one]
      have : BS = 2 * 500000000 := rfl
      rw [this, Nat.mul_assoc]
      omega
    rw [h3 0 (by omega), hx]
    have hm : nI (g 0) &&& 1 = nI (g 0 % 2) := pk_andN (k := 1) (by have := h6 0 (by omega); have e : BS = 1000000000 := rfl; omega) (by decide)
    rw [hm]
    rcases Nat.mod_two_eq_zero_or_one (g 0) with z | z
    · rw [z]; exact q_t rfl rfl
    · rw [z]; exact q_f (by decide) rfl
theorem t_dc_loop (hT : TN σ) {t : Nat} (ht : t < BS) : ∀ (k i : Nat), 9 - i < k → 0 < i → i ≤ 9 → (10 ^ (i - 1) ≤ t ∨ i = 1) → ∃ d, 0 < d ∧ d ≤ 9 ∧ f_X2_digitCount_L23 k σ a (nI t) (nI i) = some (nI d) ∧ t < 10 ^ d ∧ (10 ^ (d - 1) ≤ t ∨ d = 1) := by
  intro k
  induction k with
  | zero => intro i h; omega
  | succ k ih =>
    intro i hk h0 h9 hi
    show ∃ d, 0 < d ∧ d ≤ 9 ∧ b_X2_digitCount_L23 (f_X2_digitCount_L23 k) σ a (nI t) (nI i) = _ ∧ _
    unfold b_X2_digitCount_L23
    have e9 : (10 : Nat) ^ 9 = 1000000000 := by decide
    have eB : BS = 1000000000 := rfl
    by_cases hi9 : i = 9
    · refine ⟨9, by decide, by decide, q_t (by rw [hi9]; decide) (by rw [hi9]), by omega, ?_⟩
      rw [hi9] at hi
      exact hi
    · have e1 : ¬ (9 : Int32) ≤ nI i := nI_ge (a := i) (b := 9) (by omega) (by decide)
      by_cases hti : t < 10 ^ i
      · refine ⟨i, h0, h9, q_f e1 ?_, hti, hi⟩
        refine q_b1 (tens hT rfl (by omega)) ?_
        exact q_t ((nI_ltI (bs_lt ht) (p10_lt (by omega))).mpr hti) rfl
      · obtain ⟨d, g1, g2, g3, g4, g5⟩ := ih (i + 1) (by omega) (by omega) (by omega) (Or.inl (by rw [Nat.add_sub_cancel]; omega))
        refine ⟨d, g1, g2, q_f e1 ?_, g4, g5⟩
        refine q_b1 (tens hT rfl (by omega)) ?_
        refine q_f (fun z => hti ((nI_ltI (bs_lt ht) (p10_lt (by omega))).mp z)) ?_
        refine q_le (nI_1 i) ?_
        exact g3
theorem t_digitCount (hT : TN σ) (h : NV σ a L c x) : f_X2_digitCount σ a = some (nI (nd x)) := by
  obtain ⟨n, g, f, h1, h2, h3, h4, h5, h6, h7, h8⟩ := h.split
  have hF := FU_ge
  unfold f_X2_digitCount
  refine q_ob h1 ?_
  refine q_b1 (gI_eq h1 rfl) ?_
  rcases Nat.eq_zero_or_pos n with w | w
  · subst w
    have hx : x = 0 := h8.symm
    subst hx
    exact q_t rfl rfl
  · refine q_f (nI_ne0 w (by omega)) ?_
    refine q_b1 (gR_eq h1 rfl) ?_
    refine q_b1 (gI_eq h1 rfl) ?_
    have e1 : nI n - 1 = nI (n - 1) := pk_sub (b := 1) w
    refine q_b1 (ldI_eq h2 e1 (by omega) (by omega)) ?_
    rw [h3 (n - 1) (by omega)]
    obtain ⟨d, g1, g2, g3, g4, g5⟩ := t_dc_loop (a := a) hT (h6 (n - 1) (by omega)) FU 1 (by omega) (by decide) (by decide) (Or.inr rfl)
    refine q_b1 g3 ?_
    refine q_b1 (gI_eq h1 rfl) ?_
    show some ((nI n - 1) * nI 9 + nI d) = _
    rw [e1, pk_mul, nI_add]
    congr 2
    have hlow : vl BS g (n - 1) < BS ^ (n - 1) := vl_lt (fun j hj => h6 j (by omega))
    have hv : x = vl BS g (n - 1) + g (n - 1) * BS ^ (n - 1) := by
      rw [← h8]
      obtain ⟨m, rfl⟩ : ∃ m, n = m + 1 := ⟨n - 1, by omega⟩
      rfl
    rw [BS_pow] at hlow hv
    refine (nd_eq (by omega) ?_ (Or.inl ?_)).symm
    · rw [hv, show (n - 1) * 9 + d = 9 * (n - 1) + d by omega, Nat.pow_add]
      have h9 : (g (n - 1) + 1) * 10 ^ (9 * (n - 1)) ≤ 10 ^ d * 10 ^ (9 * (n - 1)) := Nat.mul_le_mul_right _ g4
      rw [Nat.add_mul, Nat.one_mul] at h9
      rw [Nat.mul_comm (10 ^ (9 * (n - 1)))]
      omega
    · rw [hv, show (n - 1) * 9 + d - 1 = 9 * (n - 1) + (d - 1) by omega, Nat.pow_add]
      have h10 : 10 ^ (d - 1) ≤ g (n - 1) := by
        rcases g5 with z | z
        · exact z
        · rw [z]; exact h7 w
      have h9 : 10 ^ (d - 1) * 10 ^ (9 * (n - 1)) ≤ g (n - 1) * 10 ^ (9 * (n - 1)) := Nat.mul_le_mul_right _ h10
      rw [Nat.mul_comm (10 ^ (9 * (n - 1)))]
      omega
theorem dig_low {y r : Nat} (hr : r < 9) : y / 10 ^ r % 10 = y % BS / 10 ^ r % 10 := by
  have e : y = y % BS + 10 ^ r * (10 ^ (8 - r) * 10 * (y / BS)) := by
    have e1 : (10 : Nat) ^ r * (10 ^ (8 - r) * 10) = BS := by
      rw [← Nat.mul_assoc, ← Nat.pow_add, ← Nat.pow_succ, show (r + (8 - r)).succ = 9 by omega]
    rw [← Nat.mul_assoc, e1]
    have := Nat.mod_add_div y BS
    omega
  have e2 : y / 10 ^ r = y % BS / 10 ^ r + 10 ^ (8 - r) * 10 * (y / BS) := by
    conv => lhs; rw [e]
    rw [Nat.add_mul_div_left _ _ (Nat.pow_pos (by decide))]
  rw [e2, show 10 ^ (8 - r) * 10 * (y / BS) = 10 * (10 ^ (8 - r) * (y / BS)) by rw [Nat.mul_comm (10 ^ (8 - r)) 10, Nat.mul_assoc], Nat.add_mul_mod_self_left]
theorem t_digitAt (hT : TN σ) (h : NV σ a L c x) {k : Nat} {y : Int32} (hy : y = nI k) (hk : k < 2 ^ 31) : f_X2_digitAt σ a y = some (nI (x / 10 ^ k % 10)) := by
  obtain ⟨n, g, f, h1, h2, h3, h4, h5, h6, h7, h8⟩ := h.split
  subst hy
  unfold f_X2_digitAt
  refine q_ob h1 ?_
  refine q_f (nI_pos hk) ?_
  have d9 := dvI_eq (x := nI k) (y := 9) (b := 9) rfl rfl hk (by decide) (by decide)
  have r9 := rmI_eq (x := nI k) (y := 9) (b := 9) rfl rfl hk (by decide) (by decide)
  refine q_b1 d9 ?_
  refine q_b1 (gI_eq h1 rfl) ?_
  by_cases hlt : k / 9 < n
  · refine q_t ((nI_ltI (by omega) (by omega)).mpr hlt) ?_
    refine q_b1 (gR_eq h1 rfl) ?_
    refine q_b1 d9 ?_
    refine q_b1 (ldI_eq h2 rfl (by omega) (by omega)) ?_
    refine q_b1 r9 ?_
    refine q_b1 (tens hT rfl (by omega)) ?_
    rw [h3 _ hlt]
    have hb := h6 _ hlt
    refine q_b1 (dvI_eq rfl rfl (bs_lt hb) (Nat.pow_pos (by decide)) (p10_lt (by omega))) ?_
    refine q_b1 (rmI_eq (b := 10) rfl rfl (Nat.lt_of_le_of_lt (Nat.div_le_self _ _) (bs_lt hb)) (by decide) (by decide)) ?_
    congr 2
    have e1 : x / 10 ^ k = x / BS ^ (k / 9) / 10 ^ (k % 9) := by
      rw [Nat.div_div_eq_div_mul, BS_pow, ← Nat.pow_add]
      congr 2
      omega
    rw [e1, dig_low (y := x / BS ^ (k / 9)) (by omega), ← h8, vl_digit (by decide) h6 hlt]
  · refine q_f (fun z => hlt ((nI_ltI (by omega) (by omega)).mp z)) ?_
    have hx : x < 10 ^ k := by
      rw [← h8]
      have := vl_lt h6
      rw [BS_pow] at this
      exact Nat.lt_of_lt_of_le this (p10_le (by omega))
    rw [Nat.div_eq_of_lt hx]
    rfl
theorem t_digitAtN (h : NV σ a L c x) {y : Int32} (hy : y < 0) : f_X2_digitAt σ a y = some 0 := by
  obtain ⟨n, g, f, h1, h2, h3, h4, h5, h6, h7, h8⟩ := h.split
  unfold f_X2_digitAt
  refine q_ob h1 ?_
  exact q_t hy rfl
end RD
