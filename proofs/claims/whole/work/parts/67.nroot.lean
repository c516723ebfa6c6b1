/-! ===== the root ===== -/
def sqF : Nat → Nat → Nat
  | 0, _ => 0
  | k + 1, x => if (k + 1) * (k + 1) ≤ x then k + 1 else sqF k x
def sqt (x : Nat) : Nat := sqF x x
theorem sqF_ok : ∀ (k x : Nat), x < (k + 1) * (k + 1) → sqF k x * sqF k x ≤ x ∧ x < (sqF k x + 1) * (sqF k x + 1)
  | 0, x, h => ⟨Nat.zero_le _, h⟩
  | k + 1, x, h => by
    unfold sqF
    by_cases h1 : (k + 1) * (k + 1) ≤ x
    · rw [if_pos h1]; exact ⟨h1, h⟩
    · rw [if_neg h1]; exact sqF_ok k x (by omega)
theorem sqt_le (x : Nat) : sqt x * sqt x ≤ x := (sqF_ok x x (by grind)).1
theorem sqt_lt (x : Nat) : x < (sqt x + 1) * (sqt x + 1) := (sqF_ok x x (by grind)).2
theorem sq_uniq {x r s : Nat} (h1 : r * r ≤ x) (h2 : x < (r + 1) * (r + 1)) (h3 : s * s ≤ x) (h4 : x < (s + 1) * (s + 1)) : r = s := by
  rcases Nat.lt_trichotomy r s with h | h | h
  · have := Nat.mul_le_mul h h
    simp only [Nat.succ_eq_add_one] at this
    omega
  · exact h
  · have := Nat.mul_le_mul h h
    simp only [Nat.succ_eq_add_one] at this
    omega
theorem sqt_eq {x r : Nat} (h1 : r * r ≤ x) (h2 : x < (r + 1) * (r + 1)) : sqt x = r := sq_uniq (sqt_le x) (sqt_lt x) h1 h2
section RO
variable {σ : St}
theorem newton_lo {S s r : Nat} (h1 : s * s ≤ S) (hr : 0 < r) : s ≤ (r + S / r) / 2 := by
  have h2 : 2 * s ≤ r + S / r := by
    by_cases h : 2 * s ≤ r
    · exact Nat.le_trans h (Nat.le_add_right _ _)
    · have h3 : 2 * s - r ≤ S / r := by
        rw [Nat.le_div_iff_mul_le hr]
        refine Nat.le_trans ?_ h1
        by_cases h4 : s ≤ r
        · obtain ⟨d, rfl⟩ : ∃ d, r = s + d := ⟨r - s, by omega⟩
          obtain ⟨e, rfl⟩ : ∃ e, s = d + e := ⟨s - d, by omega⟩
          rw [show 2 * (d + e) - (d + e + d) = e by omega]
          grind
        · obtain ⟨d, rfl⟩ : ∃ d, s = r + d := ⟨s - r, by omega⟩
          rw [show 2 * (r + d) - r = r + 2 * d by omega]
          grind
      omega
  omega
theorem newton_hi {S s r : Nat} (h2 : S < (s + 1) * (s + 1)) (hr : s < r) : (r + S / r) / 2 ≤ (r + s) / 2 := by
  have h3 : S / r < s + 1 := by
    rw [Nat.div_lt_iff_lt_mul (by omega)]
    exact Nat.lt_of_lt_of_le h2 (Nat.mul_le_mul_left _ hr)
  omega
theorem t_ro_loop {S s : Nat} (h1 : s * s ≤ S) (h2 : S < (s + 1) * (s + 1)) (h0 : 0 < s) (hS : S < 2 ^ 62) :
    ∀ (k m t r : Nat), m < k → m + t ≤ 60 → s ≤ r → r < s + 2 ^ m → r ≤ BS → f_X2_rootOf_L7 k σ (lN S) (lN r) (nI t) = some (.inl (lN s)) := by
  intro k
  induction k with
  | zero => intro m t r h; omega
  | succ k ih =>
    intro m t r hk hm hr hr2 hrB
    show b_X2_rootOf_L7 (f_X2_rootOf_L7 k) σ (lN S) (lN r) (nI t) = _
    unfold b_X2_rootOf_L7
    have eB : BS = 1000000000 := rfl
    refine q_f (nI_ge (b := 64) (by omega) (by decide)) ?_
    refine q_f (fun z => by have := (pk_lLE (b := 0) (by omega) (by decide)).mp z; omega) ?_
    refine q_b1 (dvL_eq rfl rfl (by omega) (by omega) (by omega)) ?_
    have hq : S / r ≤ S := Nat.div_le_self _ _
    refine q_b1 (dvL_eq (b := 2) (lN_add _ _) rfl (by omega) (by decide) (by decide)) ?_
    have lo := newton_lo (r := r) h1 (by omega)
    by_cases he : r = s
    · subst he
      refine q_f (fun z => ?_) rfl
      have := (pk_lLT (by omega) (by omega)).mp z
      omega
    · have hi := newton_hi (r := r) h2 (by omega)
      refine q_t ((pk_lLT (by omega) (by omega)).mpr (by omega)) ?_
      refine q_le (nI_1 t) ?_
      rcases m with _ | m
      · rw [Nat.pow_zero] at hr2; omega
      · rw [Nat.pow_succ] at hr2
        exact ih m (t + 1) _ (by omega) (by omega) lo (by omega) (by omega)
theorem t_rootOf {S s : Nat} (h1 : s * s ≤ S) (h2 : S < (s + 1) * (s + 1)) (h0 : 0 < s) (hS : S < BS * BS) : f_X2_rootOf σ (lN S) = some (lN s) := by
  have hFU := FU_ge
  have e1 : BS * BS < 2 ^ 62 := by decide
  have hs : s < BS := Nat.not_le.mp fun z => by
    have := Nat.mul_le_mul z z
    omega
  unfold f_X2_rootOf
  have e3 : (2 : Nat) ^ 30 = 1073741824 := by decide
  have eB : BS = 1000000000 := rfl
  exact q_b1 (t_ro_loop (σ := σ) h1 h2 h0 (by omega) FU 30 0 BS (by omega) (by omega) (by omega) (by omega) (Nat.le_refl _)) rfl
end RO
/-! the pure side of a step -/
/-- what the limb l takes off, for twice the root so far, w -/
def fR (w j l : Nat) : Nat := l * (w * BS + l) * BS ^ (2 * j)
theorem fR_mono {w j a b : Nat} (h : a ≤ b) : fR w j a ≤ fR w j b := by
  unfold fR
  exact Nat.mul_le_mul_right _ (Nat.mul_le_mul h (by omega))
theorem fR_step (w j l : Nat) : fR w j (l + 1) = fR w j l + (w * BS + (2 * l + 1)) * BS ^ (2 * j) := by
  unfold fR
  generalize BS = B
  generalize B ^ (2 * j) = P
  grind
theorem fR_ex {w j W : Nat} (hW : W < (w + 1) * BS ^ (2 * j + 2)) : ∃ v, v < BS ∧ fR w j v ≤ W ∧ W < fR w j (v + 1) := by
  have key : ∀ n : Nat, n ≤ BS → (∃ v, v < BS ∧ fR w j v ≤ W ∧ W < fR w j (v + 1)) ∨ fR w j n ≤ W := by
    intro n
    induction n with
    | zero => intro _; right; unfold fR; rw [Nat.zero_mul, Nat.zero_mul]; exact Nat.zero_le _
    | succ n ih =>
      intro hn
      rcases ih (by omega) with h | h
      · exact Or.inl h
      · by_cases h2 : fR w j (n + 1) ≤ W
        · exact Or.inr h2
        · exact Or.inl ⟨n, by omega, h, by omega⟩
  rcases key BS (Nat.le_refl _) with h | h
  · exact h
  · exfalso
    have e : fR w j BS = (w + 1) * BS ^ (2 * j + 2) := by
      unfold fR
      rw [Nat.pow_add]
      generalize BS = B
      generalize B ^ (2 * j) = P
      grind
    omega
theorem root_next {x r j v W : Nat} (hx : x = (r * BS ^ (j + 1)) * (r * BS ^ (j + 1)) + W) (h1 : fR (2 * r) j v ≤ W) (h2 : W < fR (2 * r) j (v + 1)) : x = ((r * BS + v) * BS ^ j) * ((r * BS + v) * BS ^ j) + (W - fR (2 * r) j v) ∧ W - fR (2 * r) j v < (2 * (r * BS + v) + 1) * BS ^ (2 * j) := by
  constructor
  · obtain ⟨e, he⟩ : ∃ e, W = fR (2 * r) j v + e := ⟨W - fR (2 * r) j v, by omega⟩
    rw [he, Nat.add_sub_cancel_left, hx, he]
    unfold fR
    rw [Nat.pow_succ, show 2 * j = j + j by omega, Nat.pow_add]
    generalize BS = B
    generalize B ^ j = P
    grind
  · rw [fR_step] at h2
    have e : (2 * r * BS + (2 * v + 1)) * BS ^ (2 * j) = (2 * (r * BS + v) + 1) * BS ^ (2 * j) := by
      congr 1
      generalize BS = B
      grind
    omega
/-- the guess is at most 6 above the limb -/
theorem root_guess {w j v W g P : Nat} (hw : 200000000 ≤ w) (hP : 0 < P) (hv : v < BS) (h1 : fR w j v ≤ W) (h2 : W < fR w j (v + 1)) (hg : g = min (W / P / (w * BS ^ (2 * j + 1) / P)) (BS - 1)) (hB : BS ≤ w * BS ^ (2 * j + 1) / P ∨ w * BS ^ (2 * j + 1) % P = 0) (hD : 0 < w * BS ^ (2 * j + 1) / P) : v ≤ g ∧ g ≤ v + 7 := by
  have eB : BS = 1000000000 := rfl
  have e1 : w * BS ^ (2 * j + 1) = w * BS * BS ^ (2 * j) := by rw [Nat.pow_succ, Nat.mul_comm (BS ^ (2 * j)) BS, Nat.mul_assoc]
  have hQ : 0 < BS ^ (2 * j) := Nat.pow_pos (by decide)
  unfold fR at h1 h2
  rw [e1] at hg hB hD
  generalize BS ^ (2 * j) = Q at *
  obtain ⟨D, hDe⟩ : ∃ D, w * BS * Q = D := ⟨_, rfl⟩
  rw [hDe] at hg hB hD
  have d1 := Nat.div_mul_le_self D P
  have d2 : D < (D / P + 1) * P := by
    have := Nat.mod_add_div D P
    have := Nat.mod_lt D hP
    rw [Nat.add_mul, Nat.one_mul, Nat.mul_comm (D / P)]
    omega
  have w2 : W < (W / P + 1) * P := by
    have := Nat.mod_add_div W P
    have := Nat.mod_lt W hP
    rw [Nat.add_mul, Nat.one_mul, Nat.mul_comm (W / P)]
    omega
  have w1 := Nat.div_mul_le_self W P
  have v1 : v * D ≤ W := by
    refine Nat.le_trans ?_ h1
    rw [← hDe]
    have : v * (w * BS + v) * Q = v * (w * BS * Q) + v * v * Q := by grind
    rw [this]
    exact Nat.le_add_right _ _
  constructor
  · rw [hg]
    refine Nat.le_min.mpr ⟨?_, by omega⟩
    rw [Nat.le_div_iff_mul_le hD]
    have q2 : v * (D / P) * P ≤ v * D := by rw [Nat.mul_assoc]; exact Nat.mul_le_mul_left _ d1
    have q3 : v * (D / P) * P < (W / P + 1) * P := Nat.lt_of_le_of_lt (Nat.le_trans q2 v1) w2
    exact Nat.le_of_lt_succ (Nat.lt_of_mul_lt_mul_right q3)
  · refine Nat.not_lt.mp fun hlt => ?_
    have g1 : g ≤ W / P / (D / P) := hg ▸ Nat.min_le_left _ _
    have g2 : g ≤ BS - 1 := hg ▸ Nat.min_le_right _ _
    rw [Nat.le_div_iff_mul_le hD] at g1
    -- (g - 1) * D ≤ W
    obtain ⟨u, hu⟩ : ∃ u, g = u + 1 := ⟨g - 1, by omega⟩
    have g3 : u * D ≤ W := by
      rcases hB with hB | hB
      · have q1 : u * D ≤ u * ((D / P + 1) * P) := Nat.mul_le_mul_left _ (Nat.le_of_lt d2)
        have q2 : u * ((D / P + 1) * P) = (u * (D / P) + u) * P := by rw [← Nat.mul_assoc, Nat.mul_add, Nat.mul_one]
        have q3 : (u * (D / P) + u) * P ≤ W / P * P := Nat.mul_le_mul_right _ (by rw [hu, Nat.add_mul, Nat.one_mul] at g1; omega)
        omega
      · have q0 : D = D / P * P := by
          have := Nat.mod_add_div D P
          rw [hB, Nat.zero_add, Nat.mul_comm] at this
          exact this.symm
        have q1 : u * D ≤ g * D := Nat.mul_le_mul_right _ (by omega)
        have q2 : g * D = g * (D / P) * P := by rw [Nat.mul_assoc, ← q0]
        have q3 : g * (D / P) * P ≤ W / P * P := Nat.mul_le_mul_right _ g1
        omega
    -- but W < (v + 1) * (w * BS + v + 1) * Q ≤ u * D
    have h3 : (v + 1) * (w * BS + (v + 1)) ≤ u * (w * BS) := by
      have h4 : (v + 1) * (v + 1) ≤ BS * BS := Nat.mul_le_mul (by omega) (by omega)
      have h5 : BS * BS ≤ 5 * (w * BS) := by
        rw [← Nat.mul_assoc]
        exact Nat.mul_le_mul_right _ (by omega)
      have h6 : (v + 1 + 5) * (w * BS) ≤ u * (w * BS) := Nat.mul_le_mul_right _ (by omega)
      rw [Nat.add_mul] at h6
      rw [Nat.mul_add]
      exact Nat.le_trans (Nat.add_le_add_left (Nat.le_trans h4 h5) _) h6
    have h7 : (v + 1) * (w * BS + (v + 1)) * Q ≤ u * (w * BS) * Q := Nat.mul_le_mul_right _ h3
    have h8 : u * (w * BS) * Q = u * D := by rw [Nat.mul_assoc, hDe]
    rw [h8] at h7
    exact Nat.lt_irrefl _ (Nat.lt_of_lt_of_le h2 (Nat.le_trans h7 g3))
