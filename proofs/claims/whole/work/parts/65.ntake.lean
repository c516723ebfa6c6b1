section TL
variable {σ : St} {a L Ld c cd n : Nat} {gd : Nat → Nat}
theorem vl_top0 {B : Nat} {G : Nat → Nat} {N k : Nat} (hB : 0 < B) (hG : ∀ j, j < N → G j < B) (h : vl B G N < B ^ k) : ∀ j, k ≤ j → j < N → G j = 0 := by
  intro j h1 h2
  rw [← vl_digit hB hG h2]
  have : vl B G N < B ^ j := Nat.lt_of_lt_of_le h (Nat.pow_le_pow_right hB h1)
  rw [Nat.div_eq_of_lt this, Nat.zero_mod]
theorem guess_ok {W D P : Nat} (hP : 0 < P) (hB : BS ≤ D / P) (hW : W < D * BS) : W / D ≤ min (W / P / (D / P)) (BS - 1) ∧ min (W / P / (D / P)) (BS - 1) ≤ W / D + 1 := by
  have eB : BS = 1000000000 := rfl
  have hD : 0 < D := Nat.pos_of_ne_zero fun z => by subst z; rw [Nat.zero_div] at hB; omega
  have d1 := Nat.div_mul_le_self D P
  have d2 : D < (D / P + 1) * P := by
    have := Nat.mod_add_div D P
    have := Nat.mod_lt D hP
    rw [Nat.add_mul, Nat.one_mul, Nat.mul_comm (D / P)]
    omega
  have w1 := Nat.div_mul_le_self W P
  have w2 : W < (W / P + 1) * P := by
    have := Nat.mod_add_div W P
    have := Nat.mod_lt W hP
    rw [Nat.add_mul, Nat.one_mul, Nat.mul_comm (W / P)]
    omega
  constructor
  · refine Nat.le_min.mpr ⟨?_, ?_⟩
    · rw [Nat.le_div_iff_mul_le (by omega)]
      have q1 : W / D * D ≤ W := Nat.div_mul_le_self W D
      have q2 : W / D * (D / P) * P ≤ W / D * D := by rw [Nat.mul_assoc]; exact Nat.mul_le_mul_left _ d1
      have q3 : W / D * (D / P) * P < (W / P + 1) * P := by omega
      have := Nat.lt_of_mul_lt_mul_right q3
      omega
    · have : W / D < BS := by rw [Nat.div_lt_iff_lt_mul hD, Nat.mul_comm]; exact hW
      exact Nat.le_of_lt_succ this
  · rcases Nat.eq_zero_or_pos (min (W / P / (D / P)) (BS - 1)) with z | z
    · rw [z]; exact Nat.zero_le _
    · obtain ⟨g, hg⟩ : ∃ g, min (W / P / (D / P)) (BS - 1) = g + 1 := ⟨_, (Nat.succ_pred_eq_of_pos z).symm⟩
      have g1 : g + 1 ≤ W / P / (D / P) := hg ▸ Nat.min_le_left _ _
      have g2 : g + 1 ≤ BS - 1 := hg ▸ Nat.min_le_right _ _
      rw [hg]
      refine Nat.succ_le_succ ?_
      rw [Nat.le_div_iff_mul_le hD]
      rw [Nat.le_div_iff_mul_le (by omega)] at g1
      have q1 : g * D ≤ g * ((D / P + 1) * P) := Nat.mul_le_mul_left _ (Nat.le_of_lt d2)
      have q2 : g * ((D / P + 1) * P) = (g * (D / P) + g) * P := by rw [← Nat.mul_assoc, Nat.mul_add, Nat.mul_one]
      have q3 : (g * (D / P) + g) * P ≤ W / P * P := Nat.mul_le_mul_right _ (by rw [Nat.add_mul, Nat.one_mul] at g1; omega)
      omega
theorem vl3 {G : Nat → Nat} {N p : Nat} (hG : ∀ j, j < N → G j < BS) (hp : p + 3 ≤ N) (h : vl BS G N < BS ^ (p + 3)) : vl BS G N / BS ^ p = (G (p + 2) * BS + G (p + 1)) * BS + G p := by
  rw [vl_pad hp (vl_top0 (by decide) hG h), vl_div (fun j hj => hG j (by omega))]
  clear h
  show 0 + G (p + 0) * BS ^ 0 + G (p + 1) * BS ^ 1 + G (p + 2) * BS ^ 2 = _
  rw [Nat.pow_zero, Nat.mul_one, Nat.pow_one, show BS ^ 2 = BS * BS from rfl, Nat.add_mul, Nat.add_zero, ← Nat.mul_assoc]
  omega
theorem vl2 {G : Nat → Nat} {p : Nat} (hG : ∀ j, j < p + 2 → G j < BS) : vl BS G (p + 2) / BS ^ p = G (p + 1) * BS + G p := by
  rw [vl_div (fun j hj => hG j (by omega))]
  show 0 + G (p + 0) * BS ^ 0 + G (p + 1) * BS ^ 1 = _
  rw [Nat.pow_zero, Nat.mul_one, Nat.pow_one, Nat.add_zero, Nat.zero_add, Nat.add_comm]
theorem w_lt {D n k W : Nat} (hD : D < BS ^ n) (hW : W < D * BS ^ k * BS) : W < BS ^ (n + k + 1) :=
  Nat.lt_of_lt_of_le hW (by rw [Nat.pow_succ, Nat.pow_add]; exact Nat.mul_le_mul_right _ (Nat.mul_le_mul_right _ (Nat.le_of_lt hD)))
theorem guess_pure {t2 t1 t0 h l P D W : Nat} (hP : 0 < P) (hD : D / P = h * BS + l) (hT : W / P = (t2 * BS + t1) * BS + t0) (h0 : 0 < h) (hl : l < BS) (hW : W < D * BS) :
    (W / D ≤ min (((t2 * BS + t1) * BS + t0) / (h * BS + l)) (BS - 1) ∧ min (((t2 * BS + t1) * BS + t0) / (h * BS + l)) (BS - 1) ≤ W / D + 1) ∧ (t2 * BS + t1) / h ≤ 2 * BS := by
  have h1 : BS ≤ h * BS := Nat.le_mul_of_pos_left _ h0
  have ok := guess_ok hP (by rw [hD]; exact Nat.le_trans h1 (Nat.le_add_right _ _)) hW
  rw [hD, hT] at ok
  refine ⟨ok, ?_⟩
  have d2 : D < (h * BS + BS) * P := by
    have q1 := Nat.mod_add_div D P
    have q2 := Nat.mod_lt D hP
    rw [hD] at q1
    have q3 : (h * BS + l + 1) * P ≤ (h * BS + BS) * P := Nat.mul_le_mul_right _ (by omega)
    rw [Nat.add_mul, Nat.one_mul, Nat.mul_comm _ P] at q3
    omega
  have d3 : D * BS ≤ (h * BS + BS) * P * BS := Nat.mul_le_mul_right _ (Nat.le_of_lt d2)
  have h4 : W / P < (h * BS + BS) * BS := by
    rw [Nat.div_lt_iff_lt_mul hP, Nat.mul_assoc, Nat.mul_comm BS, ← Nat.mul_assoc]
    exact Nat.lt_of_lt_of_le hW d3
  rw [hT] at h4
  have h5 : (t2 * BS + t1) * BS < (h * BS + BS) * BS := Nat.lt_of_le_of_lt (Nat.le_add_right _ _) h4
  have h6 := Nat.lt_of_mul_lt_mul_right h5
  have h7 : h * BS + BS ≤ 2 * BS * h := by
    have e : 2 * BS * h = h * BS + h * BS := by rw [Nat.mul_comm (2 * BS), show 2 * BS = BS + BS from rfl, Nat.mul_add]
    rw [e]
    exact Nat.add_le_add_left h1 _
  refine Nat.le_of_lt ?_
  rw [Nat.div_lt_iff_lt_mul h0]
  exact Nat.lt_of_lt_of_le h6 h7
/-- guessLimb, for a divisor of n = e + 2 limbs -/
theorem t_guess {f0 fd F : Nat → Int32} {G : Nat → Nat} {e at' N m : Nat} (ha : σ.1 a = some (OO L m)) (hL : σ.1 L = some (AA c f0)) (hLd : σ.1 Ld = some (AA cd fd)) (n1 : L ≠ Ld) (d3 : ∀ j, j < e + 2 → fd j = nI (gd j)) (d4 : e + 2 ≤ cd) (d5 : cd ≤ 4000) (d6 : ∀ j, j < e + 2 → gd j < BS) (d7 : 0 < gd (e + 1)) (hN : at' + e + 3 ≤ N) (hc : N ≤ c) (hc4 : c ≤ 4000) (g1 : ∀ j, j < N → F j = nI (G j) ∧ G j < BS) (hW : vl BS G N < vl BS gd (e + 2) * BS ^ at' * BS) :
    ∃ t, f_X2_guessLimb (stH σ L (AA c F)) a Ld (nI (e + 2)) (nI (at' + (e + 2))) = some (nI t) ∧ t < BS ∧ vl BS G N / (vl BS gd (e + 2) * BS ^ at') ≤ t ∧ t ≤ vl BS G N / (vl BS gd (e + 2) * BS ^ at') + 1 := by
  have eB : BS = 1000000000 := rfl
  have qa : (stH σ L (AA c F)).1 a = some (OO L m) := by rw [stH_n (ne_OA hL ha)]; exact ha
  have qd : (stH σ L (AA c F)).1 Ld = some (AA cd fd) := by rw [stH_n n1.symm]; exact hLd
  have hG : ∀ j, j < N → G j < BS := fun j hj => (g1 j hj).2
  have hD2 : vl BS gd (e + 2) * BS ^ at' / BS ^ (at' + e) = gd (e + 1) * BS + gd e := by
    rw [show at' + e = e + at' by omega, Nat.pow_add, Nat.mul_div_mul_right _ _ (Nat.pow_pos (by decide)), vl2 d6]
  have b1 := hG (at' + e + 2) (by omega)
  have b2 := hG (at' + e + 1) (by omega)
  have b3 := hG (at' + e) (by omega)
  have b4 := d6 (e + 1) (by omega)
  have b5 := d6 e (by omega)
  have hT3 := vl3 hG hN (by have := w_lt (vl_lt d6) hW; rwa [show e + 2 + at' + 1 = at' + e + 3 by omega] at this)
  obtain ⟨ok, hq⟩ := guess_pure (Nat.pow_pos (by decide)) hD2 hT3 d7 b5 hW
  have hdm := Nat.mod_add_div (G (at' + e + 2) * BS + G (at' + e + 1)) (gd (e + 1))
  refine ⟨min (((G (at' + e + 2) * BS + G (at' + e + 1)) * BS + G (at' + e)) / (gd (e + 1) * BS + gd e)) (BS - 1), ?_, ?_, ok⟩
  · clear ok hD2 hT3 hW
    unfold f_X2_guessLimb
    refine q_ob qa ?_
    refine q_b1 (ldI_eq (i := e + 1) qd (pk_sub (b := 1) (by omega)) (by omega) (by omega)) ?_
    refine q_le (y := lN (gd (e + 1))) (by rw [d3 _ (by omega), nI_l (bs_lt b4)]) ?_
    refine q_f (lN_ne0 d7 (by omega)) ?_
    refine q_b1 (gR_eq qa rfl) ?_
    refine q_b1 (ldI_eq (i := at' + e + 2) stH_s rfl (by omega) (by omega)) ?_
    refine q_b1 (gR_eq qa rfl) ?_
    refine q_b1 (ldI_eq (i := at' + e + 1) stH_s (pk_sub (b := 1) (by omega)) (by omega) (by omega)) ?_
    refine q_le (y := lN (G (at' + e + 2) * BS + G (at' + e + 1))) (by rw [(g1 _ (by omega)).1, (g1 _ (by omega)).1, nI_l (bs_lt b1), nI_l (bs_lt b2), show (1000000000 : Int64) = lN BS from rfl, lN_mul, lN_add]) ?_
    have hs : G (at' + e + 2) * BS + G (at' + e + 1) < 2 ^ 63 := by
      have : G (at' + e + 2) * BS ≤ BS * BS := Nat.mul_le_mul_right _ (by omega)
      have e2 : BS * BS < 2 ^ 62 := by decide
      omega
    refine q_b1 (dvL_eq rfl rfl hs d7 (by omega)) ?_
    refine q_b1 (rmL_eq rfl rfl hs d7 (by omega)) ?_
    refine q_b1 (ldI_eq (i := e) qd (pk_sub (b := 2) (by omega)) (by omega) (by omega)) ?_
    refine q_b1 (gR_eq qa rfl) ?_
    refine q_b1 (ldI_eq (i := at' + e) stH_s (pk_sub (b := 2) (by omega)) (by omega) (by omega)) ?_
    rw [d3 _ (by omega), (g1 _ (by omega)).1, nI_l (bs_lt b5), nI_l (bs_lt b3)]
    refine q_b1 (t_refine (Nat.mod_lt _ d7) (by omega) b5 b3 hq) ?_
    rw [show (G (at' + e + 2) * BS + G (at' + e + 1)) / gd (e + 1) * gd (e + 1) + (G (at' + e + 2) * BS + G (at' + e + 1)) % gd (e + 1) = G (at' + e + 2) * BS + G (at' + e + 1) by rw [Nat.mul_comm]; omega]
  · exact Nat.lt_of_le_of_lt (Nat.min_le_right _ _) (by decide)
theorem tk_eq {A R x y P : Nat} (hA : A < P) (hR : R < P) (h : A + x * P = R + y * P) : x = y ∧ A = R := by
  have hP : 0 < P := by omega
  have e1 : (A + x * P) / P = (R + y * P) / P := by rw [h]
  rw [Nat.add_mul_div_right _ _ hP, Nat.add_mul_div_right _ _ hP, Nat.div_eq_of_lt hA, Nat.div_eq_of_lt hR] at e1
  have e2 : x = y := by omega
  subst e2
  exact ⟨rfl, by omega⟩
/-- takeLimb: the window above at' is taken down to what is left -/
theorem t_take {f0 fd F : Nat → Int32} {G : Nat → Nat} {at' t N m : Nat} (ha : σ.1 a = some (OO L m)) (hL : σ.1 L = some (AA c f0)) (hLd : σ.1 Ld = some (AA cd fd)) (n1 : L ≠ Ld) (d3 : ∀ j, j < n → fd j = nI (gd j)) (d4 : n ≤ cd) (d5 : cd ≤ 4000) (d6 : ∀ j, j < n → gd j < BS) (hd0 : 0 < vl BS gd n) (hN : at' + n < N) (hc : N ≤ c) (hc4 : c ≤ 4000) (g1 : ∀ j, j < N → F j = nI (G j) ∧ G j < BS) (hW : vl BS G N < vl BS gd n * BS ^ at' * BS) (ht : t < BS) (t1 : vl BS G N / (vl BS gd n * BS ^ at') ≤ t) (t2 : t ≤ vl BS G N / (vl BS gd n * BS ^ at') + 1) :
    ∃ F' G', f_X2_takeLimb (stH σ L (AA c F)) a Ld (nI n) (nI at') (nI t) = some (nI (vl BS G N / (vl BS gd n * BS ^ at')), stH σ L (AA c F'), 0, 0) ∧ (∀ j, j < N → F' j = nI (G' j) ∧ G' j < BS) ∧ vl BS G' N = vl BS G N % (vl BS gd n * BS ^ at') := by
  have eB : BS = 1000000000 := rfl
  have hFU := FU_ge
  obtain ⟨F1, G1, v1, s1, s2, s3, s4, s5⟩ := t_st (F := F) (G := G) (t := t) (sh := at') (fm := 0) ha hL hLd n1 (Nat.zero_le _) (fun j _ hj => d3 j hj) d4 d5 (fun j _ hj => Nat.lt_of_lt_of_le (d6 j hj) (by decide)) ht (by omega : n + at' ≤ N) hc hc4 g1
  have qa : ∀ H, (stH σ L (AA c H)).1 a = some (OO L m) := fun H => by rw [stH_n (ne_OA hL ha)]; exact ha
  have hG : ∀ j, j < N → G j < BS := fun j hj => (g1 j hj).2
  have hDP : vl BS gd n * BS ^ at' < BS ^ (n + at') := by rw [Nat.pow_add]; exact Nat.mul_lt_mul_of_pos_right (vl_lt d6) (Nat.pow_pos (by decide))
  have hD0 : 0 < vl BS gd n * BS ^ at' := Nat.mul_pos hd0 (Nat.pow_pos (by decide))
  have hz := vl_top0 (by decide) hG (w_lt (vl_lt d6) hW)
  clear hW
  have edd : vl BS (fun i => gd (0 + i)) (n - 0) = vl BS gd n := vl_congr (fun j _ => by rw [Nat.zero_add])
  rw [edd, Nat.zero_add, Nat.mul_assoc] at s5
  have hp : n + at' + 1 ≤ N := by omega
  have low : ∀ H : Nat → Nat, (∀ j, j < N → H j < BS) → (∀ j, (j < 0 + at' ∨ n + at' ≤ j) → j < N → H j = G j) → ∃ A, A < BS ^ (n + at') ∧ vl BS H N = A + G (n + at') * BS ^ (n + at') := by
    intro H h1 h2
    refine ⟨vl BS H (n + at'), vl_lt (fun j hj => h1 j (by omega)), ?_⟩
    rw [vl_pad hp (fun j q1 q2 => by rw [h2 j (Or.inr (by omega)) q2]; exact hz j q1 q2)]
    show vl BS H (n + at') + H (n + at') * BS ^ (n + at') = _
    rw [h2 (n + at') (Or.inr (Nat.le_refl _)) (by omega)]
  obtain ⟨A1, a1, a2⟩ := low G1 (fun j hj => (s3 j hj).2) s4
  have hT := hG (n + at') (by omega)
  have fin : ∀ (H : Nat → Nat) (FH : Nat → Int32) (A : Nat), (∀ j, j < N → FH j = nI (H j) ∧ H j < BS) → (∀ j, (j < 0 + at' ∨ n + at' ≤ j) → j < N → H j = G j) → vl BS H N = A + G (n + at') * BS ^ (n + at') → (∀ j, j < N → upd FH (n + at') (nI 0) j = nI (up1 H (n + at') 0 j) ∧ up1 H (n + at') 0 j < BS) ∧ vl BS (up1 H (n + at') 0) N = A := by
    intro H FH A h1 h2 h3
    refine ⟨cells_upd h1 (by decide), ?_⟩
    have e1 := vl_upd (B := BS) (G := H) (p := n + at') (d := 0) N (by omega)
    rw [h2 (n + at') (Or.inr (Nat.le_refl _)) (by omega), h3, Nat.zero_mul, Nat.add_zero] at e1
    exact Nat.add_right_cancel e1
  rw [a2] at s5
  have hdm := Nat.mod_add_div (vl BS G N) (vl BS gd n * BS ^ at')
  have hml := Nat.mod_lt (vl BS G N) hD0
  obtain ⟨q, hq⟩ : ∃ q, vl BS G N / (vl BS gd n * BS ^ at') = q := ⟨_, rfl⟩
  obtain ⟨r, hr⟩ : ∃ r, vl BS G N % (vl BS gd n * BS ^ at') = r := ⟨_, rfl⟩
  rw [hq] at hdm t1 t2 ⊢
  rw [hr] at hdm hml ⊢
  rw [← hdm] at s5
  by_cases hcase : t = q
  · have e1 : A1 + G (n + at') * BS ^ (n + at') = r + v1 * BS ^ (n + at') := by
      rw [hcase, Nat.mul_comm q] at s5
      exact Nat.add_right_cancel (s5.trans (Nat.add_right_comm ..))
    obtain ⟨e2, e3⟩ := tk_eq a1 (Nat.lt_trans hml hDP) e1
    obtain ⟨u1, u2⟩ := fin G1 F1 A1 s3 s4 a2
    refine ⟨_, _, ?_, u1, u2.trans e3⟩
    unfold f_X2_takeLimb
    refine q_ob (qa _) ?_
    refine q_b1 (gR_eq (qa _) rfl) ?_
    refine q_b1 (ldI_eq (i := n + at') stH_s (by rw [nI_add]; congr 1; omega) (by omega) (by omega)) ?_
    rw [nI_l (bs_lt ht)]
    refine q_bd0 s2 ?_
    refine q_le (y := lN 0) (by rw [(g1 _ (by omega)).1, nI_l (bs_lt hT), e2, lN_sub (Nat.le_refl _), Nat.sub_self]) ?_
    refine q_j1 (nI t, lN 0, stH σ L (AA c F1)) (fun k => q_t (by decide) rfl) ?_
    refine q_b1 (gR_eq (qa _) rfl) ?_
    refine q_b1 (stI_eq (i := n + at') stH_s (by rw [nI_add]; congr 1; omega) (by omega) (by omega)) ?_
    rw [stH_stH, lN_i, hcase]
  · have htq : t = q + 1 := by omega
    obtain ⟨F2, G2, v2, r1, r2, r3, r4, r5⟩ := t_ab (F := F1) (G := G1) (sh := at') (fm := 0) ha hL hLd n1 (Nat.zero_le _) (fun j _ hj => d3 j hj) d4 d5 (fun j _ hj => Nat.lt_of_lt_of_le (d6 j hj) (by decide)) (by omega : n + at' ≤ N) hc hc4 s3
    rw [edd, Nat.zero_add] at r5
    have r4' : ∀ j, (j < 0 + at' ∨ n + at' ≤ j) → j < N → G2 j = G j := fun j q1 q2 => (r4 j q1 q2).trans (s4 j q1 q2)
    obtain ⟨A2, b1, b2⟩ := low G2 (fun j hj => (r3 j hj).2) r4'
    rw [a2, b2] at r5
    obtain ⟨u1, u2⟩ := fin G2 F2 A2 r3 r4' b2
    have main : G (n + at') + 1 = v1 ∧ v2 = 1 ∧ A2 = r := by
      clear u1 u2 r4' r4 r3 r2 fin low s4 s3 s2 edd hq hr b2 a2 hdm d6 d3
      rw [htq, Nat.add_mul, Nat.one_mul, Nat.mul_comm q] at s5
      generalize hDe : vl BS gd n * BS ^ at' = D at *
      generalize hPe : BS ^ (n + at') = P at *
      generalize G (n + at') = T at *
      have e1 : (A1 + D) + T * P = r + v1 * P := by omega
      have e2 : A1 + D < 2 * P := by omega
      by_cases hlt : A1 + D < P
      · obtain ⟨e3, e4⟩ := tk_eq hlt (Nat.lt_trans hml hDP) e1
        omega
      · have e5 : (A1 + D - P) + (T + 1) * P = r + v1 * P := by rw [Nat.add_mul, Nat.one_mul]; omega
        obtain ⟨e3, e4⟩ := tk_eq (by omega) (Nat.lt_trans hml hDP) e5
        have e6 : A2 + v2 * P = r + 1 * P := by omega
        obtain ⟨e7, e8⟩ := tk_eq b1 (Nat.lt_trans hml hDP) e6
        exact ⟨e3, e7, e8⟩
    obtain ⟨e2, e4, e3⟩ := main
    subst e4
    refine ⟨_, _, ?_, u1, u2.trans e3⟩
    unfold f_X2_takeLimb
    refine q_ob (qa _) ?_
    refine q_b1 (gR_eq (qa _) rfl) ?_
    refine q_b1 (ldI_eq (i := n + at') stH_s (by rw [nI_add]; congr 1; omega) (by omega) (by omega)) ?_
    rw [nI_l (bs_lt ht)]
    refine q_bd0 s2 ?_
    refine q_le (y := lZ (-1)) (by rw [(g1 _ (by omega)).1, nI_l (bs_lt hT), ← e2, lZ_n, lZ_n, lZ_sub]; congr 1; omega) ?_
    refine q_j1 (nI q, lN 0, stH σ L (AA c F2)) (fun k => q_f (by decide) ?_) ?_
    · refine q_le (y := nI q) (by rw [htq, pk_m1]) ?_
      refine q_bd0 r2 ?_
      exact q_le (y := lN 0) (by decide) rfl
    refine q_b1 (gR_eq (qa _) rfl) ?_
    refine q_b1 (stI_eq (i := n + at') stH_s (by rw [nI_add]; congr 1; omega) (by omega) (by omega)) ?_
    rw [stH_stH, lN_i]
end TL
