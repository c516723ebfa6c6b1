section TR
variable {σ : St} {a L Lt c ct m : Nat} {T G0 : Nat → Nat}
abbrev RS (σ : St) (Lt ct L c : Nat) (FT F : Nat → Int32) : St := stH (stH σ Lt (AA ct FT)) L (AA c F)
theorem RS_t (n1 : L ≠ Lt) {FT F X : Nat → Int32} : stH (RS σ Lt ct L c FT F) Lt (AA ct X) = RS σ Lt ct L c X F := by
  unfold RS
  rw [stH_comm n1, stH_stH]
theorem RS_l {FT F X : Nat → Int32} : stH (RS σ Lt ct L c FT F) L (AA c X) = RS σ Lt ct L c FT X := stH_stH
theorem vl_split {H : Nat → Nat} {p N : Nat} (hp : p ≤ N) (h : ∀ i, p ≤ i → i < N → H i = G0 i) : vl BS H N = vl BS H p + BS ^ p * vl BS (fun i => G0 (p + i)) (N - p) := by
  obtain ⟨d, rfl⟩ : ∃ d, N = p + d := ⟨N - p, by omega⟩
  rw [vl_add, Nat.add_sub_cancel_left]
  congr 2
  exact vl_congr (fun i hi => h (p + i) (by omega) (by omega))
theorem row_val {j n x w : Nat} (hj : j < n) (hw : vl BS (fun i => T (j + 1 + i)) (n - (j + 1)) = w) : vl BS (fun i => up1 T j x (j + i)) (n - j) = w * BS + x := by
  rw [vl_head (Q := up1 T j x) hj]
  have e1 : up1 T j x j = x := by unfold up1; rw [if_pos rfl]
  have e2 : vl BS (fun i => up1 T j x (j + 1 + i)) (n - (j + 1)) = w := by
    rw [← hw]
    exact vl_congr (fun i _ => by unfold up1; rw [if_neg (by omega)])
  rw [e1, e2, Nat.mul_comm, Nat.add_comm]
theorem sgn {A P : Nat} {z Z : Int} (hA : A < P) (h : (A : Int) + z * (P : Int) = Z) : 0 ≤ z ↔ 0 ≤ Z := by
  constructor
  · intro hz
    have : 0 ≤ z * (P : Int) := Int.mul_nonneg hz (by omega)
    omega
  · intro hZ
    refine Int.not_lt.mp fun hz => ?_
    have h1 : z * (P : Int) ≤ (-1) * (P : Int) := Int.mul_le_mul_of_nonneg_right (by omega) (by omega)
    omega
theorem t_trl_loop {f0 ft : Nat → Int32} {j n N w v W : Nat} (ha : σ.1 a = some (OO L m)) (hL : σ.1 L = some (AA c f0)) (hT : σ.1 Lt = some (AA ct ft)) (n1 : L ≠ Lt) (hjn : j < n) (hw : vl BS (fun i => T (j + 1 + i)) (n - (j + 1)) = w) (hTB : ∀ i, j + 1 ≤ i → i < n → T i < 2 * BS) (hn : n ≤ ct) (hct : ct ≤ 4000) (hN : n + j ≤ N) (hc : N ≤ c) (hc4 : c ≤ 4000) (v1 : fR w j v ≤ W) (v2 : W < fR w j (v + 1)) :
    ∀ (k d t : Nat) (F FT : Nat → Int32) (G : Nat → Nat) (z : Int), d < k → d + t ≤ 16 → v + d < BS → (∀ i, i < N → F i = nI (G i) ∧ G i < BS) → (∀ i, n + j ≤ i → i < N → G i = G0 i) → (∀ i, j + 1 ≤ i → i < n → FT i = nI (T i)) → -3000000000 ≤ z → z ≤ 1000000000000000000 + 3 * t → ((vl BS G (n + j) : Nat) : Int) + z * ((BS ^ (n + j) : Nat) : Int) = (W : Int) - (fR w j (v + d) : Nat) →
      ∃ F' FT' G' z', f_X2_takeRootLimb_L55 k (RS σ Lt ct L c FT F) a Lt (nI n) (nI j) (nI (v + d)) (lZ z) (nI t) = some ((nI v, lZ z'), RS σ Lt ct L c FT' F', 0, 0) ∧ (∀ i, i < N → F' i = nI (G' i) ∧ G' i < BS) ∧ (∀ i, n + j ≤ i → i < N → G' i = G0 i) ∧ (∀ i, j + 1 ≤ i → i < n → FT' i = nI (T i)) ∧ 0 ≤ z' ∧ z' ≤ 1000000000000000100 ∧ ((vl BS G' (n + j) : Nat) : Int) + z' * ((BS ^ (n + j) : Nat) : Int) = (W : Int) - (fR w j v : Nat) := by
  intro k
  induction k with
  | zero => intro d t F FT G z h; omega
  | succ k ih =>
    intro d t F FT G z hk hdt hvd g1 g2 g3 z1 z2 hz
    show ∃ F' FT' G' z', b_X2_takeRootLimb_L55 (f_X2_takeRootLimb_L55 k) _ a Lt _ _ _ _ _ = _ ∧ _
    unfold b_X2_takeRootLimb_L55
    have eB : BS = 1000000000 := rfl
    have hlow : vl BS G (n + j) < BS ^ (n + j) := vl_lt (fun i hi => (g1 i (by omega)).2)
    have hsg := sgn hlow hz
    rcases d with _ | d
    · have hz0 : 0 ≤ z := hsg.mpr (by rw [Nat.add_zero]; omega)
      refine ⟨F, FT, G, z, ?_, g1, g2, g3, hz0, by omega, hz⟩
      rw [Nat.add_zero]
      by_cases ht : t = 16
      · exact q_t (by rw [ht]; decide) rfl
      · refine q_f (nI_ge (b := 16) (by omega) (by decide)) ?_
        exact q_t ((lZ_le (a := 0) (by omega) (by omega) (by omega) (by omega)).mpr hz0) rfl
    · have hmono : fR w j (v + 1) ≤ fR w j (v + (d + 1)) := fR_mono (by omega)
      have hz0 : ¬ 0 ≤ z := fun h => by have := hsg.mp h; omega
      have hst := fR_step w j (v + d)
      have qt : (stH σ Lt (AA ct (upd FT j (nI (2 * (v + d) + 1))))).1 Lt = some (AA ct (upd FT j (nI (2 * (v + d) + 1)))) := stH_s
      have qL : (stH σ Lt (AA ct (upd FT j (nI (2 * (v + d) + 1))))).1 L = some (AA c f0) := by rw [stH_n n1]; exact hL
      have qa : (stH σ Lt (AA ct (upd FT j (nI (2 * (v + d) + 1))))).1 a = some (OO L m) := by rw [stH_n (ne_OA hT ha)]; exact ha
      obtain ⟨F1, G1, u, s1, s2, s3, s4, s5⟩ := t_ab (σ := stH σ Lt (AA ct (upd FT j (nI (2 * (v + d) + 1))))) (F := F) (G := G) (fm := j) (sh := j) (n := n) (gd := up1 T j (2 * (v + d) + 1)) qa qL qt n1 (by omega) (fun i h1 h2 => by
        unfold up1
        by_cases hi : i = j
        · subst hi; rw [if_pos rfl, pk_us]
        · rw [if_neg hi, pk_un hi]; exact g3 i (by omega) h2) hn hct (fun i h1 h2 => by
        unfold up1
        by_cases hi : i = j
        · rw [if_pos hi]; omega
        · rw [if_neg hi]; exact hTB i (by omega) h2) hN hc hc4 g1
      rw [row_val hjn hw] at s5
      have g4 : ∀ i, n + j ≤ i → i < N → G1 i = G0 i := fun i h1 h2 => (s4 i (Or.inr h1) h2).trans (g2 i h1 h2)
      rw [vl_split hN g2, vl_split hN g4, show j + j = 2 * j by omega] at s5
      have s6 : vl BS G1 (n + j) + u * BS ^ (n + j) = vl BS G (n + j) + (w * BS + (2 * (v + d) + 1)) * BS ^ (2 * j) := by omega
      have hz' : ((vl BS G1 (n + j) : Nat) : Int) + (z + u) * ((BS ^ (n + j) : Nat) : Int) = (W : Int) - (fR w j (v + d) : Nat) := by
        have s7 : ((vl BS G1 (n + j) : Nat) : Int) + ((u * BS ^ (n + j) : Nat) : Int) = ((vl BS G (n + j) : Nat) : Int) + (((w * BS + (2 * (v + d) + 1)) * BS ^ (2 * j) : Nat) : Int) := by exact_mod_cast s6
        rw [Int.add_mul]
        rw [show v + (d + 1) = v + d + 1 by omega, hst] at hz
        have e9 : ((u * BS ^ (n + j) : Nat) : Int) = (u : Int) * ((BS ^ (n + j) : Nat) : Int) := Int.natCast_mul _ _
        rw [e9] at s7
        generalize ((BS ^ (n + j) : Nat) : Int) = P at *
        generalize (w * BS + (2 * (v + d) + 1)) * BS ^ (2 * j) = R at *
        omega
      obtain ⟨F', FT', G', z', i1, i2, i3, i4, i5, i6, i7⟩ := ih d (t + 1) F1 (upd FT j (nI (2 * (v + d) + 1))) G1 (z + u) (by omega) (by omega) (by omega) s3 g4 (fun i h1 h2 => by rw [pk_un (by omega)]; exact g3 i h1 h2) (by omega) (by omega) hz'
      refine ⟨F', FT', G', z', ?_, i2, i3, i4, i5, i6, i7⟩
      refine q_f (nI_ge (b := 16) (by omega) (by decide)) ?_
      refine q_f (fun h => hz0 ((lZ_le (a := 0) (by omega) (by omega) (by omega) (by omega)).mp h)) ?_
      refine q_b1 (stI_eq (i := j) (n := ct) (f := FT) (by rw [stH_n n1.symm, stH_s]) rfl (by omega) (by omega)) ?_
      rw [show (2 : Int32) * nI (v + (d + 1)) - 1 = nI (2 * (v + d) + 1) by rw [show (2 : Int32) = nI 2 from rfl, pk_mul, show (1 : Int32) = nI 1 from rfl, pk_sub (by omega)]; congr 1]
      have eS : stH (RS σ Lt ct L c FT F) Lt (AA ct (upd FT j (nI (2 * (v + d) + 1)))) = RS σ Lt ct L c (upd FT j (nI (2 * (v + d) + 1))) F := RS_t n1
      rw [eS]
      refine q_bd0 s2 ?_
      refine q_le (y := lZ (z + u)) (by rw [lZ_n, lZ_add]) ?_
      refine q_le (y := nI (v + d)) (by rw [show v + (d + 1) = v + d + 1 by omega, pk_m1]) ?_
      exact q_le (nI_1 t) i1
theorem asm {low A B1 P α β X1 X2 τ : Nat} (h1 : X1 + A * P = low + P * (A + B1 * BS) + α * P) (h2 : X2 + B1 * (P * BS) = X1 + β * (P * BS)) (hτ : α + BS * β = τ) : X2 = low + τ * P := by
  subst hτ
  have e1 : P * (A + B1 * BS) = A * P + B1 * (P * BS) := by rw [Nat.mul_add, Nat.mul_comm P A, Nat.mul_left_comm]
  have e2 : (α + BS * β) * P = α * P + β * (P * BS) := by rw [Nat.add_mul, Nat.mul_comm BS β, Nat.mul_assoc, Nat.mul_comm BS P]
  omega
theorem t_trl {f0 ft F FT : Nat → Int32} {G : Nat → Nat} {j n N w v g : Nat} (ha : σ.1 a = some (OO L m)) (hL : σ.1 L = some (AA c f0)) (hT : σ.1 Lt = some (AA ct ft)) (n1 : L ≠ Lt) (hjn : j < n) (hw : vl BS (fun i => T (j + 1 + i)) (n - (j + 1)) = w) (hTB : ∀ i, j + 1 ≤ i → i < n → T i < 2 * BS) (hn : n ≤ ct) (hct : ct ≤ 4000) (hN : n + j + 2 ≤ N) (hc : N ≤ c) (hc4 : c ≤ 4000) (v1 : fR w j v ≤ vl BS G N) (v2 : vl BS G N < fR w j (v + 1)) (hg : g < BS) (hvg : v ≤ g) (hgv : g ≤ v + 7) (g1 : ∀ i, i < N → F i = nI (G i) ∧ G i < BS) (g3 : ∀ i, j + 1 ≤ i → i < n → FT i = nI (T i)) (hW : vl BS G N < BS ^ (n + j + 2)) :
    ∃ F' FT' G', f_X2_takeRootLimb (RS σ Lt ct L c FT F) a Lt (nI n) (nI j) (nI g) = some (nI v, RS σ Lt ct L c FT' F', 0, 0) ∧ (∀ i, i < N → F' i = nI (G' i) ∧ G' i < BS) ∧ (∀ i, j + 1 ≤ i → i < n → FT' i = nI (T i)) ∧ vl BS G' N = vl BS G N - fR w j v := by
  have eB : BS = 1000000000 := rfl
  have hFU := FU_ge
  have hG : ∀ i, i < N → G i < BS := fun i hi => (g1 i hi).2
  have hz := vl_top0 (by decide) hG hW
  have qL : (stH σ Lt (AA ct (upd FT j (nI g)))).1 L = some (AA c f0) := by rw [stH_n n1]; exact hL
  have qa : (stH σ Lt (AA ct (upd FT j (nI g)))).1 a = some (OO L m) := by rw [stH_n (ne_OA hT ha)]; exact ha
  obtain ⟨F1, G1, u, s1, s2, s3, s4, s5⟩ := t_st (σ := stH σ Lt (AA ct (upd FT j (nI g)))) (F := F) (G := G) (t := g) (fm := j) (sh := j) (n := n) (N := N) (gd := up1 T j g) qa qL stH_s n1 (by omega) (fun i h1 h2 => by
    unfold up1
    by_cases hi : i = j
    · subst hi; rw [if_pos rfl, pk_us]
    · rw [if_neg hi, pk_un hi]; exact g3 i (by omega) h2) hn hct (fun i h1 h2 => by
    unfold up1
    by_cases hi : i = j
    · rw [if_pos hi]; omega
    · rw [if_neg hi]; exact hTB i (by omega) h2) hg (by omega) hc hc4 g1
  rw [row_val hjn hw, show j + j = 2 * j by omega] at s5
  have hpN : n + j ≤ N := by omega
  have g4 : ∀ i, n + j ≤ i → i < N → G1 i = G i := fun i h1 h2 => s4 i (Or.inr h1) h2
  have etop : vl BS (fun i => G (n + j + i)) (N - (n + j)) = G (n + j) + G (n + j + 1) * BS := by
    rw [vl_pad (n := 2) (by omega) (fun i h1 h2 => hz (n + j + i) (by omega) (by omega))]
    show 0 + G (n + j + 0) * BS ^ 0 + G (n + j + 1) * BS ^ 1 = _
    rw [Nat.pow_zero, Nat.mul_one, Nat.pow_one, Nat.add_zero, Nat.zero_add]
  have spl := vl_split (G0 := G) hpN (fun i _ _ => rfl)
  have spl1 := vl_split (G0 := G) hpN g4
  rw [etop] at spl spl1
  have b1 := hG (n + j) (by omega)
  have b2 := hG (n + j + 1) (by omega)
  obtain ⟨τ0, hτ0⟩ : ∃ τ0, G (n + j) + G (n + j + 1) * BS = τ0 := ⟨_, rfl⟩
  have hτB : τ0 < 1000000000000000000 := by
    have : G (n + j + 1) * BS ≤ 999999999 * BS := Nat.mul_le_mul_right _ (by omega)
    omega
  rw [hτ0] at spl spl1
  rw [spl1] at s5
  have hz1 : ((vl BS G1 (n + j) : Nat) : Int) + ((τ0 : Int) - u) * ((BS ^ (n + j) : Nat) : Int) = (vl BS G N : Int) - (fR w j (v + (g - v)) : Nat) := by
    rw [show v + (g - v) = g by omega]
    have s6 : vl BS G1 (n + j) + BS ^ (n + j) * τ0 + fR w j g = vl BS G N + u * BS ^ (n + j) := s5
    have s7 : ((vl BS G1 (n + j) : Nat) : Int) + ((BS ^ (n + j) * τ0 : Nat) : Int) + ((fR w j g : Nat) : Int) = (vl BS G N : Int) + ((u * BS ^ (n + j) : Nat) : Int) := by exact_mod_cast s6
    rw [Int.sub_mul]
    rw [Int.natCast_mul, Int.natCast_mul, Int.mul_comm _ (τ0 : Int)] at s7
    omega
  obtain ⟨F2, FT2, G2, z, i1, i2, i3, i4, i5, i6, i7⟩ := t_trl_loop (G0 := G) (W := vl BS G N) ha hL hT n1 hjn hw hTB hn hct hpN hc hc4 v1 v2 FU (g - v) 0 F1 (upd FT j (nI g)) G1 ((τ0 : Int) - u) (by omega) (by omega) (by omega) s3 g4 (fun i h1 h2 => by rw [pk_un (by omega)]; exact g3 i h1 h2) (by omega) (by omega) hz1
  rw [show v + (g - v) = g by omega] at i1
  obtain ⟨τ, rfl⟩ : ∃ τ : Nat, z = τ := ⟨z.toNat, by omega⟩
  have hfin : vl BS G2 (n + j) + τ * BS ^ (n + j) = vl BS G N - fR w j v := by
    have e9 : ((τ * BS ^ (n + j) : Nat) : Int) = (τ : Int) * ((BS ^ (n + j) : Nat) : Int) := Int.natCast_mul _ _
    rw [← e9] at i7
    omega
  have hτ : τ / BS < BS := by
    rw [Nat.div_lt_iff_lt_mul (by decide)]
    have h1 : τ * BS ^ (n + j) < BS * BS * BS ^ (n + j) := by
      have e1 : BS ^ (n + j + 2) = BS * BS * BS ^ (n + j) := by rw [Nat.pow_succ, Nat.pow_succ, Nat.mul_assoc, Nat.mul_comm]
      rw [e1] at hW
      omega
    exact Nat.lt_of_mul_lt_mul_right h1
  have spl2 := vl_split (G0 := G) hpN i3
  rw [etop] at spl2
  have u1 := vl_upd (B := BS) (G := G2) (p := n + j) (d := τ % BS) N (by omega)
  have u2 := vl_upd (B := BS) (G := up1 G2 (n + j) (τ % BS)) (p := n + j + 1) (d := τ / BS) N (by omega)
  rw [i3 (n + j) (Nat.le_refl _) (by omega), spl2] at u1
  rw [show up1 G2 (n + j) (τ % BS) (n + j + 1) = G (n + j + 1) by unfold up1; rw [if_neg (by omega)]; exact i3 (n + j + 1) (by omega) (by omega), Nat.pow_succ] at u2
  have u3 := asm u1 u2 (Nat.mod_add_div τ BS)
  refine ⟨_, FT2, _, ?_, cells_upd (cells_upd i2 (Nat.mod_lt _ (by decide))) hτ, i4, u3.trans hfin⟩
  have ra : ∀ X Y, (RS σ Lt ct L c X Y).1 a = some (OO L m) := fun X Y => by rw [stH_n (ne_OA hL ha), stH_n (ne_OA hT ha)]; exact ha
  clear hfin u1 u2 u3 spl spl1 spl2 s5 hz1 i7 etop hW hz
  unfold f_X2_takeRootLimb
  refine q_ob (ra _ _) ?_
  refine q_b1 (stI_eq (i := j) (n := ct) (f := FT) (by rw [stH_n n1.symm, stH_s]) rfl (by omega) (by omega)) ?_
  have eS : stH (RS σ Lt ct L c FT F) Lt (AA ct (upd FT j (nI g))) = RS σ Lt ct L c (upd FT j (nI g)) F := RS_t n1
  rw [eS]
  refine q_b1 (gR_eq (ra _ _) rfl) ?_
  refine q_b1 (ldI_eq (i := n + j + 1) stH_s (by rw [nI_add, nI_1]) (by omega) (by omega)) ?_
  refine q_b1 (gR_eq (ra _ _) rfl) ?_
  refine q_b1 (ldI_eq (i := n + j) stH_s (nI_add ..) (by omega) (by omega)) ?_
  refine q_le (y := lN τ0) (by rw [(g1 _ (by omega)).1, (g1 _ (by omega)).1, nI_l (bs_lt b1), nI_l (bs_lt b2), show (1000000000 : Int64) = lN BS from rfl, lN_mul, lN_add, ← hτ0, Nat.add_comm]) ?_
  rw [nI_l (bs_lt hg)]
  refine q_bd0 s2 ?_
  refine q_le (y := lZ ((τ0 : Int) - u)) (by rw [lZ_n, lZ_n, lZ_sub]) ?_
  refine q_bd0 i1 ?_
  refine q_b1 (gR_eq (ra _ _) rfl) ?_
  refine q_b1 (rmL_eq (a := τ) (b := BS) rfl rfl (by omega) (by decide) (by decide)) ?_
  rw [lN_i]
  refine q_b1 (stI_eq (i := n + j) stH_s (nI_add ..) (by omega) (by omega)) ?_
  rw [stH_stH]
  refine q_b1 (gR_eq (ra _ _) rfl) ?_
  refine q_b1 (dvL_eq (a := τ) (b := BS) rfl rfl (by omega) (by decide) (by decide)) ?_
  rw [lN_i]
  refine q_b1 (stI_eq (i := n + j + 1) stH_s (by rw [nI_add, nI_1]) (by omega) (by omega)) ?_
  rw [stH_stH]
end TR
