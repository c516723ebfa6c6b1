/-- behind takeRoot: a becomes what is left, b the root, d is used up -/
def P3 (σ : St) (a L c b Lb cb d Ld cd x y z : Nat) : Unit → St → Nat → Nat → Prop := fun _ σ' k s => ∃ Lb' cb' Ld' cd', NV σ' a L c x ∧ NV σ' b Lb' cb' y ∧ NV σ' d Ld' cd' z ∧ (Lb' = Lb ∨ σ.2.1 ≤ Lb') ∧ (Ld' = Ld ∨ σ.2.1 ≤ Ld') ∧ L ≠ Lb' ∧ L ≠ Ld' ∧ Lb' ≠ Ld' ∧ Fr (fun q => q = a ∨ q = L ∨ q = b ∨ q = Lb ∨ q = d ∨ q = Ld) σ σ' ∧ cb ≤ cb' ∧ cd ≤ cd' ∧ k ≤ s ∧ s + 2 * cb + 2 * cd ≤ 2 * cb' + 2 * cd'
section TK
variable {σ : St} {a b d L Lb Lt c cb ct : Nat}
theorem S3_b (n1 : L ≠ Lb) (n3 : Lb ≠ Lt) {FR FT F X : Nat → Int32} : stH (RS (stH σ Lb (AA cb FR)) Lt ct L c FT F) Lb (AA cb X) = RS (stH σ Lb (AA cb X)) Lt ct L c FT F := by
  unfold RS
  rw [stH_comm n1, stH_comm n3.symm, stH_stH]
theorem vl_head1 {Q : Nat → Nat} {m n r : Nat} (h : m < n) (hr : vl BS (fun j => Q (m + 1 + j)) (n - (m + 1)) = r) : vl BS (fun j => Q (m + j)) (n - m) = r * BS + Q m := by
  rw [vl_head h, hr, Nat.mul_comm, Nat.add_comm]
theorem dbl {r v B : Nat} (h : B ≤ 2 * v) : (2 * r + 1) * B + (2 * v - B) = 2 * (r * B + v) := by
  have : (2 * r + 1) * B = 2 * (r * B) + B := by rw [Nat.add_mul, Nat.one_mul, Nat.mul_assoc]
  omega
theorem t_rt_loop {x n N mr mt : Nat} {f0 fr ft : Nat → Int32} (ha : σ.1 a = some (OO L N)) (hL : σ.1 L = some (AA c f0)) (hb : σ.1 b = some (OO Lb mr)) (hLb : σ.1 Lb = some (AA cb fr)) (hd : σ.1 d = some (OO Lt mt)) (hLt : σ.1 Lt = some (AA ct ft)) (n1 : L ≠ Lb) (n2 : L ≠ Lt) (n3 : Lb ≠ Lt) (hN : N = 2 * n) (hc : N ≤ c) (hc4 : c ≤ 4000) (hcb : n ≤ cb) (hcb4 : cb ≤ 4000) (hct : n ≤ ct) (hct4 : ct ≤ 4000) :
    ∀ (k s r : Nat) (F FR FT : Nat → Int32) (G R T : Nat → Nat), s < k → s < n → (∀ i, i < N → F i = nI (G i) ∧ G i < BS) → (∀ i, s ≤ i → i < n → FR i = nI (R i) ∧ R i < BS) → (∀ i, s ≤ i → i < n → FT i = nI (T i) ∧ T i < (if i = n - 1 then 2 * BS else BS)) → T s + 1 < (if s = n - 1 then 2 * BS else BS) → 200000000 ≤ T (n - 1) → vl BS (fun i => R (s + i)) (n - s) = r → vl BS (fun i => T (s + i)) (n - s) = 2 * r → x = (r * BS ^ s) * (r * BS ^ s) + vl BS G N → vl BS G N < (2 * r + 1) * BS ^ (2 * s) →
      ∃ F' FR' FT' G' R', f_X2_takeRoot_L157 k (RS (stH σ Lb (AA cb FR)) Lt ct L c FT F) a b d (nI n) (nI s + (-1)) = some ((), RS (stH σ Lb (AA cb FR')) Lt ct L c FT' F', 0, 0) ∧ (∀ i, i < N → F' i = nI (G' i) ∧ G' i < BS) ∧ (∀ i, i < n → FR' i = nI (R' i) ∧ R' i < BS) ∧ x = vl BS R' n * vl BS R' n + vl BS G' N ∧ vl BS G' N < 2 * vl BS R' n + 1 := by
  intro k
  induction k with
  | zero => intro s r F FR FT G R T h; omega
  | succ k ih =>
    intro s r F FR FT G R T hk hs g1 g2 g3 g4 g5 hR hT hx hW
    show ∃ F' FR' FT' G' R', b_X2_takeRoot_L157 (f_X2_takeRoot_L157 k) _ a b d _ _ = _ ∧ _
    unfold b_X2_takeRoot_L157
    have eB : BS = 1000000000 := rfl
    rcases Nat.eq_zero_or_pos s with w0 | w0
    · subst w0
      have e1 : vl BS (fun i => R (0 + i)) (n - 0) = vl BS R n := vl_congr (fun j _ => by rw [Nat.zero_add])
      rw [e1] at hR
      rw [Nat.mul_zero, Nat.pow_zero, Nat.mul_one] at hW
      rw [Nat.pow_zero, Nat.mul_one] at hx
      exact ⟨F, FR, FT, G, R, q_t (by decide) rfl, g1, fun j hj => g2 j (Nat.zero_le _) hj, by rw [hR]; exact hx, by rw [hR]; exact hW⟩
    · obtain ⟨j, rfl⟩ : ∃ j, s = j + 1 := ⟨s - 1, by omega⟩
      rw [pk_m1]
      obtain ⟨e, he⟩ : ∃ e, n = e + j + 2 := ⟨n - j - 2, by omega⟩
      have hW2 : vl BS G N < (2 * r + 1) * BS ^ (2 * j + 2) := hW
      obtain ⟨v, hv, v1, v2⟩ := fR_ex hW2
      have hTw : vl BS (fun i => T (j + 1 + i)) (e + 1) = 2 * r := by rw [← hT]; congr 1; omega
      have hn1 : n - 1 = j + 1 + e := by omega
      have tw : TW ct FT T j e := by
        refine ⟨fun i h1 h2 => (g3 i h1 (by omega)).1, fun i hi => ?_, ?_, ?_, by omega, hct4⟩
        · have := (g3 (j + 1 + i) (by omega) (by omega)).2
          rwa [if_neg (by omega)] at this
        · have := (g3 (j + 1 + e) (by omega) (by omega)).2
          rwa [if_pos (by omega)] at this
        · rw [← hn1]; exact g5
      have qa : (stH (stH σ Lb (AA cb FR)) Lt (AA ct FT)).1 a = some (OO L N) := by rw [stH_n (ne_OA hLt ha), stH_n (ne_OA hLb ha)]; exact ha
      have qL : (stH (stH σ Lb (AA cb FR)) Lt (AA ct FT)).1 L = some (AA c f0) := by rw [stH_n n2, stH_n n1]; exact hL
      obtain ⟨g, r1, r2, r3, r4⟩ := t_gr (σ := stH (stH σ Lb (AA cb FR)) Lt (AA ct FT)) (F := F) (G := G) (N := N) qa qL stH_s n2 tw hTw (by omega) hc hc4 g1 hW2 hv v1 v2
      have qa2 : (stH σ Lb (AA cb FR)).1 a = some (OO L N) := by rw [stH_n (ne_OA hLb ha)]; exact ha
      have qL2 : (stH σ Lb (AA cb FR)).1 L = some (AA c f0) := by rw [stH_n n1]; exact hL
      have qt2 : (stH σ Lb (AA cb FR)).1 Lt = some (AA ct ft) := by rw [stH_n n3.symm]; exact hLt
      have hWl : vl BS G N < BS ^ (n + j + 2) := by
        have := gr_lt (hTw ▸ tw.lt) hW2
        rwa [show e + 2 * j + 1 + 3 = n + j + 2 by omega] at this
      obtain ⟨F1, FT1, G1, s1, s2, s3, s4⟩ := t_trl (σ := stH σ Lb (AA cb FR)) (F := F) (FT := FT) (G := G) (T := T) (N := N) (j := j) (n := n) (w := 2 * r) qa2 qL2 qt2 n2 (by omega) hT (fun i h1 h2 => by
          have := (g3 i h1 h2).2
          by_cases hi : i = n - 1
          · rwa [if_pos hi] at this
          · rw [if_neg hi] at this; omega) hct hct4 (by omega) hc hc4 v1 v2 r2 r3 r4 g1 (fun i h1 h2 => (g3 i h1 h2).1) hWl
      obtain ⟨x1, x2⟩ := root_next hx v1 v2
      rw [← s4] at x1 x2
      have ra : ∀ X Y Z, (RS (stH σ Lb (AA cb X)) Lt ct L c Y Z).1 b = some (OO Lb mr) := fun X Y Z => by rw [stH_n (ne_OA hL hb), stH_n (ne_OA hLt hb), stH_n (ne_OA hLb hb)]; exact hb
      have rd : ∀ X Y Z, (RS (stH σ Lb (AA cb X)) Lt ct L c Y Z).1 d = some (OO Lt mt) := fun X Y Z => by rw [stH_n (ne_OA hL hd), stH_n (ne_OA hLt hd), stH_n (ne_OA hLb hd)]; exact hd
      have rT : ∀ X Y Z, (RS (stH σ Lb (AA cb X)) Lt ct L c Y Z).1 Lt = some (AA ct Y) := fun X Y Z => by rw [stH_n n2.symm, stH_s]
      have rB : ∀ X Y Z, (RS (stH σ Lb (AA cb X)) Lt ct L c Y Z).1 Lb = some (AA cb X) := fun X Y Z => by rw [stH_n n1.symm, stH_n n3, stH_s]
      have hR2 : vl BS (fun i => up1 R j v (j + i)) (n - j) = r * BS + v := row_val (by omega) hR
      have g2' : ∀ i, j ≤ i → i < n → upd FR j (nI v) i = nI (up1 R j v i) ∧ up1 R j v i < BS := fun i h1 h2 => by
        unfold up1
        by_cases hi : i = j
        · subst hi; rw [if_pos rfl, pk_us]; exact ⟨rfl, hv⟩
        · rw [if_neg hi, pk_un hi]; exact g2 i (by omega) h2
      clear hWl hW2 hW hx v1 v2 s4
      by_cases hcase : 2 * v < BS
      · obtain ⟨F', FR', FT', G', R', i1, i2, i3, i4, i5⟩ := ih j (r * BS + v) F1 (upd FR j (nI v)) (upd FT1 j (nI (2 * v))) G1 (up1 R j v) (up1 T j (2 * v)) (by omega) (by omega) s2 g2' (fun i h1 h2 => by
            unfold up1
            by_cases hi : i = j
            · subst hi; rw [if_pos rfl, pk_us, if_neg (by omega)]; exact ⟨rfl, by omega⟩
            · rw [if_neg hi, pk_un hi]; exact ⟨s3 i (by omega) h2, (g3 i (by omega) h2).2⟩) (by unfold up1; rw [if_pos rfl, if_neg (by omega)]; omega) (by unfold up1; rw [if_neg (by omega)]; exact g5) hR2 (by rw [row_val (by omega) hT]; grind) x1 x2
        refine ⟨F', FR', FT', G', R', ?_, i2, i3, i4, i5⟩
        refine q_f (nI_pos (by omega)) ?_
        refine q_b1 (gR_eq (rd _ _ _) rfl) ?_
        refine q_b1 (gR_eq (rd _ _ _) rfl) ?_
        rw [he]
        refine q_b1 r1 ?_
        rw [← he]
        refine q_bd0 s1 ?_
        refine q_b1 (gR_eq (ra _ _ _) rfl) ?_
        refine q_b1 (stI_eq (i := j) (rB _ _ _) rfl (by omega) (by omega)) ?_
        rw [S3_b n1 n3]
        refine q_b1 (gR_eq (rd _ _ _) rfl) ?_
        refine q_b1 (stI_eq (i := j) (rT _ _ _) rfl (by omega) (by omega)) ?_
        rw [show (2 : Int32) * nI v = nI (2 * v) by rw [show (2 : Int32) = nI 2 from rfl, pk_mul], RS_t n2]
        refine q_j1 (RS (stH σ Lb (AA cb (upd FR j (nI v)))) Lt ct L c (upd FT1 j (nI (2 * v))) F1) (fun kk => q_t ((nI_ltI (b := BS) (by omega) (by omega)).mpr hcase) rfl) ?_
        exact q_lt i1
      · have hT1 : vl BS (fun i => up1 T (j + 1) (T (j + 1) + 1) (j + 1 + i)) (n - (j + 1)) = 2 * r + 1 := by
          rw [vl_head (by omega)] at hT ⊢
          have e1 : vl BS (fun i => up1 T (j + 1) (T (j + 1) + 1) (j + 1 + 1 + i)) (n - (j + 1 + 1)) = vl BS (fun i => T (j + 1 + 1 + i)) (n - (j + 1 + 1)) := vl_congr (fun i _ => by unfold up1; rw [if_neg (by omega)])
          have e2 : up1 T (j + 1) (T (j + 1) + 1) (j + 1) = T (j + 1) + 1 := by unfold up1; rw [if_pos rfl]
          rw [e1, e2]
          omega
        obtain ⟨F', FR', FT', G', R', i1, i2, i3, i4, i5⟩ := ih j (r * BS + v) F1 (upd FR j (nI v)) (upd (upd (upd FT1 j (nI (2 * v))) j (nI (2 * v - BS))) (j + 1) (nI (T (j + 1) + 1))) G1 (up1 R j v) (up1 (up1 T (j + 1) (T (j + 1) + 1)) j (2 * v - BS)) (by omega) (by omega) s2 g2' (fun i h1 h2 => by
            unfold up1
            by_cases hi : i = j
            · subst hi; rw [if_pos rfl, pk_un (by omega), pk_us, if_neg (by omega)]; exact ⟨rfl, by omega⟩
            · rw [if_neg hi]
              by_cases hi2 : i = j + 1
              · subst hi2
                rw [if_pos rfl, pk_us]
                exact ⟨rfl, g4⟩
              · rw [if_neg hi2, pk_un hi2, pk_un hi, pk_un hi]; exact ⟨s3 i (by omega) h2, (g3 i (by omega) h2).2⟩) (by unfold up1; rw [if_pos rfl, if_neg (by omega)]; omega) (by
            unfold up1
            rw [if_neg (by omega)]
            by_cases hi2 : n - 1 = j + 1
            · rw [if_pos hi2, ← hi2]; omega
            · rw [if_neg hi2]; exact g5) hR2 (by
            rw [row_val (by omega) hT1]
            exact dbl (Nat.not_lt.mp hcase)) x1 x2
        refine ⟨F', FR', FT', G', R', ?_, i2, i3, i4, i5⟩
        refine q_f (nI_pos (by omega)) ?_
        refine q_b1 (gR_eq (rd _ _ _) rfl) ?_
        refine q_b1 (gR_eq (rd _ _ _) rfl) ?_
        rw [he]
        refine q_b1 r1 ?_
        rw [← he]
        refine q_bd0 s1 ?_
        refine q_b1 (gR_eq (ra _ _ _) rfl) ?_
        refine q_b1 (stI_eq (i := j) (rB _ _ _) rfl (by omega) (by omega)) ?_
        rw [S3_b n1 n3]
        refine q_b1 (gR_eq (rd _ _ _) rfl) ?_
        refine q_b1 (stI_eq (i := j) (rT _ _ _) rfl (by omega) (by omega)) ?_
        rw [show (2 : Int32) * nI v = nI (2 * v) by rw [show (2 : Int32) = nI 2 from rfl, pk_mul], RS_t n2]
        have hT1B : T (j + 1) < 2 * BS := by
          have := (g3 (j + 1) (Nat.le_refl _) hs).2
          by_cases hi : j + 1 = n - 1
          · rwa [if_pos hi] at this
          · rw [if_neg hi] at this; omega
        refine q_j1 (RS (stH σ Lb (AA cb (upd FR j (nI v)))) Lt ct L c (upd (upd (upd FT1 j (nI (2 * v))) j (nI (2 * v - BS))) (j + 1) (nI (T (j + 1) + 1))) F1) (fun kk => q_f (fun z => hcase ((nI_ltI (b := BS) (by omega) (by omega)).mp z)) ?_) ?_
        · refine q_b1 (gR_eq (rd _ _ _) rfl) ?_
          refine q_b1 (ldI_eq (i := j) (rT _ _ _) rfl (by omega) (by omega)) ?_
          refine q_b1 (stI_eq (i := j) (rT _ _ _) rfl (by omega) (by omega)) ?_
          rw [pk_us, RS_t n2, show nI (2 * v) - 1000000000 = nI (2 * v - BS) from pk_sub (b := BS) (by omega)]
          refine q_b1 (gR_eq (rd _ _ _) rfl) ?_
          refine q_b1 (ldI_eq (i := j + 1) (rT _ _ _) (nI_1 j) (by omega) (by omega)) ?_
          refine q_b1 (stI_eq (i := j + 1) (rT _ _ _) (nI_1 j) (by omega) (by omega)) ?_
          rw [pk_un (by omega), pk_un (by omega), s3 (j + 1) (by omega) (by omega), nI_1, RS_t n2]
        exact q_lt i1
theorem pow_e1 (n : Nat) (h : 0 < n) : 10 ^ (18 * n - 2) = 10 ^ 16 * BS ^ (2 * n - 2) := by
  rw [BS_pow, ← Nat.pow_add]
  congr 1
  omega
theorem head_ge {x n : Nat} (h : 0 < n) (hx : 10 ^ (18 * n - 2) ≤ x) : 10000000000000000 ≤ x / BS ^ (2 * n - 2) := by
  rw [Nat.le_div_iff_mul_le (Nat.pow_pos (by decide))]
  rw [pow_e1 n h] at hx
  exact hx
theorem limbs_2n {x n m : Nat} {g : Nat → Nat} (h0 : 0 < n) (h1 : 10 ^ (18 * n - 2) ≤ x) (h2 : x < 10 ^ (18 * n)) (hg : ∀ j, j < m → g j < BS) (h7 : 0 < m → 0 < g (m - 1)) (h8 : vl BS g m = x) : m = 2 * n := by
  have a1 : BS ^ (2 * n - 1) ≤ x := by
    refine Nat.le_trans ?_ h1
    rw [BS_pow]
    exact p10_le (by omega)
  have a2 : x < BS ^ (2 * n) := by rw [BS_pow, show 9 * (2 * n) = 18 * n by omega]; exact h2
  have a3 : x < BS ^ m := h8 ▸ vl_lt hg
  have a4 : 2 * n - 1 < m := (Nat.pow_lt_pow_iff_right (by decide)).mp (Nat.lt_of_le_of_lt a1 a3)
  have a5 : BS ^ (m - 1) ≤ x := h8 ▸ nm_pos h7 (by omega)
  have a6 : m - 1 < 2 * n := (Nat.pow_lt_pow_iff_right (by decide)).mp (Nat.lt_of_le_of_lt a5 a2)
  omega
/-- takeRoot: of a number of 18 n or 18 n - 1 digits -/
theorem t_takeRoot {x y z n : Nat} (hD : Dm σ) (h : NV σ a L c x) (hb : NV σ b Lb cb y) (hd : NV σ d Lt ct z) (nab : a ≠ b) (nad : a ≠ d) (nbd : b ≠ d) (n1 : L ≠ Lb) (n2 : L ≠ Lt) (n3 : Lb ≠ Lt) (h0 : 0 < n) (hn : n ≤ 900) (hx1 : 10 ^ (18 * n - 2) ≤ x) (hx2 : x < 10 ^ (18 * n)) : Ye (f_X2_takeRoot σ a b d) (P3 σ a L c b Lb cb d Lt ct (x - sqt x * sqt x) (sqt x) 0) := by
  obtain ⟨m, g, f, h1, h2, h3, h4, h5, h6, h7, h8⟩ := h.split
  obtain ⟨nb, gb, fb, k1, k2, k3, k4, k5, k6, k7, k8⟩ := hb.split
  obtain ⟨o, gd, fd, o1, o2, o3, o4, o5, o6, o7, o8⟩ := hd.split
  have hFU := FU_ge
  have eB : BS = 1000000000 := rfl
  have hm := limbs_2n h0 hx1 hx2 h6 h7 h8
  have hge := head_ge h0 hx1
  clear hx1 hx2
  subst hm
  obtain ⟨p, rfl⟩ : ∃ p, n = p + 1 := ⟨n - 1, by omega⟩
  have hhd : x / BS ^ (2 * p) = g (2 * p + 1) * BS + g (2 * p) := by
    rw [← h8, show 2 * (p + 1) = 2 * p + 2 by omega]
    exact vl2 (fun j hj => h6 j (by omega))
  rw [show 2 * (p + 1) - 2 = 2 * p by omega, hhd] at hge
  have b1 := h6 (2 * p + 1) (by omega)
  have b2 := h6 (2 * p) (by omega)
  obtain ⟨H, hH⟩ : ∃ H, g (2 * p + 1) * BS + g (2 * p) = H := ⟨_, rfl⟩
  rw [hH] at hhd hge
  have hHB : H < BS * BS := by
    have : (g (2 * p + 1) + 1) * BS ≤ BS * BS := Nat.mul_le_mul_right _ b1
    rw [Nat.add_mul, Nat.one_mul] at this
    omega
  obtain ⟨r, hr⟩ : ∃ r, sqt H = r := ⟨_, rfl⟩
  have r1 : r * r ≤ H := hr ▸ sqt_le H
  have r2 : H < (r + 1) * (r + 1) := hr ▸ sqt_lt H
  have r3 : 100000000 ≤ r := Nat.not_lt.mp fun w => by
    have : (r + 1) * (r + 1) ≤ 100000000 * 100000000 := Nat.mul_le_mul w w
    omega
  have r4 : r < BS := Nat.not_le.mp fun w => by
    have : BS * BS ≤ r * r := Nat.mul_le_mul w w
    omega
  have e62 : BS * BS < 2 ^ 62 := by decide
  have hleft : H - r * r < 2 * r + 1 := by
    have : (r + 1) * (r + 1) = r * r + (2 * r + 1) := by grind
    omega
  unfold f_X2_takeRoot
  refine e_ob h1 ?_
  refine e_b1 (pF1 k1 (m := 0) rfl) ?_
  have f1 : Fr (fun q => q = b) σ (stH σ b (OO Lb 0)) := Fr.st k1 rfl
  have D1 : Dm (stH σ b (OO Lb 0)) := f1.2.2.2 hD
  have a1 : (stH σ b (OO Lb 0)).1 a = some (OO L (2 * (p + 1))) := by rw [stH_n nab]; exact h1
  have a2 : (stH σ b (OO Lb 0)).1 L = some (AA c f) := by rw [stH_n (ne_AO h2 k1)]; exact h2
  have B1 : (stH σ b (OO Lb 0)).1 b = some (OO Lb 0) := stH_s
  have B2 : (stH σ b (OO Lb 0)).1 Lb = some (AA cb fb) := by rw [stH_n (ne_AO k2 k1)]; exact k2
  have d1 : (stH σ b (OO Lb 0)).1 d = some (OO Lt o) := by rw [stH_n nbd.symm]; exact o1
  have d2 : (stH σ b (OO Lb 0)).1 Lt = some (AA ct fd) := by rw [stH_n (ne_AO o2 k1)]; exact o2
  refine e_b1 (gI_eq a1 rfl) ?_
  refine e_b1 (dvI_eq (a := 2 * (p + 1)) (b := 2) rfl rfl (by omega) (by decide) (by decide)) ?_
  rw [show 2 * (p + 1) / 2 = p + 1 by omega]
  refine e_f (nI_ne0 (by omega) (by omega)) ?_
  refine e_b1 (gI_eq a1 rfl) ?_
  refine e_t (by rw [show (2 : Int32) = nI 2 from rfl, pk_mul]) ?_
  refine e_bd (t_makeRoom (m := p + 1) D1 B1 B2 rfl (by omega) (by omega)) ?_
  rintro _ σ2 kc sc ⟨Lb', cb', fb', m1, m2, m3, m4, m5, m6, m7, m8, m9, m10, -⟩
  have hcb' : cb' ≤ 4000 := by have h9 : max cb (2 * (p + 1)) ≤ 4000 := Nat.max_le.mpr ⟨k5, by omega⟩; omega
  have D2 : Dm σ2 := m8.2.2.2 D1
  have a3 : σ2.1 a = some (OO L (2 * (p + 1))) := m8.at D1 a1 nab
  have a4 : σ2.1 L = some (AA c f) := m8.at D1 a2 (fun w => ne_AO a2 B1 w)
  have d3 : σ2.1 d = some (OO Lt o) := m8.at D1 d1 nbd.symm
  have d4 : σ2.1 Lt = some (AA ct fd) := m8.at D1 d2 (fun w => ne_AO d2 B1 w)
  have nL1 : L ≠ Lb' := by
    rcases m7 with w | w
    · rw [w]; exact n1
    · exact Nat.ne_of_lt (Nat.lt_of_lt_of_le (D1.lt a2) w)
  have nL3 : Lb' ≠ Lt := by
    rcases m7 with w | w
    · rw [w]; exact n3
    · exact Nat.ne_of_gt (Nat.lt_of_lt_of_le (D1.lt d2) w)
  refine e_bd (t_makeRoom (m := p + 1) D2 d3 d4 rfl (by omega) (by omega)) ?_
  rintro _ σ3 kc2 sc2 ⟨Lt', ct', fd', q1, q2, q3, q4, q5, q6, q7, q8, q9, q10, -⟩
  have hct' : ct' ≤ 4000 := by have h9 : max ct (2 * (p + 1)) ≤ 4000 := Nat.max_le.mpr ⟨o5, by omega⟩; omega
  have D3 : Dm σ3 := q8.2.2.2 D2
  have a5 : σ3.1 a = some (OO L (2 * (p + 1))) := q8.at D2 a3 nad
  have a6 : σ3.1 L = some (AA c f) := q8.at D2 a4 (fun w => ne_AO a4 d3 w)
  have b5 : σ3.1 b = some (OO Lb' 0) := q8.at D2 m1 nbd
  have b6 : σ3.1 Lb' = some (AA cb' fb') := q8.at D2 m2 (fun w => ne_AO m2 d3 w)
  have nL2 : L ≠ Lt' := by
    rcases q7 with w | w
    · rw [w]; exact n2
    · exact Nat.ne_of_lt (Nat.lt_of_lt_of_le (D2.lt a4) w)
  have nL4 : Lb' ≠ Lt' := by
    rcases q7 with w | w
    · rw [w]; exact nL3
    · exact Nat.ne_of_lt (Nat.lt_of_lt_of_le (D2.lt m2) w)
  refine e_b1 (pF1 q1 (m := 0) rfl) ?_
  obtain ⟨σ4, hσ4⟩ : ∃ σ4, stH σ3 d (OO Lt' 0) = σ4 := ⟨_, rfl⟩
  have f4 : Fr (fun q => q = d) σ3 σ4 := hσ4 ▸ Fr.st q1 rfl
  rw [hσ4]
  have D4 : Dm σ4 := f4.2.2.2 D3
  have a7 : σ4.1 a = some (OO L (2 * (p + 1))) := f4.at D3 a5 nad
  have a8 : σ4.1 L = some (AA c f) := f4.at D3 a6 (fun w => ne_AO a6 q1 w)
  have b7 : σ4.1 b = some (OO Lb' 0) := f4.at D3 b5 nbd
  have b8 : σ4.1 Lb' = some (AA cb' fb') := f4.at D3 b6 (fun w => ne_AO b6 q1 w)
  have d7 : σ4.1 d = some (OO Lt' 0) := by rw [← hσ4]; exact stH_s
  have d8 : σ4.1 Lt' = some (AA ct' fd') := f4.at D3 q2 (fun w => ne_AO q2 q1 w)
  refine e_b1 (gR_eq a7 rfl) ?_
  refine e_b1 (gI_eq a7 rfl) ?_
  have ex1 : nI (2 * (p + 1)) - 1 = nI (2 * p + 1) := by rw [show (1 : Int32) = nI 1 from rfl, pk_sub (by omega)]; congr 1
  have ex2 : nI (2 * (p + 1)) - 2 = nI (2 * p) := by rw [show (2 : Int32) = nI 2 from rfl, pk_sub (by omega)]; congr 1
  have ex3 : nI (p + 1) - 1 = nI p := by rw [show (1 : Int32) = nI 1 from rfl, pk_sub (by omega)]; congr 1
  refine e_b1 (ldI_eq (i := 2 * p + 1) a8 ex1 (by omega) (by omega)) ?_
  refine e_b1 (gR_eq a7 rfl) ?_
  refine e_b1 (gI_eq a7 rfl) ?_
  refine e_b1 (ldI_eq (i := 2 * p) a8 ex2 (by omega) (by omega)) ?_
  refine e_le (x := lN H) (by rw [h3 _ (by omega), h3 _ (by omega), nI_l (bs_lt b1), nI_l (bs_lt b2), show (1000000000 : Int64) = lN BS from rfl, lN_mul, lN_add, hH]) ?_
  refine e_b1 (t_rootOf r1 r2 (by omega) hHB) ?_
  refine e_le (x := lN (H - r * r)) (by rw [lN_mul, lN_sub r1]) ?_
  refine e_b1 (gR_eq a7 rfl) ?_
  refine e_b1 (gI_eq a7 rfl) ?_
  refine e_b1 (dvL_eq (a := H - r * r) (b := BS) rfl rfl (by omega) (by decide) (by decide)) ?_
  refine e_b1 (stI_eq (i := 2 * p + 1) a8 ex1 (by omega) (by omega)) ?_
  rw [lN_i]
  have c1 : (stH σ4 L (AA c (upd f (2 * p + 1) (nI ((H - r * r) / BS))))).1 a = some (OO L (2 * (p + 1))) := by rw [stH_n (ne_OA a8 a7)]; exact a7
  refine e_b1 (gR_eq c1 rfl) ?_
  refine e_b1 (gI_eq c1 rfl) ?_
  refine e_b1 (rmL_eq (a := H - r * r) (b := BS) rfl rfl (by omega) (by decide) (by decide)) ?_
  refine e_b1 (stI_eq (i := 2 * p) stH_s ex2 (by omega) (by omega)) ?_
  rw [lN_i, stH_stH]
  obtain ⟨F0, hF0⟩ : ∃ F0, upd (upd f (2 * p + 1) (nI ((H - r * r) / BS))) (2 * p) (nI ((H - r * r) % BS)) = F0 := ⟨_, rfl⟩
  rw [hF0]
  have c2 : ∀ F, (stH σ4 L (AA c F)).1 b = some (OO Lb' 0) := fun F => by rw [stH_n (ne_OA a8 b7)]; exact b7
  refine e_b1 (gR_eq (c2 _) rfl) ?_
  refine e_b1 (stI_eq (i := p) (n := cb') (f := fb') (by rw [stH_n nL1.symm]; exact b8) ex3 (by omega) (by omega)) ?_
  rw [lN_i]
  have c3 : (stH (stH σ4 L (AA c F0)) Lb' (AA cb' (upd fb' p (nI r)))).1 d = some (OO Lt' 0) := by rw [stH_n (ne_OA b8 d7), stH_n (ne_OA a8 d7)]; exact d7
  refine e_b1 (gR_eq c3 rfl) ?_
  refine e_b1 (stI_eq (i := p) (n := ct') (f := fd') (by rw [stH_n nL4.symm, stH_n nL2.symm]; exact d8) ex3 (by omega) (by omega)) ?_
  rw [show ((2 * lN r : Int64).toInt32) = nI (2 * r) by rw [show (2 : Int64) = lN 2 from rfl, lN_mul, lN_i]]
  have eS : stH (stH (stH σ4 L (AA c F0)) Lb' (AA cb' (upd fb' p (nI r)))) Lt' (AA ct' (upd fd' p (nI (2 * r)))) = RS (stH σ4 Lb' (AA cb' (upd fb' p (nI r)))) Lt' ct' L c (upd fd' p (nI (2 * r))) F0 := by
    unfold RS
    rw [stH_comm nL1, stH_comm nL2]
  rw [eS]
  refine e_le (x := nI p + (-1)) (by
    rw [iZ_n, iZ_n, show (2 : Int32) = iZ 2 from rfl, show (-1 : Int32) = iZ (-1) from rfl, iZ_sub, iZ_add]
    congr 1
    omega) ?_
  -- the numbers behind the first limb
  obtain ⟨G0, hG0⟩ : ∃ G0, up1 (up1 g (2 * p + 1) ((H - r * r) / BS)) (2 * p) ((H - r * r) % BS) = G0 := ⟨_, rfl⟩
  have hLB : (H - r * r) / BS < BS := by
    rw [Nat.div_lt_iff_lt_mul (by decide)]
    omega
  have cel : ∀ i, i < 2 * (p + 1) → F0 i = nI (G0 i) ∧ G0 i < BS := by
    rw [← hF0, ← hG0]
    exact cells_upd (cells_upd (fun i hi => ⟨h3 i hi, h6 i hi⟩) hLB) (Nat.mod_lt _ (by decide))
  have val : vl BS G0 (2 * (p + 1)) = vl BS g (2 * p) + (H - r * r) * BS ^ (2 * p) := by
    rw [show 2 * (p + 1) = 2 * p + 1 + 1 by omega]
    show vl BS G0 (2 * p) + G0 (2 * p) * BS ^ (2 * p) + G0 (2 * p + 1) * BS ^ (2 * p + 1) = _
    have e1 : G0 (2 * p) = (H - r * r) % BS := by rw [← hG0]; unfold up1; rw [if_pos rfl]
    have e2 : G0 (2 * p + 1) = (H - r * r) / BS := by rw [← hG0]; unfold up1; rw [if_neg (by omega), if_pos rfl]
    have e3 : vl BS G0 (2 * p) = vl BS g (2 * p) := vl_congr (fun i hi => by rw [← hG0]; unfold up1; rw [if_neg (by omega), if_neg (by omega)])
    rw [e1, e2, e3, Nat.pow_succ, Nat.add_assoc]
    congr 1
    have e4 := Nat.mod_add_div (H - r * r) BS
    conv => rhs; rw [← e4, Nat.add_mul]
    rw [Nat.mul_comm (BS ^ (2 * p)) BS, ← Nat.mul_assoc, Nat.mul_comm _ BS]
  have valx : x = vl BS g (2 * p) + H * BS ^ (2 * p) := by
    rw [← h8, show 2 * (p + 1) = 2 * p + 1 + 1 by omega, ← hH]
    show vl BS g (2 * p) + g (2 * p) * BS ^ (2 * p) + g (2 * p + 1) * BS ^ (2 * p + 1) = _
    rw [Nat.pow_succ, Nat.add_mul, Nat.mul_comm (BS ^ (2 * p)) BS, ← Nat.mul_assoc]
    omega
  have hlow : vl BS g (2 * p) < BS ^ (2 * p) := vl_lt (fun j hj => h6 j (by omega))
  obtain ⟨F', FR', FT', G', R', s1, s2, s3, s4, s5⟩ := t_rt_loop (x := x) (n := p + 1) (N := 2 * (p + 1)) (σ := σ4) a7 a8 b7 b8 d7 d8 nL1 nL2 nL4 rfl h4 h5 m3 hcb' q3 hct' FU p r F0 (upd fb' p (nI r)) (upd fd' p (nI (2 * r))) G0 (fun _ => r) (fun _ => 2 * r) (by omega) (by omega) cel (fun i w1 w2 => by
      rw [show i = p by omega]
      exact ⟨pk_us, r4⟩) (fun i w1 w2 => by
      rw [show i = p by omega, if_pos (by omega)]
      exact ⟨pk_us, by omega⟩) (by rw [if_pos (by omega)]; omega) (by omega) (by rw [Nat.add_sub_cancel_left]; simp [vl]) (by rw [Nat.add_sub_cancel_left]; simp [vl]) (by
      rw [val, valx]
      have e1 : H * BS ^ (2 * p) = r * r * BS ^ (2 * p) + (H - r * r) * BS ^ (2 * p) := by rw [← Nat.add_mul]; congr 1; omega
      have e2 : r * BS ^ p * (r * BS ^ p) = r * r * BS ^ (2 * p) := by
        rw [show 2 * p = p + p by omega, Nat.pow_add]
        generalize BS ^ p = P
        grind
      rw [e1, e2]
      generalize BS ^ (2 * p) = Q at *
      omega) (by
      rw [val]
      have e1 : (H - r * r) * BS ^ (2 * p) ≤ 2 * r * BS ^ (2 * p) := Nat.mul_le_mul_right _ (by omega)
      rw [Nat.add_mul, Nat.one_mul]
      generalize BS ^ (2 * p) = Q at *
      omega)
  clear val valx hlow
  refine e_bd0 s1 ?_
  have hsq : sqt x = vl BS R' (p + 1) := sqt_eq (by omega) (by
    have : (vl BS R' (p + 1) + 1) * (vl BS R' (p + 1) + 1) = vl BS R' (p + 1) * vl BS R' (p + 1) + (2 * vl BS R' (p + 1) + 1) := by grind
    omega)
  have hrest : x - sqt x * sqt x = vl BS G' (2 * (p + 1)) := by rw [hsq]; omega
  obtain ⟨σ5, hσ5⟩ : ∃ σ5, RS (stH σ4 Lb' (AA cb' FR')) Lt' ct' L c FT' F' = σ5 := ⟨_, rfl⟩
  rw [hσ5]
  have z1 : σ5.1 b = some (OO Lb' 0) := by rw [← hσ5, stH_n (ne_OA a8 b7), stH_n (ne_OA d8 b7), stH_n (ne_OA b8 b7)]; exact b7
  have z2 : σ5.1 Lb' = some (AA cb' FR') := by rw [← hσ5, stH_n nL1.symm, stH_n nL4, stH_s]
  have z3 : σ5.1 a = some (OO L (2 * (p + 1))) := by rw [← hσ5, stH_n (ne_OA a8 a7), stH_n (ne_OA d8 a7), stH_n (ne_OA b8 a7)]; exact a7
  have z4 : σ5.1 L = some (AA c F') := by rw [← hσ5, stH_s]
  have z5 : σ5.1 d = some (OO Lt' 0) := by rw [← hσ5, stH_n (ne_OA a8 d7), stH_n (ne_OA d8 d7), stH_n (ne_OA b8 d7)]; exact d7
  have z6 : σ5.1 Lt' = some (AA ct' FT') := by rw [← hσ5, stH_n nL2.symm, stH_s]
  have fr5 : Fr (fun q => q = Lb' ∨ q = Lt' ∨ q = L) σ4 σ5 := by
    rw [← hσ5]
    refine ((Fr.st (S := fun q => q = Lb' ∨ q = Lt' ∨ q = L) (e := AA cb' FR') b8 (Or.inl rfl)).trans (Fr.st (S := fun q => q = Lb' ∨ q = Lt' ∨ q = L) (e0 := AA ct' fd') (e := AA ct' FT') ?_ (Or.inr (Or.inl rfl))) (fun _ _ w => w)).trans (Fr.st (S := fun q => q = Lb' ∨ q = Lt' ∨ q = L) (e0 := AA c f) (e := AA c F') ?_ (Or.inr (Or.inr rfl))) (fun _ _ w => w)
    · rw [stH_n nL4.symm]; exact d8
    · rw [stH_n nL2, stH_n nL1]; exact a8
  refine e_b1 (pF1 z1 rfl) ?_
  obtain ⟨n', t1, t2, t3⟩ := t_trimV (σ := stH σ5 b (OO Lb' (p + 1))) (a := b) (L := Lb') (c := cb') (n := p + 1) (g := R') stH_s (by rw [stH_n (ne_AO z2 z1)]; exact z2) (fun j hj => (s3 j hj).1) m3 hcb' (fun j hj => (s3 j hj).2)
  refine e_bd0 t2 ?_
  rw [stH_stH] at t3 ⊢
  have y3 : (stH σ5 b (OO Lb' n')).1 a = some (OO L (2 * (p + 1))) := by rw [stH_n nab]; exact z3
  have y4 : (stH σ5 b (OO Lb' n')).1 L = some (AA c F') := by rw [stH_n (ne_AO z4 z1)]; exact z4
  obtain ⟨n2', u1, u2, u3⟩ := t_trimV (σ := stH σ5 b (OO Lb' n')) (a := a) (L := L) (c := c) (n := 2 * (p + 1)) (g := G') y3 y4 (fun j hj => (s2 j hj).1) h4 h5 (fun j hj => (s2 j hj).2)
  refine e_bd0 u2 ?_
  have D5 : Dm σ5 := fr5.2.2.2 D4
  have fr6 : Fr (fun q => q = b) σ5 (stH σ5 b (OO Lb' n')) := Fr.st z1 rfl
  have fr7 : Fr (fun q => q = a) (stH σ5 b (OO Lb' n')) (stH (stH σ5 b (OO Lb' n')) a (OO L n2')) := Fr.st y3 rfl
  have le1 : σ.2.1 ≤ σ2.2.1 := m8.2.1
  have g1 : Fr (fun q => q = a ∨ q = L ∨ q = b ∨ q = Lb ∨ q = d ∨ q = Lt) σ σ2 := f1.trans m8 (fun q _ w => w) |>.mono (fun q _ w => Or.inr (Or.inr (Or.inl w)))
  have g2 := (g1.trans q8 (fun q _ w => Or.inr (Or.inr (Or.inr (Or.inr (Or.inl w)))))).trans f4 (fun q _ w => Or.inr (Or.inr (Or.inr (Or.inr (Or.inl w)))))
  have g3 := g2.trans fr5 (fun q hq w => by
    rcases w with w | w | w
    · rcases m7 with w2 | w2
      · exact Or.inr (Or.inr (Or.inr (Or.inl (w.trans w2))))
      · have w3 : σ.2.1 ≤ Lb' := w2
        omega
    · rcases q7 with w2 | w2
      · exact Or.inr (Or.inr (Or.inr (Or.inr (Or.inr (w.trans w2)))))
      · omega
    · exact Or.inr (Or.inl w))
  have g4 := (g3.trans fr6 (fun q _ w => Or.inr (Or.inr (Or.inl w)))).trans fr7 (fun q _ w => Or.inl w)
  refine e_ret ⟨Lb', cb', Lt', ct', ?_, ?_, ?_, m7, ?_, nL1, nL2, nL4, g4, m4, q4, by omega, by omega⟩
  · rw [hrest]; exact u3
  · rw [hsq]
    exact NV.fr t3 (fr6.2.2.2 D5) fr7 (fun w => nab w.symm) (fun w => ne_AO z2 z3 w)
  · have v0 : NV σ5 d Lt' ct' 0 := NV.mk (n := 0) (g := gd) z5 z6 (fun j hj => absurd hj (Nat.not_lt_zero _)) (Nat.zero_le _) hct' (fun j hj => absurd hj (Nat.not_lt_zero _)) (fun hj => absurd hj (Nat.not_lt_zero _)) rfl
    exact (v0.fr D5 fr6 nbd.symm (fun w => ne_AO z6 z1 w)).fr (fr6.2.2.2 D5) fr7 (fun w => nad w.symm) (fun w => ne_AO z6 z3 w)
  · rcases q7 with w | w
    · exact Or.inl w
    · exact Or.inr (by omega)
end TK
