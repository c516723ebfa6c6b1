section GR
variable {σ : St} {a L Lt c ct : Nat} {T : Nat → Nat}
theorem vl_dig2 {G : Nat → Nat} {N p h : Nat} (hG : ∀ j, j < N → G j < BS) (hp : p < N) (e : vl BS G N / BS ^ (p + 1) = h) : vl BS G N / BS ^ p = h * BS + G p := by
  have h1 := vl_digit (B := BS) (by decide) hG hp
  have h2 : vl BS G N / BS ^ p / BS = h := by rw [Nat.div_div_eq_div_mul, ← Nat.pow_succ]; exact e
  have := Nat.mod_add_div (vl BS G N / BS ^ p) BS
  rw [h1, h2, Nat.mul_comm] at this
  rw [Nat.add_comm]
  exact this.symm
theorem row_div {T : Nat → Nat} {e : Nat} (h : ∀ i, i < e → T i < BS) : vl BS T (e + 1) / BS ^ e = T e := by
  rw [vl_div (b := 1) h]
  show 0 + T (e + 0) * BS ^ 0 = T e
  rw [Nat.pow_zero, Nat.mul_one, Nat.zero_add, Nat.add_zero]
theorem vl2' {G : Nat → Nat} {p : Nat} (hG : ∀ j, j < p → G j < BS) : vl BS G (p + 2) / BS ^ p = G (p + 1) * BS + G p := by
  rw [vl_div hG]
  show 0 + G (p + 0) * BS ^ 0 + G (p + 1) * BS ^ 1 = _
  rw [Nat.pow_zero, Nat.mul_one, Nat.pow_one, Nat.add_zero, Nat.zero_add, Nat.add_comm]
theorem gr_head {w h e j W : Nat} (hw : w / BS ^ e = h) (hW : W < (w + 1) * BS ^ (2 * j + 2)) : W / BS ^ (e + 2 * j + 1) < (h + 1) * BS := by
  have hp : 0 < BS ^ e := Nat.pow_pos (by decide)
  have h1 : w + 1 ≤ (h + 1) * BS ^ e := by
    have := Nat.mod_add_div w (BS ^ e)
    have := Nat.mod_lt w hp
    rw [hw] at *
    rw [Nat.add_mul, Nat.one_mul, Nat.mul_comm h]
    omega
  rw [Nat.div_lt_iff_lt_mul (Nat.pow_pos (by decide))]
  refine Nat.lt_of_lt_of_le hW (Nat.le_trans (Nat.mul_le_mul_right _ h1) (Nat.le_of_eq ?_))
  rw [Nat.add_assoc e, Nat.pow_add BS e (2 * j + 1), show BS ^ (2 * j + 2) = BS ^ (2 * j + 1) * BS from Nat.pow_succ ..]
  generalize BS ^ e = x
  generalize BS ^ (2 * j + 1) = y
  generalize BS = B
  grind
theorem gr_lt {w e j W : Nat} (hw : w < 2 * BS ^ (e + 1)) (hW : W < (w + 1) * BS ^ (2 * j + 2)) : W < BS ^ (e + 2 * j + 1 + 3) := by
  refine Nat.lt_of_lt_of_le hW (Nat.le_trans (Nat.mul_le_mul_right _ (show w + 1 ≤ BS ^ (e + 1) * BS from ?_)) (Nat.le_of_eq ?_))
  · refine Nat.le_trans hw ?_
    rw [Nat.mul_comm]
    exact Nat.mul_le_mul_left _ (by decide)
  · rw [← Nat.pow_succ, ← Nat.pow_add]
    congr 1
    omega
/-- the row of twice: its limbs from j + 1 on, the highest (at j + 1 + e) below twice the base -/
def TW (ct : Nat) (fT : Nat → Int32) (T : Nat → Nat) (j e : Nat) : Prop := (∀ i, j + 1 ≤ i → i < j + 1 + (e + 1) → fT i = nI (T i)) ∧ (∀ i, i < e → T (j + 1 + i) < BS) ∧ T (j + 1 + e) < 2 * BS ∧ 200000000 ≤ T (j + 1 + e) ∧ j + 1 + (e + 1) ≤ ct ∧ ct ≤ 4000
theorem TW.lt {fT : Nat → Int32} {j e : Nat} (h : TW ct fT T j e) : vl BS (fun i => T (j + 1 + i)) (e + 1) < 2 * BS ^ (e + 1) := by
  obtain ⟨-, h2, h3, -⟩ := h
  have h5 : vl BS (fun i => T (j + 1 + i)) e < BS ^ e := vl_lt h2
  show vl BS (fun i => T (j + 1 + i)) e + T (j + 1 + e) * BS ^ e < 2 * BS ^ (e + 1)
  have h6 : (T (j + 1 + e) + 1) * BS ^ e ≤ 2 * BS * BS ^ e := Nat.mul_le_mul_right _ h3
  rw [Nat.add_mul, Nat.one_mul] at h6
  rw [Nat.pow_succ, Nat.mul_comm (BS ^ e) BS, ← Nat.mul_assoc]
  omega
theorem TW.ge {fT : Nat → Int32} {j e : Nat} (h : TW ct fT T j e) : 200000000 ≤ vl BS (fun i => T (j + 1 + i)) (e + 1) := by
  obtain ⟨-, h2, h3, h4, -⟩ := h
  show 200000000 ≤ vl BS (fun i => T (j + 1 + i)) e + T (j + 1 + e) * BS ^ e
  have h6 : T (j + 1 + e) * 1 ≤ T (j + 1 + e) * BS ^ e := Nat.mul_le_mul_left _ (Nat.pow_pos (by decide))
  omega
theorem t_gr {f0 F fT : Nat → Int32} {G : Nat → Nat} {e j N m w v : Nat} (ha : σ.1 a = some (OO L m)) (hL : σ.1 L = some (AA c f0)) (hT : σ.1 Lt = some (AA ct fT)) (n1 : L ≠ Lt) (tw : TW ct fT T j e) (hw : vl BS (fun i => T (j + 1 + i)) (e + 1) = w) (hN : e + 2 * j + 4 ≤ N) (hc : N ≤ c) (hc4 : c ≤ 4000) (g1 : ∀ i, i < N → F i = nI (G i) ∧ G i < BS) (hW : vl BS G N < (w + 1) * BS ^ (2 * j + 2)) (hv : v < BS) (v1 : fR w j v ≤ vl BS G N) (v2 : vl BS G N < fR w j (v + 1)) :
    ∃ g, f_X2_guessRootLimb (stH σ L (AA c F)) a Lt (nI (e + j + 2)) (nI j) = some (nI g) ∧ g < BS ∧ v ≤ g ∧ g ≤ v + 7 := by
  have eB : BS = 1000000000 := rfl
  have qa : (stH σ L (AA c F)).1 a = some (OO L m) := by rw [stH_n (ne_OA hL ha)]; exact ha
  have qd : (stH σ L (AA c F)).1 Lt = some (AA ct fT) := by rw [stH_n n1.symm]; exact hT
  have hG : ∀ i, i < N → G i < BS := fun i hi => (g1 i hi).2
  have hw2 : 200000000 ≤ w := hw ▸ tw.ge
  have hwl : w < 2 * BS ^ (e + 1) := hw ▸ tw.lt
  have hdw : w / BS ^ e = T (j + 1 + e) := by rw [← hw]; exact row_div (T := fun i => T (j + 1 + i)) tw.2.1
  have hT3 := vl3 (p := e + 2 * j + 1) hG (by omega) (gr_lt hwl hW)
  have hhd := gr_head hdw hW
  rw [hT3] at hhd
  obtain ⟨tw1, tw2, tw3, tw4, tw5, tw6⟩ := tw
  have b1 := hG (e + 2 * j + 1 + 2) (by omega)
  have b2 := hG (e + 2 * j + 1 + 1) (by omega)
  have b3 := hG (e + 2 * j + 1) (by omega)
  obtain ⟨h, hh⟩ : ∃ h, T (j + 1 + e) = h := ⟨_, rfl⟩
  obtain ⟨hd, hhe⟩ : ∃ hd, (G (e + 2 * j + 1 + 2) * BS + G (e + 2 * j + 1 + 1)) * BS + G (e + 2 * j + 1) = hd := ⟨_, rfl⟩
  rw [hh] at hdw hhd tw3 tw4
  rw [hhe] at hT3 hhd
  have hs : hd < 2 ^ 62 := by
    have : (h + 1) * BS ≤ (2 * BS) * BS := Nat.mul_le_mul_right _ (by omega)
    have e2 : 2 * BS * BS < 2 ^ 62 := by decide
    omega
  have hq : hd / h ≤ 2 * BS := by
    refine Nat.le_of_lt ?_
    rw [Nat.div_lt_iff_lt_mul (by omega)]
    refine Nat.lt_of_lt_of_le hhd ?_
    have : (h + 1) * BS ≤ (2 * h) * BS := Nat.mul_le_mul_right _ (by omega)
    have e2 : 2 * h * BS = 2 * BS * h := by rw [Nat.mul_assoc, Nat.mul_comm h, Nat.mul_assoc]
    omega
  have hDP : ∀ p s, p = s + (2 * j + 1) → w * BS ^ (2 * j + 1) / BS ^ p = w / BS ^ s := fun p s hp => by rw [hp, Nat.pow_add BS s (2 * j + 1), Nat.mul_div_mul_right _ _ (Nat.pow_pos (by decide))]
  have pre : ∀ X, ((gR (stH σ L (AA c F)) 2 a 0).bind fun r4 => (ldI (stH σ L (AA c F)) r4 (nI (e + j + 2) + nI j + 1)).bind fun x5 => (gR (stH σ L (AA c F)) 2 a 0).bind fun r6 => (ldI (stH σ L (AA c F)) r6 (nI (e + j + 2) + nI j)).bind fun x7 => lt ((((x5 : Int32).toInt64) * 1000000000) + ((x7 : Int32).toInt64)) fun l8 => (gR (stH σ L (AA c F)) 2 a 0).bind fun r9 => (ldI (stH σ L (AA c F)) r9 (nI (e + j + 2) + nI j - 1)).bind fun x10 => lt ((l8 * 1000000000) + ((x10 : Int32).toInt64)) X) = (X (lN hd) : Option Int32) := by
    intro X
    rw [nI_add, nI_1, show nI (e + j + 2 + j) - 1 = nI (e + j + 2 + j - 1) from pk_sub (b := 1) (by omega)]
    refine q_b1 (gR_eq qa rfl) ?_
    refine q_b1 (ldI_eq (i := e + 2 * j + 1 + 2) stH_s (by congr 1; omega) (by omega) (by omega)) ?_
    refine q_b1 (gR_eq qa rfl) ?_
    refine q_b1 (ldI_eq (i := e + 2 * j + 1 + 1) stH_s (by congr 1; omega) (by omega) (by omega)) ?_
    refine q_le (y := lN (G (e + 2 * j + 1 + 2) * BS + G (e + 2 * j + 1 + 1))) (by rw [(g1 _ (by omega)).1, (g1 _ (by omega)).1, nI_l (bs_lt b1), nI_l (bs_lt b2), show (1000000000 : Int64) = lN BS from rfl, lN_mul, lN_add]) ?_
    refine q_b1 (gR_eq qa rfl) ?_
    refine q_b1 (ldI_eq (i := e + 2 * j + 1) stH_s (by congr 1; omega) (by omega) (by omega)) ?_
    exact q_le (y := lN hd) (by rw [(g1 _ (by omega)).1, nI_l (bs_lt b3), show (1000000000 : Int64) = lN BS from rfl, lN_mul, lN_add, hhe]) rfl
  rcases Nat.eq_zero_or_pos e with w0 | w0
  · subst w0
    obtain ⟨r1, r2⟩ := root_guess (g := min (vl BS G N / BS ^ (2 * j + 1) / (w * BS ^ (2 * j + 1) / BS ^ (2 * j + 1))) (BS - 1)) (P := BS ^ (2 * j + 1)) hw2 (Nat.pow_pos (by decide)) hv v1 v2 rfl (Or.inr (Nat.mul_mod_left _ _)) (by rw [hDP _ 0 (by omega), Nat.pow_zero, Nat.div_one]; omega)
    rw [show vl BS G N / BS ^ (2 * j + 1) = hd by rw [← hT3]; congr 2; omega, hDP _ 0 (by omega), hdw] at r1 r2
    refine ⟨_, ?_, Nat.lt_of_le_of_lt (Nat.min_le_right _ _) (by decide), r1, r2⟩
    clear r1 r2 v1 v2 hW hDP hwl hT3
    unfold f_X2_guessRootLimb
    refine q_ob qa ?_
    refine q_lt ?_
    refine q_b1 (ldI_eq (i := j + 1 + 0) qd (by rw [show (1 : Int32) = nI 1 from rfl, pk_sub (by omega)]; congr 1; omega) (by omega) (by omega)) ?_
    refine q_le (y := lN h) (by rw [tw1 _ (by omega) (by omega), hh, nI_l (by omega)]) ?_
    refine q_t ((pk_lLT (a := 0) (by decide) (by omega)).mpr (by omega)) ?_
    refine (pre _).trans ?_
    refine q_t (by rw [show (2 : Int32) = nI 2 from rfl, pk_sub (by omega)]; congr 1; omega) ?_
    refine q_b1 (dvL_eq rfl rfl (by omega) (by omega) (by omega)) ?_
    refine q_b1 (j_minL (b := BS - 1) rfl rfl (by omega) (by decide)) ?_
    rw [lN_i]
  · obtain ⟨s, rfl⟩ : ∃ s, e = s + 1 := ⟨e - 1, by omega⟩
    have hTl := tw2 s (by omega)
    have hD2 : w / BS ^ s = h * BS + T (j + 1 + s) := by
      rw [← hw, vl2' (G := fun i => T (j + 1 + i)) (p := s) (fun i hi => tw2 i (by omega))]
      show T (j + 1 + (s + 1)) * BS + T (j + 1 + s) = _
      rw [hh]
    have hT4 := vl_dig2 (h := hd) (p := s + 2 * j + 1) hG (by omega) (by rw [show s + 2 * j + 1 + 1 = s + 1 + 2 * j + 1 by omega]; exact hT3)
    have hge : BS ≤ h * BS + T (j + 1 + s) := Nat.le_trans (Nat.le_mul_of_pos_left _ (by omega)) (Nat.le_add_right _ _)
    obtain ⟨r1, r2⟩ := root_guess (g := min (vl BS G N / BS ^ (s + 2 * j + 1) / (w * BS ^ (2 * j + 1) / BS ^ (s + 2 * j + 1))) (BS - 1)) (P := BS ^ (s + 2 * j + 1)) hw2 (Nat.pow_pos (by decide)) hv v1 v2 rfl (Or.inl (by rw [hDP _ s (by omega), hD2]; exact hge)) (by rw [hDP _ s (by omega), hD2]; omega)
    rw [hT4, hDP _ s (by omega), hD2] at r1 r2
    refine ⟨_, ?_, Nat.lt_of_le_of_lt (Nat.min_le_right _ _) (by decide), r1, r2⟩
    have b4 := hG (s + 2 * j + 1) (by omega)
    clear r1 r2 v1 v2 hW hDP hwl hT3 hT4 hD2 hdw
    have hdm := Nat.mod_add_div hd h
    unfold f_X2_guessRootLimb
    refine q_ob qa ?_
    refine q_lt ?_
    refine q_b1 (ldI_eq (i := j + 1 + (s + 1)) qd (by rw [show (1 : Int32) = nI 1 from rfl, pk_sub (by omega)]; congr 1; omega) (by omega) (by omega)) ?_
    refine q_le (y := lN h) (by rw [tw1 _ (by omega) (by omega), hh, nI_l (by omega)]) ?_
    refine q_t ((pk_lLT (a := 0) (by decide) (by omega)).mpr (by omega)) ?_
    refine (pre _).trans ?_
    refine q_f (fun z => ?_) ?_
    · rw [show (2 : Int32) = nI 2 from rfl, pk_sub (by omega)] at z
      have := (nI_eq (by omega) (by omega)).mp z
      omega
    refine q_b1 (dvL_eq rfl rfl (by omega) (by omega) (by omega)) ?_
    refine q_b1 (rmL_eq rfl rfl (by omega) (by omega) (by omega)) ?_
    refine q_b1 (ldI_eq (i := j + 1 + s) qd (by rw [show (2 : Int32) = nI 2 from rfl, pk_sub (by omega)]; congr 1; omega) (by omega) (by omega)) ?_
    refine q_b1 (gR_eq qa rfl) ?_
    refine q_b1 (ldI_eq (i := s + 2 * j + 1) stH_s (by rw [nI_add, show (2 : Int32) = nI 2 from rfl, pk_sub (by omega)]; congr 1; omega) (by omega) (by omega)) ?_
    rw [tw1 _ (by omega) (by omega), (g1 _ (by omega)).1, nI_l (bs_lt hTl), nI_l (bs_lt b4)]
    refine q_b1 (t_refine (Nat.mod_lt _ (by omega)) (by omega) hTl b4 hq) ?_
    rw [show hd / h * h + hd % h = hd by rw [Nat.mul_comm]; omega]
end GR
