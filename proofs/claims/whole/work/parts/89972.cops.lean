/-! ===== put, copy, move, times, strip, add, take of the object ===== -/
section C1
variable {t : Nat} {σ : St} {L c V : Nat → Nat} {A : AS} {T W : TS}
theorem cc_R {R R' : Int32 × AS} {e : Rs Int32} (h : R' = R) (k : Cc t σ L c e R T W) : Cc t σ L c e R' T W := h ▸ k
theorem kD_cg {d : Int32} {m m' : Nat} {n n' : Bool} {s s' : Int} (h : m = m') (h2 : 0 < m → n = n') (hs : s = s') : kD d m n s A = kD d m' n' s' A := by
  unfold kD
  congr 1
  funext i
  exact kp_cg h h2 hs
theorem bI_is (b : Bool) : isB (bI b) = some () := by cases b <;> rfl
theorem bI_eq {a b : Bool} : bI a = bI b ↔ a = b := by cases a <;> cases b <;> decide
theorem t_cput {d s : Int32} {u : Int64} (h : CI t σ L c V A T W) : Cc t σ L c (f_X5_put σ t d u s) (sPut A d u s) T W := by
  have l1 := iZ_lo s
  have l2 := iZ_hi s
  unfold f_X5_put
  refine e_ob h.t5 (e_b1 h.g1 ?_)
  refine cw_bd (cw_p1 h (by decide) (by decide) (t_sizeOf (h.nv (by decide)) (by have := (h.2.1 8 (by decide)).2; omega))) ?_
  rintro r σ1 L1 c1 V1 h1 rfl
  refine e_b1 h1.g1 ?_
  have fin : ∀ b : Bool, b = decide (u.toInt < 0) → Cc t σ1 L1 c1 (bd (f_X5_keep σ1 t d (nA t 8) (bI b) ((s : Int32).toInt64)) fun x5 σ6 => (isB x5).bind fun _ => some (x5, σ6, 0, 0)) (sPut A d u s) T W := fun b hb => by
    have := t_ckeep (d := d) (m := 8) (n := b) (z := s.toInt) h1 (by decide) rfl rfl (iZ_lx s) (by omega) (by omega)
    rw [upA_s, hb] at this
    rw [hb]
    exact cc_rt this isB_kD
  refine e_jq ?_
  by_cases hu : 0 ≤ u
  · refine e_t hu (fin false ?_)
    rw [decide_eq_false]
    have := Int64.le_iff_toInt_le.mp hu
    have e0 : (0 : Int64).toInt = 0 := rfl
    omega
  · refine e_f hu (fin true ?_)
    rw [decide_eq_true]
    have := Int64.lt_iff_toInt_lt.mp (Int64.not_le.mp hu)
    have e0 : (0 : Int64).toInt = 0 := rfl
    omega
theorem t_ccopy {d a : Int32} {other : Bool} (h : CI t σ L c V A T W) : Cc t σ L c (f_X5_copy σ t d a (bI other)) (sCopy A d a other) T W := by
  unfold sCopy
  rw [onR_sw]
  unfold f_X5_copy
  refine e_ob h.t5 ?_
  rcases cis_or (σ := σ) a with ⟨j, hj, rfl, e1⟩ | ⟨e1, e2⟩
  · rw [onR_y hj]
    refine e_b1 e1 (e_f (by decide) ?_)
    have hb := h.ok j hj
    refine e_b1 h.g0 (e_b1 (h.gr hj rfl) (e_b1 (h.d0 hj) (e_b1 (h.d1 hj) ?_)))
    have fin : ∀ b : Bool, b = xor (A.2.1 j) other → Cc t σ L c ((gI σ 0 (dA t j) 2).bind fun x7 => bd (f_X5_keep σ t d (nA t j) (bI b) ((x7 : Int32).toInt64)) fun x8 σ9 => (isB x8).bind fun _ => some (x8, σ9, 0, 0)) (onR d A fun i => kpA i (A.1 j) (xor (A.2.1 j) other) (A.2.2 j) A) T W := fun b hb' => by
      refine e_b1 (h.d2 hj) ?_
      have := t_ckeep (d := d) (m := j) (n := b) (z := A.2.2 j) h (by omega) rfl rfl (iZ_l hb.2.1 hb.2.2.1) (by omega) (by omega)
      rw [h.rv hj, hb'] at this
      rw [hb']
      exact cc_rt this isB_kD
    refine e_jq ?_
    by_cases he : A.2.1 j = other
    · refine e_t (by rw [he]) (fin false ?_)
      rw [he]; cases other <;> rfl
    · refine e_f (fun w => he (bI_eq.mp w)) (fin true ?_)
      revert he
      cases A.2.1 j <;> cases other <;> simp
  · rw [onR_n e2]
    exact e_b1 e1 (e_t rfl (cc_no h))
theorem t_cmove {d a n : Int32} (h : CI t σ L c V A T W) : Cc t σ L c (f_X5_move σ t d a n) (sMove A d a n) T W := by
  have l1 := iZ_lo n
  have l2 := iZ_hi n
  unfold sMove
  rw [onR_sw]
  unfold f_X5_move
  refine e_ob h.t5 ?_
  rcases cis_or (σ := σ) a with ⟨j, hj, rfl, e1⟩ | ⟨e1, e2⟩
  · rw [onR_y hj]
    refine e_b1 e1 (e_f (by decide) ?_)
    have hb := h.ok j hj
    refine e_b1 h.g0 (e_b1 (h.gr hj rfl) (e_b1 (h.d0 hj) (e_b1 (h.d1 hj) (e_b1 (h.d2 hj) ?_))))
    have := t_ckeep (d := d) (m := j) (n := A.2.1 j) (z := A.2.2 j - n.toInt) (j4 := (iZ (A.2.2 j)).toInt64 - n.toInt64) h (by omega) rfl rfl (by rw [iZ_l hb.2.1 hb.2.2.1, iZ_lx, lZ_sub]) (by omega) (by omega)
    rw [h.rv hj] at this
    exact cc_rt this isB_kD
  · rw [onR_n e2]
    exact e_b1 e1 (e_t rfl (cc_no h))
theorem t_cstrip {d a : Int32} (h : CI t σ L c V A T W) : Cc t σ L c (f_X5_strip σ t d a) (sStrip A d a) T W := by
  unfold sStrip
  rw [onR_sw]
  unfold f_X5_strip
  refine e_ob h.t5 ?_
  rcases cis_or (σ := σ) a with ⟨j, hj, rfl, e1⟩ | ⟨e1, e2⟩
  · rw [onR_y hj]
    refine e_b1 e1 (e_f (by decide) ?_)
    have hb := h.ok j hj
    refine e_b1 h.g0 (e_b1 (h.gr hj rfl) (e_b1 (h.d0 hj) (e_b1 (t_isZero (h.nr hj)) ?_)))
    by_cases hz : A.1 j = 0
    · rw [if_pos hz]
      refine e_f (by decide) (e_b1 (h.d0 hj) ?_)
      have := t_ckeep (d := d) (m := j) (n := false) (z := 0) (i3 := 0) (j4 := 0) h (by omega) rfl rfl rfl (by omega) (by omega)
      rw [h.rv hj] at this
      refine cc_R (R := kD d (A.1 j) false 0 A) ?_ (cc_rt this isB_kD)
      refine kD_cg ?_ (fun w => ?_) (by rw [if_pos hz])
      · rw [hz, Nat.zero_div]
      · rw [hz, Nat.zero_div] at w; omega
    · rw [if_neg hz]
      refine e_t rfl (e_b1 (h.d0 hj) ?_)
      obtain ⟨z, z1, z2, z3⟩ := t_endingZeros h.tn (h.nr hj)
      have he := ez_un z2
      subst he
      have hez := ez_sz (q := A.1 j)
      refine e_b1 z1 (e_b1 h.g1 (e_b1 (h.d0 hj) ?_))
      refine cw_bd (cw_p1 h (by decide) (by decide) (t_become h.dm (h.nv (by decide)) (h.nr hj) (fun w => h.inj (by decide) (by omega) (by omega)) (fun w => absurd w (nA_inj (by decide) (by omega) (by omega))) (Em_ge (by omega)))) ?_
      rintro r σ1 L1 c1 V1 h1 rfl
      refine e_b1 h1.g1 ?_
      have h8 := h1.nv (i := 8) (by decide)
      rw [upA_s] at h8
      refine cw_bd (cw_p1 h1 (by decide) (by decide) (t_drop h1.tn h8 rfl (by omega))) ?_
      rintro r σ2 L2 c2 V2 h2 rfl
      refine e_b1 h2.g1 (e_b1 (h2.d1 hj) (e_b1 (h2.d2 hj) ?_))
      have := t_ckeep (d := d) (m := 8) (n := A.2.1 j) (z := A.2.2 j - ez (A.1 j)) (j4 := (iZ (A.2.2 j)).toInt64 - (nI (ez (A.1 j))).toInt64) h2 (by decide) rfl rfl (by rw [iZ_l hb.2.1 hb.2.2.1, nI_l (by omega), lZ_n, lZ_sub]) (by omega) (by omega)
      rw [upA_s] at this
      refine cc_R (R := kD d (A.1 j / 10 ^ ez (A.1 j)) (A.2.1 j) (A.2.2 j - ez (A.1 j)) A) (kD_cg rfl (fun _ => rfl) (by rw [if_neg hz])) (cc_rt this isB_kD)
  · rw [onR_n e2]
    exact e_b1 e1 (e_t rfl (cc_no h))
/-- multiply into work or quotient; false where the product has too many digits -/
theorem t_cmul {i j k : Nat} (h : CI t σ L c V A T W) (i1 : 8 ≤ i) (i2 : i < 11) (hj : j < 11) (hk : k < 11) (nj : i ≠ j) (nk : i ≠ k) (sj : sz (V j) ≤ 5000) (sk : sz (V k) ≤ 5000) : Cw t σ L c A T W (f_X5_multiply σ (nA t i) (nA t j) (nA t k)) (fun r V' => (r = 1 ∧ V' = upA V i (V j * V k) ∧ sz (V j * V k) ≤ 4097) ∨ (r = 0 ∧ V' = V ∧ ¬ sz (V j * V k) ≤ 4096)) := by
  have b8 : ∀ x, sz x ≤ 5000 → x < 10 ^ 8500 := fun x hx => Nat.lt_of_lt_of_le (sz_le.mp hx) (p10_le (by decide))
  unfold f_X5_multiply
  refine e_b1 (t_isZero (h.nv hj)) ?_
  refine e_jn (fun _ => sz (V j * V k) ≤ 4097) ?_ ?_
  · intro _ hsz
    refine cw_bw (cw_p1 h i1 i2 (t_product h.dm (h.nv i2) (h.nv hj) (h.nv hk) (nA_inj i2 hj nj) (nA_inj i2 hk nk) (h.inj (by omega) (by omega) nj) (h.inj (by omega) (by omega) nk) (b8 _ sj) (b8 _ sk))) ?_
    rintro r σ1 L1 c1 V1 h1 rfl
    exact cw_no h1 (Or.inl ⟨rfl, rfl, hsz⟩)
  · intro k2 hk2
    by_cases hz : V j = 0
    · rw [if_pos hz]
      exact e_f (by decide) (hk2 () (by rw [hz, Nat.zero_mul]; decide))
    · rw [if_neg hz]
      refine e_t rfl ?_
      refine e_b1 (t_isZero (h.nv hk)) ?_
      by_cases hz2 : V k = 0
      · rw [if_pos hz2]
        exact e_f (by decide) (hk2 () (by rw [hz2, Nat.mul_zero]; decide))
      · rw [if_neg hz2]
        refine e_t rfl ?_
        refine e_b1 (t_digitCount h.tn (h.nv hj)) (e_b1 (t_digitCount h.tn (h.nv hk)) ?_)
        have n1 : nd (V j) = sz (V j) := by rw [nd_sz, if_neg hz]
        have n2 : nd (V k) = sz (V k) := by rw [nd_sz, if_neg hz2]
        have p1 := sz_pos (show 0 < V j by omega)
        have p2 := sz_pos (show 0 < V k by omega)
        rw [n1, n2, nI_add, show (1 : Int32) = nI 1 from rfl, pk_sub (by omega)]
        by_cases hle : sz (V j) + sz (V k) - 1 ≤ 4096
        · refine e_t (nI_le (b := 4096) hle (by decide)) (hk2 () (sz_le.mpr ?_))
          have q1 := Nat.mul_lt_mul'' (sz_lt (V j)) (sz_lt (V k))
          rw [← Nat.pow_add] at q1
          exact Nat.lt_of_lt_of_le q1 (p10_le (by omega))
        · refine e_f (nI_ge (a := 4096) (by omega) (by omega)) (cw_no h (Or.inr ⟨rfl, rfl, fun w => ?_⟩))
          have q1 := sz_ge (show 0 < V j by omega)
          have q2 := sz_ge (show 0 < V k by omega)
          have q3 := Nat.mul_le_mul q1 q2
          rw [← Nat.pow_add] at q3
          have q4 := sz_le.mp w
          have q5 : 10 ^ 4096 ≤ 10 ^ (sz (V j) - 1 + (sz (V k) - 1)) := p10_le (by omega)
          omega
theorem t_ctimes {d a b : Int32} (h : CI t σ L c V A T W) : Cc t σ L c (f_X5_times σ t d a b) (sTimes A d a b) T W := by
  unfold sTimes
  rw [onR_sw]
  unfold f_X5_times
  refine e_ob h.t5 ?_
  rcases cis_or (σ := σ) a with ⟨j, hj, rfl, e1⟩ | ⟨e1, e2⟩
  · rw [onR_y hj, onR_sw]
    refine e_b1 e1 (e_f (by decide) ?_)
    rcases cis_or (σ := σ) b with ⟨k, hk, rfl, e1⟩ | ⟨e1, e2⟩
    · rw [onR_y hk]
      refine e_b1 e1 (e_f (by decide) ?_)
      have hb := h.ok j hj
      have hb2 := h.ok k hk
      refine e_b1 h.g0 (e_b1 (h.gr hj rfl) (e_b1 h.g0 (e_b1 (h.gr hk rfl) (e_b1 h.g1 (e_b1 (h.d0 hj) (e_b1 (h.d0 hk) ?_))))))
      refine cw_bd (t_cmul h (i := 8) (j := j) (k := k) (by decide) (by decide) (by omega) (by omega) (by omega) (by omega) (by rw [h.rv hj]; omega) (by rw [h.rv hk]; omega)) ?_
      rintro r σ1 L1 c1 V1 h1 (⟨rfl, rfl, -⟩ | ⟨rfl, rfl, q3⟩)
      · refine e_f (by decide) ?_
        refine e_b1 h1.g1 (e_b1 (h1.d1 hj) (e_b1 (h1.d1 hk) ?_))
        have fin : ∀ bb : Bool, bb = xor (A.2.1 j) (A.2.1 k) → Cc t σ1 L1 c1 ((gI σ1 0 (dA t j) 2).bind fun x16 => (gI σ1 0 (dA t k) 2).bind fun x17 => bd (f_X5_keep σ1 t d (nA t 8) (bI bb) (((x16 : Int32).toInt64) + ((x17 : Int32).toInt64))) fun x18 σ19 => (isB x18).bind fun _ => some (x18, σ19, 0, 0)) (onR d A fun i => kpA i (A.1 j * A.1 k) (xor (A.2.1 j) (A.2.1 k)) (A.2.2 j + A.2.2 k) A) T W := fun bb hbb => by
          refine e_b1 (h1.d2 hj) (e_b1 (h1.d2 hk) ?_)
          have := t_ckeep (d := d) (m := 8) (n := bb) (z := A.2.2 j + A.2.2 k) (j4 := (iZ (A.2.2 j)).toInt64 + (iZ (A.2.2 k)).toInt64) h1 (by decide) rfl rfl (by rw [iZ_l hb.2.1 hb.2.2.1, iZ_l hb2.2.1 hb2.2.2.1, lZ_add]) (by omega) (by omega)
          rw [upA_s, h.rv hj, h.rv hk, hbb] at this
          rw [hbb]
          exact cc_rt this isB_kD
        refine e_jq ?_
        by_cases he : A.2.1 j = A.2.1 k
        · refine e_t (by rw [he]) (fin false ?_)
          rw [he]; cases A.2.1 k <;> rfl
        · refine e_f (fun w => he (bI_eq.mp w)) (fin true ?_)
          revert he
          cases A.2.1 j <;> cases A.2.1 k <;> simp
      · rw [h.rv hj, h.rv hk] at q3
        refine e_t rfl (cc_R (R := (0, A)) ?_ (cc_no h1))
        have : ∀ i, kpA i (A.1 j * A.1 k) (xor (A.2.1 j) (A.2.1 k)) (A.2.2 j + A.2.2 k) A = (0, A) := fun i => kp_big q3
        simp only [this]
        exact onR_0
    · rw [onR_n e2]
      exact e_b1 e1 (e_t rfl (cc_no h))
  · rw [onR_n e2]
    exact e_b1 e1 (e_t rfl (cc_no h))
theorem t_calign {i j : Nat} {s : Int} {x : Int32} (h : CI t σ L c V A T W) (i1 : 8 ≤ i) (i2 : i < 11) (hj : j < 8) (hx : x = iZ s) (s1 : -2147483648 ≤ s) (s2 : s < 2147483648) (hs : A.2.2 j ≤ s) : Cw t σ L c A T W (f_X5_align σ (nA t i) (dA t j) x) (fun r V' => (r = 1 ∧ V' = upA V i (A.1 j * 10 ^ (s - A.2.2 j).toNat) ∧ sz (A.1 j * 10 ^ (s - A.2.2 j).toNat) ≤ 4097) ∨ (r = 0 ∧ V' = V ∧ ¬ sz (A.1 j * 10 ^ (s - A.2.2 j).toNat) ≤ 4097)) := by
  subst hx
  have hb := h.ok j hj
  unfold f_X5_align
  refine e_b1 (h.d0 hj) (e_b1 (t_isZero (h.nr hj)) ?_)
  by_cases hz : A.1 j = 0
  · rw [if_pos hz]
    refine e_f (by decide) ?_
    refine cw_bw (cw_p1 h i1 i2 (t_clear (h.nv i2))) ?_
    rintro r σ1 L1 c1 V1 h1 rfl
    refine cw_no h1 (Or.inl ⟨rfl, ?_, ?_⟩)
    · rw [hz, Nat.zero_mul]
    · rw [hz, Nat.zero_mul]; decide
  · rw [if_neg hz]
    refine e_t rfl ?_
    refine e_b1 (h.d2 hj) (e_le (x := lZ (s - A.2.2 j)) (by rw [iZ_l s1 s2, iZ_l hb.2.1 hb.2.2.1, lZ_sub]) ?_)
    refine e_b1 (h.d0 hj) (e_b1 (t_digitCount h.tn (h.nr hj)) ?_)
    have n1 : nd (A.1 j) = sz (A.1 j) := by rw [nd_sz, if_neg hz]
    have hsz : sz (A.1 j * 10 ^ (s - A.2.2 j).toNat) = sz (A.1 j) + (s - A.2.2 j).toNat := sz_mul (by omega)
    rw [n1, nI_l (by omega), lZ_n, lZ_add]
    by_cases hle : (sz (A.1 j) : Int) + (s - A.2.2 j) ≤ 4097
    · refine e_t ((lZ_le (b := 4097) (by omega) (by omega) (by omega) (by omega)).mpr hle) ?_
      refine e_b1 (h.d0 hj) ?_
      refine cw_bw (cw_p1 h i1 i2 (t_raise (k := (s - A.2.2 j).toNat) h.dm h.tn (h.nv i2) (h.nr hj) (fun w => h.inj (by omega) (by omega) (by omega)) (fun w => absurd w (nA_inj i2 (by omega) (by omega))) (by rw [lZ_i, iZ_nat (by omega)]) (by omega) (Em_ge (by omega)))) ?_
      rintro r σ1 L1 c1 V1 h1 rfl
      exact cw_no h1 (Or.inl ⟨rfl, rfl, by omega⟩)
    · refine e_f (fun w => hle ((lZ_le (b := 4097) (by omega) (by omega) (by omega) (by omega)).mp w)) ?_
      exact cw_no h (Or.inr ⟨rfl, rfl, by omega⟩)
theorem sum_big2 {x y : Nat} {p q : Bool} (hx : 10 ^ 4097 ≤ x) (hy : y < 10 ^ 4096) : ¬ sz (sgd x p + sgd y q).natAbs ≤ 4096 := by
  rw [sz_le]
  rw [show (10 : Nat) ^ 4097 = 10 * 10 ^ 4096 by rw [show 4097 = 4096 + 1 from rfl, Nat.pow_add, Nat.mul_comm]] at hx
  generalize 10 ^ 4096 = B at *
  unfold sgd
  cases p <;> cases q <;> simp only [if_true, if_false, Bool.false_eq_true] <;> omega
theorem j_maxZ {a b : Int} {x y : Int32} (hx : x = iZ a) (hy : y = iZ b) (a1 : -2147483648 ≤ a) (a2 : a < 2147483648) (b1 : -2147483648 ≤ b) (b2 : b < 2147483648) : f_J9_max_7cf53 σ x y = some (iZ (max a b)) := by
  subst hx hy
  unfold f_J9_max_7cf53
  by_cases h : a < b
  · rw [if_pos ((iZ_lt a1 a2 b1 b2).mpr h), Int.max_eq_right (by omega)]
  · rw [if_neg (fun z => h ((iZ_lt a1 a2 b1 b2).mp z)), Int.max_eq_left (by omega)]
theorem t_csum {d a b : Int32} {sub : Bool} {i4 : Int32} (h4 : i4 = bI sub) (h : CI t σ L c V A T W) : Cc t σ L c (f_X5_sumUp σ t d a b i4) (sSum A d a b sub) T W := by
  subst h4
  unfold sSum
  rw [onR_sw]
  unfold f_X5_sumUp
  refine e_ob h.t5 ?_
  rcases cis_or (σ := σ) a with ⟨j, hj, rfl, e1⟩ | ⟨e1, e2⟩
  · rw [onR_y hj, onR_sw]
    refine e_b1 e1 (e_f (by decide) ?_)
    rcases cis_or (σ := σ) b with ⟨k, hk, rfl, e1⟩ | ⟨e1, e2⟩
    · rw [onR_y hk]
      refine e_b1 e1 (e_f (by decide) ?_)
      have hb := h.ok j hj
      have hb2 := h.ok k hk
      refine e_b1 h.g0 (e_b1 (h.gr hj rfl) (e_b1 h.g0 (e_b1 (h.gr hk rfl) (e_b1 (h.d2 hj) (e_b1 (h.d2 hk) ?_)))))
      refine e_b1 (j_maxZ rfl rfl hb.2.1 hb.2.2.1 hb2.2.1 hb2.2.2.1) ?_
      obtain ⟨s, hs⟩ : ∃ s, max (A.2.2 j) (A.2.2 k) = s := ⟨_, rfl⟩
      have hZ : smZ A j k sub = sgd (A.1 j * 10 ^ (s - A.2.2 j).toNat) (A.2.1 j) + sgd (A.1 k * 10 ^ (s - A.2.2 k).toNat) (xor (A.2.1 k) sub) := by
        unfold smZ
        rw [hs]
      rw [hs, hZ]
      have els : (iZ s : Int32).toInt64 = lZ s := iZ_l (by omega) (by omega)
      obtain ⟨x, hx⟩ : ∃ x, A.1 j * 10 ^ (s - A.2.2 j).toNat = x := ⟨_, rfl⟩
      obtain ⟨y, hy⟩ : ∃ y, A.1 k * 10 ^ (s - A.2.2 k).toNat = y := ⟨_, rfl⟩
      obtain ⟨q, hq⟩ : ∃ q, xor (A.2.1 k) sub = q := ⟨_, rfl⟩
      rw [hx, hy, hq]
      have hx0 : A.1 j = 0 → x = 0 := fun w => by rw [← hx, w, Nat.zero_mul]
      have hy0 : A.1 k = 0 → y = 0 := fun w => by rw [← hy, w, Nat.zero_mul]
      have big : ¬ sz (sgd x (A.2.1 j) + sgd y q).natAbs ≤ 4096 → (onR d A fun i => kpA i (sgd x (A.2.1 j) + sgd y q).natAbs (decide (sgd x (A.2.1 j) + sgd y q < 0)) s A) = (0, A) := fun w => by
        have : ∀ i, kpA i (sgd x (A.2.1 j) + sgd y q).natAbs (decide (sgd x (A.2.1 j) + sgd y q < 0)) s A = (0, A) := fun i => kp_big w
        simp only [this]
        exact onR_0
      refine e_b1 h.g1 ?_
      refine cw_bd (t_calign h (i := 8) (by decide) (by decide) hj rfl (by omega) (by omega) (by omega)) ?_
      rw [hx]
      rintro r σ1 L1 c1 V1 h1 (⟨rfl, rfl, sx⟩ | ⟨rfl, rfl, sx⟩)
      · refine e_f (by decide) (e_b1 h1.g3 ?_)
        refine cw_bd (t_calign h1 (i := 10) (by decide) (by decide) hk rfl (by omega) (by omega) (by omega)) ?_
        rw [hy]
        rintro r σ2 L2 c2 V2 h2 (⟨rfl, rfl, sy⟩ | ⟨rfl, rfl, sy⟩)
        · refine e_f (by decide) (e_b1 (h2.d1 hk) ?_)
          have v8 : NV σ2 (nA t 8) (L2 8) (c2 8) x := by have := h2.nv (i := 8) (by decide); rwa [upA_n (by decide), upA_s] at this
          have v10 : NV σ2 (nA t 10) (L2 10) (c2 10) y := by have := h2.nv (i := 10) (by decide); rwa [upA_s] at this
          refine e_jn (fun z17 => z17 = bI q) ?_ ?_
          · intro z17 hz17
            subst hz17
            refine e_b1 (h2.d1 hj) ?_
            by_cases he : A.2.1 j = q
            · refine e_t (by rw [he]) ?_
              refine e_b1 h2.g2 (e_b1 h2.g1 (e_b1 h2.g3 ?_))
              refine cw_bd (cw_p1 h2 (by decide) (by decide) (t_sum h2.dm (h2.nv (by decide)) v8 v10 (nA_inj (by decide) (by decide) (by decide)) (nA_inj (by decide) (by decide) (by decide)) (h2.inj (by decide) (by decide) (by decide)) (h2.inj (by decide) (by decide) (by decide)) (Em_ge (by omega)) (Em_ge (by omega)))) ?_
              rintro r σ3 L3 c3 V3 h3 rfl
              refine e_b1 h3.g2 (e_b1 (h3.d1 hj) ?_)
              have := t_ckeep (d := d) (m := 9) (n := A.2.1 j) (z := s) (j4 := (iZ s : Int32).toInt64) h3 (by decide) rfl rfl els (by omega) (by omega)
              rw [upA_s] at this
              refine cc_R (R := kD d (x + y) (A.2.1 j) s A) (kD_cg ?_ ?_ rfl) (cc_rt this isB_kD)
              · rw [he]; unfold sgd; cases q <;> simp <;> omega
              · rw [he]; unfold sgd; cases q <;> simp <;> omega
            · refine e_f (fun w => he (bI_eq.mp w)) ?_
              refine e_b1 h2.g1 (e_b1 h2.g3 (e_b1 (t_order v8 v10) ?_))
              by_cases hlt : x < y
              · rw [if_pos hlt]
                refine e_t (by decide) (e_b1 h2.g3 (e_b1 h2.g1 ?_))
                refine cw_bd (cw_p1 h2 (by decide) (by decide) (t_subtract v10 v8 (h2.inj (by decide) (by decide) (by decide)) (by omega))) ?_
                rintro r σ3 L3 c3 V3 h3 rfl
                refine e_b1 h3.g3 ?_
                have := t_ckeep (d := d) (m := 10) (n := q) (z := s) (j4 := (iZ s : Int32).toInt64) h3 (by decide) rfl rfl els (by omega) (by omega)
                rw [upA_s] at this
                refine cc_R (R := kD d (y - x) q s A) (kD_cg ?_ ?_ rfl) (cc_rt this isB_kD)
                · revert he; unfold sgd; cases A.2.1 j <;> cases q <;> simp <;> omega
                · intro _; revert he; unfold sgd; cases A.2.1 j <;> cases q <;> simp <;> omega
              · refine e_f (by rw [if_neg hlt]; split <;> decide) (e_b1 h2.g1 (e_b1 h2.g3 ?_))
                refine cw_bd (cw_p1 h2 (by decide) (by decide) (t_subtract v8 v10 (h2.inj (by decide) (by decide) (by decide)) (by omega))) ?_
                rintro r σ3 L3 c3 V3 h3 rfl
                refine e_b1 h3.g1 (e_b1 (h3.d1 hj) ?_)
                have := t_ckeep (d := d) (m := 8) (n := A.2.1 j) (z := s) (j4 := (iZ s : Int32).toInt64) h3 (by decide) rfl rfl els (by omega) (by omega)
                rw [upA_s] at this
                refine cc_R (R := kD d (x - y) (A.2.1 j) s A) (kD_cg ?_ ?_ rfl) (cc_rt this isB_kD)
                · revert he; unfold sgd; cases A.2.1 j <;> cases q <;> simp <;> omega
                · revert he; unfold sgd; cases A.2.1 j <;> cases q <;> simp <;> omega
          · intro k17 hk17
            by_cases he : A.2.1 k = sub
            · refine e_t (by rw [he]) (hk17 _ ?_)
              rw [← hq, he]; cases sub <;> rfl
            · refine e_f (fun w => he (bI_eq.mp w)) (hk17 _ ?_)
              rw [← hq]
              revert he
              cases A.2.1 k <;> cases sub <;> simp [bI]
        · refine e_t rfl (cc_R (R := (0, A)) (big ?_) (cc_no h2))
          have gk : 0 < A.1 k := Nat.pos_of_ne_zero fun w => by rw [hy0 w, sz_0] at sy; omega
          have e1 : sz y = sz (A.1 k) + (s - A.2.2 k).toNat := by rw [← hy]; exact sz_mul gk
          have e2 : s = A.2.2 j := by omega
          have e3 : x = A.1 j := by rw [← hx, e2, Int.sub_self, show (0 : Int).toNat = 0 from rfl, Nat.pow_zero, Nat.mul_one]
          rw [Int.add_comm]
          refine sum_big2 ?_ (by rw [e3]; exact sz_le.mp hb.1)
          have hy00 : 0 < y := Nat.pos_of_ne_zero fun w => by rw [w, sz_0] at sy; omega
          exact Nat.le_trans (p10_le (by omega)) (sz_ge hy00)
      · refine e_t rfl (cc_R (R := (0, A)) (big ?_) (cc_no h1))
        have gk : 0 < A.1 j := Nat.pos_of_ne_zero fun w => by rw [hx0 w, sz_0] at sx; omega
        have e1 : sz x = sz (A.1 j) + (s - A.2.2 j).toNat := by rw [← hx]; exact sz_mul gk
        have e2 : s = A.2.2 k := by omega
        have e3 : y = A.1 k := by rw [← hy, e2, Int.sub_self, show (0 : Int).toNat = 0 from rfl, Nat.pow_zero, Nat.mul_one]
        refine sum_big2 ?_ (by rw [e3]; exact sz_le.mp hb2.1)
        have hx00 : 0 < x := Nat.pos_of_ne_zero fun w => by rw [w, sz_0] at sx; omega
        exact Nat.le_trans (p10_le (by omega)) (sz_ge hx00)
    · rw [onR_n e2]
      exact e_b1 e1 (e_t rfl (cc_no h))
  · rw [onR_n e2]
    exact e_b1 e1 (e_t rfl (cc_no h))
theorem t_cadd {d a b : Int32} (h : CI t σ L c V A T W) : Cc t σ L c (f_X5_add σ t d a b) (sSum A d a b false) T W := by
  unfold f_X5_add
  exact e_ob h.t5 (cc_rt (t_csum rfl h) isB_sSum)
theorem t_ctake {d a b : Int32} (h : CI t σ L c V A T W) : Cc t σ L c (f_X5_take σ t d a b) (sSum A d a b true) T W := by
  unfold f_X5_take
  exact e_ob h.t5 (cc_rt (t_csum rfl h) isB_sSum)
end C1
