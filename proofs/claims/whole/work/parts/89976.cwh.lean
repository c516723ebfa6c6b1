/-! ===== whole of the object ===== -/
section C5
variable {t : Nat} {σ : St} {L c V : Nat → Nat} {A : AS} {T W : TS}
theorem sz_ndl {x : Nat} : sz x ≤ nd x := by
  rw [nd_sz]
  by_cases h : x = 0
  · rw [if_pos h, h, sz_0]; omega
  · rw [if_neg h]; exact Nat.le_refl _
theorem cv_bd {e : Rs Int32} {f : Int32 → St → Rs Int32} {R R1 : Int32 × AS} {T' W' : TS} (h : Cv t σ L c V e R1 T W) (kk : ∀ σ1 L1 c1 V1, CI t σ1 L1 c1 V1 R1.2 T W → (∀ m, 8 ≤ m → V1 m = V m) → Cc t σ1 L1 c1 (f R1.1 σ1) R T' W') : Cc t σ L c (bd e f) R T' W' := by
  refine e_bd h ?_
  rintro a σ1 kc sc ⟨rfl, L1, c1, V1, h1, h2, h3⟩
  refine e_im (kk σ1 L1 c1 V1 h1 h3) ?_
  rintro r σ2 k' s' ⟨e1, L2, c2, V2, g1, g2⟩
  exact ⟨e1, L2, c2, V2, g1, h2.trans g2⟩
theorem t_cfits {m : Nat} {z : Int} {a : Nat} {j : Int64} (h : CI t σ L c V A T W) (hm : m < 11) (ha : a = nA t m) (hj : j = lZ z) (z1 : -9223372036854775808 ≤ z) (z2 : z < 9223372036854775808) : f_X5_fits σ a j = some (bI (decide (sz (V m) ≤ 4096 ∧ -2147483648 ≤ z ∧ z < 2147483648))) := by
  subst ha hj
  have hnv := h.nv hm
  unfold f_X5_fits
  refine q_b1 (t_digitCount h.tn hnv) ?_
  by_cases hs : sz (V m) ≤ 4096
  · refine q_f (nI_nlt (a := 4096) (sz_nd.mp hs) (by decide)) ?_
    by_cases hz : -2147483648 ≤ z ∧ z < 2147483648
    · refine q_t ((li_rt z1 z2).mpr hz) ?_
      rw [decide_eq_true ⟨hs, hz⟩]; rfl
    · refine q_f (fun w => hz ((li_rt z1 z2).mp w)) ?_
      rw [decide_eq_false (fun w => hz w.2)]; rfl
  · have hle : nd (V m) < 2 ^ 31 := by
      obtain ⟨n', g, f, p1, p2, p3, p4, p5, p6, p7, p8⟩ := hnv.split
      have h9 : V m < 10 ^ 40000 := by
        rw [← p8]
        refine Nat.lt_of_lt_of_le (vl_lt p6) ?_
        rw [show BS = 10 ^ 9 from rfl, ← Nat.pow_mul]
        exact p10_le (by omega)
      have := (nd_le (x := V m) (d := 40000) (by decide)).mpr h9
      omega
    refine q_t (nI_lt (a := 4096) (Nat.not_le.mp fun w => hs (sz_nd.mpr w)) hle) ?_
    rw [decide_eq_false (fun w => hs w.1)]; rfl
theorem t_ckw {i l j : Nat} {ny : Bool} {s s' : Int} {i1 i2 i4 : Int32} {a3 : Nat} {j5 j7 : Int64} (h : CI t σ L c V A T W) (hi : i < 8) (hl : l < 8) (hil : i ≠ l) (hj : j < 8) (e1 : i1 = nI i) (e2 : i2 = nI l) (e3 : a3 = dA t j) (e4 : i4 = bI ny) (e5 : j5 = lZ s) (e7 : j7 = lZ s') (s1 : -100000000000 ≤ s) (s2 : s < 100000000000) (s3 : -100000000000 ≤ s') (s4 : s' < 100000000000) : Cc t σ L c (f_X5_keepWhole σ t i1 i2 a3 i4 j5 j7) (wkA i l (V 9) (xor (A.2.1 j) ny) s (V 8) (A.2.1 j) s' A) T W := by
  subst e1 e2 e3 e4
  unfold f_X5_keepWhole
  refine e_ob h.t5 (e_b1 (h.d1 hj) (e_b1 h.g1 (e_b1 (t_cfits h (by decide) rfl e7 (by omega) (by omega)) ?_)))
  unfold wkA
  by_cases hf : sz (V 8) ≤ 4096 ∧ -2147483648 ≤ s' ∧ s' < 2147483648
  · rw [decide_eq_true hf]
    refine e_f (by decide) (e_b1 h.g2 ?_)
    have fin : ∀ zz, zz = bI (xor (A.2.1 j) ny) → Cc t σ L c (bd (f_X5_keep σ t (nI i) (nA t 9) zz j5) fun x6 σ7 => if x6 = 0 then ((isB 0).bind fun _ => some (0, σ7, 0, 0)) else (gR σ7 5 t 1).bind fun r8 => bd (f_X5_keep σ7 t (nI l) r8 (bI (A.2.1 j)) j7) fun x9 σ10 => if x9 = 0 then ((isB 0).bind fun _ => some (0, σ10, 0, 0)) else (isB 1).bind fun _ => some (1, σ10, 0, 0)) (if (sz (V 8) ≤ 4096 ∧ -2147483648 ≤ s' ∧ s' < 2147483648) ∧ (sz (V 9) ≤ 4096 ∧ -2147483648 ≤ s ∧ s < 2147483648) then (1, setA (setA A i (V 9) (xor (A.2.1 j) ny) s) l (V 8) (A.2.1 j) s') else (0, A)) T W := by
      intro zz hzz
      subst hzz
      have k1 := t_ckeepV (d := nI i) (m := 9) (n := xor (A.2.1 j) ny) (z := s) h (by decide) rfl rfl e5 (by omega) (by omega)
      unfold kD at k1
      rw [onR_y hi] at k1
      refine cv_bd k1 ?_
      intro σ1 L1 c1 V1 h1 hV
      by_cases hq : sz (V 9) ≤ 4096 ∧ -2147483648 ≤ s ∧ s < 2147483648
      · have ek : kpA i (V 9) (xor (A.2.1 j) ny) s A = (1, setA A i (V 9) (xor (A.2.1 j) ny) s) := if_pos hq
        rw [ek] at h1 ⊢
        refine e_f (show ¬ (1 : Int32) = 0 by decide) (e_b1 h1.g1 ?_)
        have k2 := t_ckeep (d := nI l) (m := 8) (n := A.2.1 j) (z := s') h1 (by decide) rfl rfl e7 (by omega) (by omega)
        unfold kD at k2
        rw [onR_y hl, hV 8 (by decide)] at k2
        have ek2 : kpA l (V 8) (A.2.1 j) s' (setA A i (V 9) (xor (A.2.1 j) ny) s) = (1, setA (setA A i (V 9) (xor (A.2.1 j) ny) s) l (V 8) (A.2.1 j) s') := if_pos hf
        rw [ek2] at k2
        refine cc_R (if_pos ⟨hf, hq⟩) (cc_ok k2 rfl)
      · have ek : kpA i (V 9) (xor (A.2.1 j) ny) s A = (0, A) := if_neg hq
        rw [ek] at h1 ⊢
        exact cc_R (if_neg (fun w => hq w.2)) (e_t rfl (cc_no h1))
    refine e_jq ?_
    by_cases hee : A.2.1 j = ny
    · refine e_t (by rw [hee]) (fin 0 ?_)
      rw [hee]; cases ny <;> rfl
    · refine e_f (fun w => hee (bI_eq.mp w)) (fin 1 ?_)
      revert hee
      cases A.2.1 j <;> cases ny <;> simp [bI]
  · rw [decide_eq_false hf]
    exact cc_R (if_neg (fun w => hf w.1)) (e_t rfl (cc_no h))
theorem isB_wT {i l x y : Nat} {nq nr : Bool} {z sa : Int} : isB (wTA i l x y nq nr z sa A).1 = some () := by
  unfold wTA
  split
  · exact isB_wk
  · split
    · rfl
    · exact isB_wk
theorem t_ckwr {i l j k T' : Nat} {i1 i2 : Int32} {a3 a4 : Nat} {j5 : Int64} (h : CI t σ L c V A T W) (hi : i < 8) (hl : l < 8) (hil : i ≠ l) (hj : j < 8) (hk : k < 8) (gk : 0 < A.1 k) (e1 : i1 = nI i) (e2 : i2 = nI l) (e3 : a3 = dA t j) (e4 : a4 = dA t k) (hT : A.2.2 j - A.2.2 k = -(T' : Int)) (e5 : j5 = lZ T') : Cc t σ L c (f_X5_keepWholeOfRaised σ t i1 i2 a3 a4 j5) (wTA i l (A.1 j) (A.1 k) (xor (A.2.1 j) (A.2.1 k)) (A.2.1 j) (-(T' : Int)) (A.2.2 j) A) T W := by
  subst e3 e4 e5
  have hb := h.ok j hj
  have hb2 := h.ok k hk
  have sk := sz_pos gk
  have nk : nd (A.1 k) = sz (A.1 k) := by rw [nd_sz, if_neg (by omega)]
  have nj1 : sz (A.1 j) ≤ nd (A.1 j) ∧ nd (A.1 j) ≤ 4096 := ⟨sz_ndl, nd4 hb.1⟩
  have nj0 := nd_pos (A.1 j)
  unfold f_X5_keepWholeOfRaised
  refine e_ob h.t5 (e_b1 (h.d0 hk) (e_b1 (t_digitCount h.tn (h.nr hk)) (e_b1 (h.d0 hj) (e_b1 (t_digitCount h.tn (h.nr hj)) ?_))))
  rw [nk]
  obtain ⟨M, hM⟩ : ∃ M, 4096 + 2 * sz (A.1 k) - nd (A.1 j) = M := ⟨_, rfl⟩
  refine e_le (x := nI M) (by rw [show (4096 : Int32) = nI 4096 from rfl, show (2 : Int32) = nI 2 from rfl, pk_mul, nI_add, pk_sub (by omega), hM]) ?_
  refine e_b1 (j_minLZ (a := T') (b := M) rfl (by rw [nI_l (by omega), lZ_n]) (by omega) (by omega) (by omega) (by omega)) ?_
  obtain ⟨U, hU⟩ : ∃ U : Nat, min (T' : Int) M = U := ⟨(min (T' : Int) M).toNat, by omega⟩
  rw [hU]
  refine e_le (x := nI U) (by rw [lZ_i]; rfl) ?_
  refine e_b1 (h.d0 hj) (e_b1 (h.d0 hk) ?_)
  have hbz : sz (A.1 j * 10 ^ U) ≤ 16999 := by
    rcases Nat.eq_zero_or_pos (A.1 j) with w | w
    · rw [w, Nat.zero_mul]; decide
    · rw [sz_mul w]; omega
  have dr := t_cdr (j := j) (k := k) (up := U) (u := nI U) h (by omega) (by omega) (by omega) (by omega) (by omega) (by omega) rfl rfl rfl (by omega) (by rw [h.rv hj]; exact hbz) (by rw [h.rv hk]; exact gk)
  rw [h.rv hj, h.rv hk] at dr
  refine cw_bd dr ?_
  rintro r σ1 L1 c1 V1 h1 ⟨rfl, rfl⟩
  have v9 := h1.nv (i := 9) (by decide)
  have v8 := h1.nv (i := 8) (by decide)
  rw [upA_s] at v9
  rw [upA_n (by decide), upA_s] at v8
  refine e_b1 h1.g2 (e_b1 (t_isZero v9) ?_)
  have eT : (-(-(T' : Int))).toNat = T' := by omega
  unfold wTA
  rw [eT]
  by_cases hq0 : A.1 j * 10 ^ U / A.1 k = 0
  · have hsmall : A.1 j * 10 ^ T' < A.1 k := by
      rcases Nat.eq_zero_or_pos (A.1 j) with w | w
      · rw [w, Nat.zero_mul]; exact gk
      · have nj : nd (A.1 j) = sz (A.1 j) := by rw [nd_sz, if_neg (by omega)]
        have sj := sz_pos w
        have hlt : A.1 j * 10 ^ U < A.1 k := by
          rcases Nat.lt_or_ge (A.1 j * 10 ^ U) (A.1 k) with z | z
          · exact z
          · have := Nat.div_pos z gk
            omega
        by_cases hUT : U = T'
        · rw [← hUT]; exact hlt
        · have hUM : U = M := by omega
          have h1 := sz_ge (Nat.mul_pos w (p10_pos U))
          rw [sz_mul w] at h1
          have h2 := sz_lt (A.1 k)
          have h3 : 10 ^ sz (A.1 k) ≤ 10 ^ (sz (A.1 j) + U - 1) := p10_le (by omega)
          omega
    rw [if_pos hq0]
    refine cc_R (if_pos hsmall) (e_f (by decide) ?_)
    refine e_b1 h1.g1 (e_b1 (h1.d0 hj) ?_)
    refine cw_bd (cw_p1 h1 (by decide) (by decide) (t_become h1.dm (h1.nv (by decide)) (h1.nr hj) (fun w => h1.inj (by decide) (by omega) (by omega)) (fun w => absurd w (nA_inj (by decide) (by omega) (by omega))) (Em_ge (by omega)))) ?_
    rintro r σ2 L2 c2 V2 h2 rfl
    refine e_b1 (h2.d1 hk) (e_b1 (h2.d2 hj) ?_)
    have := t_ckw (j := j) (ny := A.2.1 k) (s := -(T' : Int)) (s' := A.2.2 j) (j5 := -lZ T') (j7 := (iZ (A.2.2 j)).toInt64) h2 hi hl hil hj e1 e2 rfl rfl (by rw [lZ_neg]) (iZ_l hb.2.1 hb.2.2.1) (by omega) (by omega) (by omega) (by omega)
    rw [upA_n (by decide), upA_s, upA_s, hq0] at this
    exact cc_rt this isB_wk
  · have hj0 : 0 < A.1 j := Nat.pos_of_ne_zero fun w => hq0 (by rw [w, Nat.zero_mul, Nat.zero_div])
    have nj : nd (A.1 j) = sz (A.1 j) := by rw [nd_sz, if_neg (by omega)]
    have hUU : min T' (4096 + 2 * sz (A.1 k) - sz (A.1 j)) = U := by rw [← nj, hM]; omega
    have hbig : ¬ A.1 j * 10 ^ T' < A.1 k := fun w => hq0 (Nat.div_eq_of_lt (Nat.lt_of_le_of_lt (Nat.mul_le_mul_left _ (p10_le (by omega))) w))
    rw [if_neg hq0, hUU]
    refine cc_R (if_neg hbig) (e_t rfl ?_)
    refine e_le (x := lZ ((T' : Int) - U)) (by rw [nI_l (by omega), lZ_n, lZ_sub]) ?_
    refine e_jn (fun _ => ¬ (A.1 j * 10 ^ U % A.1 k ≠ 0 ∧ U < T')) ?_ ?_
    · intro _ hn
      obtain ⟨ze, q1, q2, q3⟩ := t_endingZeros h1.tn v9
      have he := ez_un q2
      subst he
      refine e_b1 h1.g2 (e_b1 q1 ?_)
      obtain ⟨Z, hZ⟩ : ∃ Z : Int, min (T' : Int) (ez (A.1 j * 10 ^ U / A.1 k) + ((T' : Int) - U)) = Z := ⟨_, rfl⟩
      refine e_b1 (j_minLZ (a := T') (b := ez (A.1 j * 10 ^ U / A.1 k) + ((T' : Int) - U)) rfl (by rw [nI_l (by omega), lZ_n, lZ_add]) (by omega) (by omega) (by omega) (by omega)) ?_
      rw [hZ]
      obtain ⟨dp, hdp⟩ : ∃ dp, min U (ez (A.1 j * 10 ^ U / A.1 k)) = dp := ⟨_, rfl⟩
      have hZd : Z - ((T' : Int) - U) = dp := by omega
      refine e_le (x := nI dp) (by rw [lZ_sub, lZ_i, hZd]; rfl) ?_
      refine e_b1 h1.g2 ?_
      refine cw_bd (cw_p1 h1 (by decide) (by decide) (t_drop (k := dp) h1.tn v9 rfl (by omega))) ?_
      rintro r σ2 L2 c2 V2 h2 rfl
      have v8' := h2.nv (i := 8) (by decide)
      rw [upA_n (by decide), upA_n (by decide), upA_s] at v8'
      refine e_b1 h2.g1 ?_
      refine cw_bd (cw_p1 h2 (by decide) (by decide) (t_drop (k := dp) h2.tn v8' rfl (by omega))) ?_
      rintro r σ3 L3 c3 V3 h3 rfl
      refine e_b1 (h3.d1 hk) (e_b1 (h3.d2 hk) ?_)
      have := t_ckw (j := j) (ny := A.2.1 k) (s := -Z) (s' := A.2.2 k - Z) (j5 := -lZ Z) (j7 := (iZ (A.2.2 k)).toInt64 - lZ Z) h3 hi hl hil hj e1 e2 rfl rfl (by rw [lZ_neg]) (by rw [iZ_l hb2.2.1 hb2.2.2.1, lZ_sub]) (by omega) (by omega) (by omega) (by omega)
      rw [upA_n (by decide), upA_s, upA_s] at this
      rw [hdp]
      refine cc_R ((if_neg hn).trans ?_) (cc_rt this isB_wk)
      congr 1 <;> omega
    · intro k15 hk15
      by_cases hr : A.1 j * 10 ^ U % A.1 k = 0
      · refine e_t ?_ (hk15 () (fun w => w.1 hr))
        rw [decide_eq_false (fun w => w hr)]; rfl
      · refine e_f (by rw [decide_eq_true hr]; decide) ?_
        by_cases hlt : U < T'
        · refine e_f (fun w => by have := (lZ_le (b := 0) (by omega) (by omega) (by omega) (by omega)).mp w; omega) ?_
          exact cc_R (if_pos ⟨hr, hlt⟩) (cc_no h1)
        · exact e_t ((lZ_le (b := 0) (by omega) (by omega) (by omega) (by omega)).mpr (by omega)) (hk15 () (fun w => hlt w.2))
theorem t_cwhole {q r a b : Int32} (h : CI t σ L c V A T W) : Cc t σ L c (f_X5_whole σ t q r a b) (sWhole A q r a b) T W := by
  unfold sWhole f_X5_whole
  refine e_ob h.t5 ?_
  rcases cis_or (σ := σ) q with ⟨i, hi, rfl, e1⟩ | ⟨e1, e2⟩
  · rw [onR_y hi]
    refine e_b1 e1 (e_f (by decide) ?_)
    rcases cis_or (σ := σ) r with ⟨l, hl, rfl, e1⟩ | ⟨e1, e2⟩
    · rw [onR_y hl]
      refine e_b1 e1 (e_f (by decide) ?_)
      rcases cis_or (σ := σ) a with ⟨j, hj, rfl, e1⟩ | ⟨e1, e2⟩
      · rw [onR_y hj]
        refine e_b1 e1 (e_f (by decide) ?_)
        rcases cis_or (σ := σ) b with ⟨k, hk, rfl, e1⟩ | ⟨e1, e2⟩
        · rw [onR_y hk]
          refine e_b1 e1 (e_f (by decide) ?_)
          by_cases hil : i = l
          · exact cc_R (if_neg (fun w => w.1 hil)) (e_t (by rw [hil]) (cc_no h))
          · refine e_f (fun w => hil ((nI_eq (by omega) (by omega)).mp w)) ?_
            have hb := h.ok j hj
            have hb2 := h.ok k hk
            refine e_b1 h.g0 (e_b1 (h.gr hj rfl) (e_b1 h.g0 (e_b1 (h.gr hk rfl) (e_b1 (h.d0 hk) (e_b1 (t_isZero (h.nr hk)) ?_)))))
            by_cases hk0 : A.1 k = 0
            · rw [if_pos hk0]
              exact cc_R (if_neg (by omega)) (e_f (by decide) (cc_no h))
            · rw [if_neg hk0]
              have gk : 0 < A.1 k := by omega
              have sk := sz_pos gk
              have nk : nd (A.1 k) = sz (A.1 k) := by rw [nd_sz, if_neg hk0]
              have nj1 : sz (A.1 j) ≤ nd (A.1 j) ∧ nd (A.1 j) ≤ 4096 := ⟨sz_ndl, nd4 hb.1⟩
              refine cc_R (if_pos ⟨hil, gk⟩) (e_t rfl ?_)
              obtain ⟨z, hz⟩ : ∃ z, A.2.2 j - A.2.2 k = z := ⟨_, rfl⟩
              rw [hz]
              refine e_b1 (h.d2 hj) (e_b1 (h.d2 hk) (e_le (x := lZ z) (by rw [iZ_l hb.2.1 hb.2.2.1, iZ_l hb2.2.1 hb2.2.2.1, lZ_sub, hz]) ?_))
              refine e_b1 (h.d0 hj) (e_b1 (t_digitCount h.tn (h.nr hj)) (e_b1 (h.d0 hk) (e_b1 (t_digitCount h.tn (h.nr hk)) ?_)))
              rw [nk, nI_l (by omega), nI_l (by omega), lZ_n, lZ_n, lZ_sub]
              by_cases hc : (sz (A.1 k) : Int) ≤ nd (A.1 j) - z
              · refine e_t ((lZ_le (by omega) (by omega) (by omega) (by omega)).mpr hc) ?_
                by_cases hz0 : z ≤ 0
                · refine cc_R (if_neg (by omega)) (e_t ((lZ_le (b := 0) (by omega) (by omega) (by omega) (by omega)).mpr hz0) ?_)
                  obtain ⟨T', hT'⟩ : ∃ T' : Nat, z = -(T' : Int) := ⟨(-z).toNat, by omega⟩
                  rw [hT'] at hz ⊢
                  exact cc_rt (t_ckwr h hi hl hil hj hk gk rfl rfl rfl rfl hz (by rw [lZ_neg]; congr 1; omega)) isB_wT
                · refine cc_R (if_pos (by omega)) (e_f (fun w => hz0 ((lZ_le (b := 0) (by omega) (by omega) (by omega) (by omega)).mp w)) ?_)
                  obtain ⟨T', rfl⟩ : ∃ T' : Nat, z = T' := ⟨z.toNat, by omega⟩
                  rw [Int.toNat_natCast]
                  have hszk : sz (A.1 k * 10 ^ T') = sz (A.1 k) + T' := sz_mul gk
                  refine e_le (x := nI T') (by rw [lZ_i]; rfl) ?_
                  refine e_b1 h.g3 (e_b1 (h.d0 hk) ?_)
                  refine cw_bd (cw_p1 h (by decide) (by decide) (t_raise (k := T') h.dm h.tn (h.nv (by decide)) (h.nr hk) (fun w => h.inj (by decide) (by omega) (by omega)) (fun w => absurd w (nA_inj (by decide) (by omega) (by omega))) rfl (by omega) (Em_ge (by omega)))) ?_
                  rintro r σ1 L1 c1 V1 h1 rfl
                  refine e_b1 (h1.d0 hj) (e_b1 h1.g3 ?_)
                  have vj : upA V 10 (A.1 k * 10 ^ T') j = A.1 j := by rw [upA_n (by omega)]; exact h.rv hj
                  have dr := t_cdr (j := j) (k := 10) (up := 0) (u := 0) h1 (by omega) (by omega) (by omega) (by omega) (by omega) (by omega) rfl rfl rfl (by omega) (by rw [vj, Nat.pow_zero, Nat.mul_one]; omega) (by rw [upA_s]; exact Nat.mul_pos gk (p10_pos _))
                  rw [vj, upA_s, Nat.pow_zero, Nat.mul_one] at dr
                  refine cw_bd dr ?_
                  rintro r σ2 L2 c2 V2 h2 ⟨rfl, rfl⟩
                  have v9 := h2.nv (i := 9) (by decide)
                  rw [upA_s] at v9
                  refine e_b1 h2.g2 (e_b1 h2.g2 ?_)
                  have sQ : sz (A.1 j / (A.1 k * 10 ^ T')) ≤ 4096 := sz_le.mpr (Nat.lt_of_le_of_lt (Nat.div_le_self _ _) (sz_le.mp hb.1))
                  have sQT : sz (A.1 j / (A.1 k * 10 ^ T') * 10 ^ T') ≤ 16999 := by
                    rcases Nat.eq_zero_or_pos (A.1 j / (A.1 k * 10 ^ T')) with w | w
                    · rw [w, Nat.zero_mul]; decide
                    · rw [sz_mul w]; omega
                  refine cw_bd (cw_p1 h2 (by decide) (by decide) (t_raise (k := T') h2.dm h2.tn v9 v9 (fun w => absurd rfl w) (fun _ => rfl) rfl (by omega) (Em_ge sQT))) ?_
                  rintro r σ3 L3 c3 V3 h3 rfl
                  refine e_b1 (h3.d1 hk) (e_b1 (h3.d2 hj) ?_)
                  have := t_ckw (j := j) (ny := A.2.1 k) (s := (T' : Int)) (s' := A.2.2 j) (j5 := lZ T') (j7 := (iZ (A.2.2 j)).toInt64) h3 hi hl hil hj rfl rfl rfl rfl rfl (iZ_l hb.2.1 hb.2.2.1) (by omega) (by omega) (by omega) (by omega)
                  rw [upA_s, upA_n (by decide), upA_n (by decide), upA_s] at this
                  exact cc_rt this isB_wk
              · refine e_f (fun w => hc ((lZ_le (by omega) (by omega) (by omega) (by omega)).mp w)) ?_
                refine e_b1 h.g2 ?_
                refine cw_bd (cw_p1 h (by decide) (by decide) (t_clear (h.nv (by decide)))) ?_
                rintro r σ1 L1 c1 V1 h1 rfl
                refine e_b1 h1.g1 (e_b1 (h1.d0 hj) ?_)
                refine cw_bd (cw_p1 h1 (by decide) (by decide) (t_become h1.dm (h1.nv (by decide)) (h1.nr hj) (fun w => h1.inj (by decide) (by omega) (by omega)) (fun w => absurd w (nA_inj (by decide) (by omega) (by omega))) (Em_ge (by omega)))) ?_
                rintro r σ2 L2 c2 V2 h2 rfl
                refine e_b1 (h2.d1 hk) (e_b1 (h2.d2 hj) ?_)
                have := t_ckw (j := j) (ny := A.2.1 k) (s := z) (s' := A.2.2 j) (j5 := lZ z) (j7 := (iZ (A.2.2 j)).toInt64) h2 hi hl hil hj rfl rfl rfl rfl rfl (iZ_l hb.2.1 hb.2.2.1) (by omega) (by omega) (by omega) (by omega)
                rw [upA_n (by decide), upA_s, upA_s] at this
                refine cc_R ?_ (cc_rt this isB_wk)
                have small : ∀ n : Nat, (n : Int) ≤ -z → A.1 j * 10 ^ n < A.1 k := fun n hn => by
                  rcases Nat.eq_zero_or_pos (A.1 j) with w | w
                  · rw [w, Nat.zero_mul]; exact gk
                  · have h1 := sz_lt (A.1 j * 10 ^ n)
                    rw [sz_mul w] at h1
                    have h2 := sz_ge gk
                    have : 10 ^ (sz (A.1 j) + n) ≤ 10 ^ (sz (A.1 k) - 1) := p10_le (by omega)
                    omega
                by_cases hz0 : 0 < z
                · rw [if_pos hz0]
                  have hlt : A.1 j < A.1 k * 10 ^ z.toNat := by
                    have h1 := sz_lt (A.1 j)
                    have h2 := sz_ge (Nat.mul_pos gk (p10_pos z.toNat))
                    rw [sz_mul gk] at h2
                    have : 10 ^ sz (A.1 j) ≤ 10 ^ (sz (A.1 k) + z.toNat - 1) := p10_le (by omega)
                    omega
                  rw [Nat.div_eq_of_lt hlt, Nat.mod_eq_of_lt hlt, Nat.zero_mul]
                · rw [if_neg hz0]
                  unfold wTA
                  rw [if_pos (small (-z).toNat (by omega))]
        · rw [onR_n e2]
          exact e_b1 e1 (e_t rfl (cc_no h))
      · rw [onR_n e2]
        exact e_b1 e1 (e_t rfl (cc_no h))
    · rw [onR_n e2]
      exact e_b1 e1 (e_t rfl (cc_no h))
  · rw [onR_n e2]
    exact e_b1 e1 (e_t rfl (cc_no h))
end C5
