/-! ===== root of the reference ===== -/
section MRoot2
variable {σ : St} {o : Nat} {X : Nat → Nat → Int32} {A : AS}
theorem t_mhalf {v : Int} {w : Int64} (hw : w = lZ v) (h1 : -1000000000000 ≤ v) (h2 : v < 1000000000000) : f_X6_half σ w = some (lZ (v / 2)) := by
  subst hw
  unfold f_X6_half
  by_cases h : 0 ≤ v
  · refine q_t ((lZ_le (a := 0) (by omega) (by omega) (by omega) (by omega)).mpr h) ?_
    refine q_b1 (dvZ (b := 2) rfl rfl (by omega) (by omega) (by decide) (by decide)) ?_
    rw [Int.tdiv_eq_ediv_of_nonneg h]
  · refine q_f (fun w => h ((lZ_le (a := 0) (by omega) (by omega) (by omega) (by omega)).mp w)) ?_
    refine q_b1 (dvZ (a := 1 - v) (b := 2) (by rw [show (1 : Int64) = lZ 1 from rfl, lZ_sub]) rfl (by omega) (by omega) (by decide) (by decide)) ?_
    rw [Int.tdiv_eq_ediv_of_nonneg (by omega), lZ_neg]
    congr 2
    omega
theorem rN_sz {m p : Nat} {s : Int} (hm : 0 < m) (hp : 0 < p) : sz (rN m (2 * rS m p s - s)) = 2 * p + 1 + ((((sz m : Int) - 1 - s) % 2).toNat) := by
  have hs := sz_pos hm
  unfold rN rS
  obtain ⟨e, he⟩ : ∃ e, 2 * ((p : Int) - ((sz m : Int) - 1 - s) / 2) - s = e := ⟨_, rfl⟩
  rw [he]
  unfold de
  rw [Nat.one_mul, sz_div, nu_sz hm]
  omega
theorem rQ_sz {m p : Nat} {s : Int} (hm : 0 < m) (hp : 0 < p) : sz (sqt (rN m (2 * rS m p s - s))) = p + 1 := by
  have h := rN_sz (s := s) hm hp
  obtain ⟨N, hN⟩ : ∃ N, rN m (2 * rS m p s - s) = N := ⟨_, rfl⟩
  rw [hN] at h ⊢
  have hN0 : 0 < N := Nat.pos_of_ne_zero fun z => by rw [z, sz_0] at h; omega
  have h1 := sz_lt N
  have h2 := sz_ge hN0
  have q1 := sqt_le N
  have q2 := sqt_lt N
  have e1 : 10 ^ (2 * p) ≤ N := Nat.le_trans (p10_le (by omega)) h2
  have e2 : N < 10 ^ (2 * p + 2) := Nat.lt_of_lt_of_le h1 (p10_le (by omega))
  have e3 : 10 ^ (2 * p) = 10 ^ p * 10 ^ p := by rw [← Nat.pow_add]; congr 1; omega
  have e4 : 10 ^ (2 * p + 2) = 10 ^ (p + 1) * 10 ^ (p + 1) := by rw [← Nat.pow_add]; congr 1; omega
  rw [e3] at e1
  rw [e4] at e2
  refine sz_eq (by omega) ?_ ?_
  · refine Nat.not_le.mp fun w => ?_
    have := Nat.mul_le_mul w w
    omega
  · rw [Nat.add_sub_cancel]
    refine Nat.not_lt.mp fun w => ?_
    have := Nat.mul_le_mul w w
    rw [Nat.succ_eq_add_one] at this
    omega
theorem t_mroot {d a p how : Int32} (h : RG X A) : Mo σ o X (f_X6_root (mst σ o X) o d a p how) (sRoot A d a p how) := by
  unfold f_X6_root sRoot
  refine mo_ob ?_
  refine q_is (P := fun e => Mo σ o X e _) (fun hn => by rw [onR_n hn]; exact Mo.no h rfl) (fun i hi hx => ?_)
  subst hx
  rw [onR_y hi]
  refine q_is (P := fun e => Mo σ o X e _) (fun hn => by rw [onR_n hn]; exact Mo.no h rfl) (fun j hj hx => ?_)
  subst hx
  rw [onR_y hj]
  rcases is_pr (σ := mst σ o X) p with ⟨q, hq, rfl, ep⟩ | ⟨ep, np⟩
  · refine mo_b1 ep (mo_f (by decide) ?_)
    rcases is_rn (σ := mst σ o X) how with ⟨w, hw, rfl, eh⟩ | ⟨eh, nh⟩
    · refine mo_b1 eh (mo_f (by decide) ?_)
      rcases Nat.eq_zero_or_pos q with hq0 | hq0
      · subst hq0
        exact mo_R (if_neg (fun w => absurd w.1.1 (by decide))) (mo_t rfl (Mo.no h rfl))
      · refine mo_f (nI_ne0 hq0 (by omega)) ?_
        refine mo_b1 m_g2 (mo_b1 (ld3 rfl hj) ?_)
        rw [sgn_r h hj]
        obtain ⟨c0, c1, c2, c3⟩ := h.1 j hj
        by_cases hneg : A.2.1 j = true
        · refine mo_R (if_neg (fun w => by rw [hneg] at w; cases w.2.2)) (mo_f ?_ (Mo.no h rfl))
          exact fun w => absurd (sg_lt.mpr ⟨c3 hneg, hneg⟩) (Int32.not_lt.mpr w)
        · have hneg' : A.2.1 j = false := Bool.eq_false_iff.mpr hneg
          refine mo_R (if_pos ⟨⟨(nI_lt (a := 0) hq0 (by omega)), (nI_leI (b := 4096) (by omega) (by decide)).mpr hq⟩, ⟨nI_pos' (by omega), (nI_ltI (b := 8) (by omega) (by decide)).mpr hw⟩, hneg'⟩) ?_
          refine mo_t (Int32.not_lt.mp fun w => hneg (sg_lt.mp w).2) ?_
          rw [nI_clamp (by omega), nI_clamp (by omega)]
          refine mo_b1 m_g3 (mo_b1 (ld4 rfl hj) ?_)
          rw [(h.2 j hj).2.2.2]
          refine mo_b1 (dviZ (b := 2) rfl rfl c1 c2 (by decide) (by decide)) ?_
          have htd : -2147483648 ≤ (A.2.2 j).tdiv 2 ∧ (A.2.2 j).tdiv 2 < 2147483648 := by
            have h1 : ((A.2.2 j).tdiv 2).natAbs ≤ (A.2.2 j).natAbs := by rw [Int.natAbs_tdiv]; exact Nat.div_le_self _ _
            have h2 : (A.2.2 j).tdiv 2 ≠ 2147483648 := fun w => by
              have h3 := Int.natAbs_tdiv (A.2.2 j) 2
              rw [w] at h3
              have h4 : (A.2.2 j).natAbs / 2 = 2147483648 := h3.symm
              omega
            generalize (A.2.2 j).tdiv 2 = z at *
            omega
          obtain ⟨t, ht⟩ : ∃ t, (A.2.2 j).tdiv 2 = t := ⟨_, rfl⟩
          rw [ht] at htd ⊢
          obtain ⟨X1, a1, a2, a3, a4⟩ := t_mload (σ := σ) (o := o) (r := 0) (u := 0) (by decide) hj rfl rfl h
          have h1 := h.ot a3
          refine mo_bd a1 ?_
          have pre : ldI (mst σ o X1) (o + 6) 0 = some (nI (sz (A.1 j))) := (ld6 (i := 0) rfl (by decide)).trans (by rw [a2.2.1])
          refine mo_b1 m_g5 (mo_b1 pre ?_)
          have elt : (iZ t : Int32).toInt64 = lZ t := iZ_l (by omega) (by omega)
          rcases Nat.eq_zero_or_pos (A.1 j) with g0 | g0
          · refine mo_R (if_pos g0) (mo_t (by rw [g0]; rfl) ?_)
            exact Mo.st (r := 0) (m := 0) (by decide) hi rfl rfl h1 a3.kt (by rw [g0] at a2; exact a2) (fun w => by omega) elt (by omega) (by omega)
          · refine mo_R (if_neg (by omega)) (mo_f (nI_ne0 (sz_pos g0) (by omega)) ?_)
            have sj := sz_pos g0
            refine mo_b1 m_g1 (mo_b1 (ld2 rfl hj) (mo_b1 m_g3 (mo_b1 (ld4 rfl hj) ?_)))
            refine mo_b1 (t_mhalf (v := (sz (A.1 j) : Int) - 1 - A.2.2 j) (by rw [(h1.2 j hj).1, scl_r h1 hj, nI_l (by omega), lZ_n, show (1 : Int64) = lZ 1 from rfl, lZ_sub, lZ_sub]) (by omega) (by omega)) ?_
            obtain ⟨S, hS⟩ : ∃ S, rS (A.1 j) q (A.2.2 j) = S := ⟨_, rfl⟩
            have nsz := rN_sz (p := q) (s := A.2.2 j) g0 hq0
            have qsz := rQ_sz (p := q) (s := A.2.2 j) g0 hq0
            rw [hS] at nsz qsz ⊢
            unfold rS at hS
            refine mo_le (y := lZ S) (by rw [nI_l (by omega), lZ_n, lZ_sub, hS]) ?_
            obtain ⟨e, he⟩ : ∃ e, 2 * S - A.2.2 j = e := ⟨_, rfl⟩
            refine mo_b1 m_g3 (mo_b1 (ld4 rfl hj) (mo_le (y := lZ e) (by rw [scl_r h1 hj, show (2 : Int64) = lZ 2 from rfl, lZ_mul, lZ_sub, he]) (mo_jn ?_)))
            rw [he] at nsz qsz ⊢
            have fin : ∀ X2 (mb : Bool) (z : Int32), Kt X X2 → RG X2 A → Rw X2 0 (rN (A.1 j) e) → mb = decide (nu (A.1 j) e % de 1 e ≠ 0) → z = bI mb → Mo σ o X (bd (f_X6_extract (mst σ o X2) o) fun _ σ23 =>
        jn (fun (z24 : Int32) => (
          (gR σ23 6 o 4).bind fun r25 =>
          (ldI σ23 r25 34000).bind fun x26 =>
          bd (f_X6_lower σ23 o 2 1) fun _ σ27 =>
          jn (fun (z28 : Int32) => (
            (pF σ27 6 o 6 (.int z28)).bind fun σ29 =>
            lt (lZ S - 1) fun l30 =>
            (gI σ29 6 o 6).bind fun x31 =>
            if x31 ≤ 0 then (
              bd (f_X6_settle σ29 o (nI i) 1 l30 ((iZ t : Int32).toInt64) (nI q)) fun x32 σ33 =>
              (isB x32).bind fun _ => some (x32, σ33, 0, 0)
              ) else
            bd (f_X6_finishTo σ29 o (nI i) 2 1 l30 (nI w) (nI q)) fun x34 σ35 =>
            (isB x34).bind fun _ => some (x34, σ35, 0, 0)
            )) fun k28 =>
          jn (fun (z36 : Unit) => (
            k28 3
            )) fun k36 =>
          if 5 < x26 then (
            k36 ()
            ) else
          jn (fun (z37 : Unit) => (
            if x26 = 5 then (
              k28 2
              ) else
            jn (fun (z38 : Unit) => (
              k28 1
              )) fun k38 =>
            if 0 < x26 then (
              k38 ()
              ) else
            if z24 = 0 then (
              k28 0
              ) else
            k38 ()
            )) fun k37 =>
          if x26 = 5 then (
            if z24 = 0 then (
              k37 ()
              ) else
            k36 ()
            ) else
          k37 ()
          )) fun k24 =>
        jn (fun (z39 : Unit) => (
          k24 1
          )) fun k39 =>
        if z = 0 then (
          (gR σ23 6 o 5).bind fun r40 =>
          (ldI σ23 r40 3).bind fun x41 =>
          if x41 ≤ 0 then (
            k24 0
            ) else
          k39 ()
          ) else
                                            k39 ()) (fin2 i (sqt (rN (A.1 j) e) / 10) (lostc (sqt (rN (A.1 j) e) % 10) 10 (rM (A.1 j) e)) w false (S - 1) t q A) := by
              intro X2 mb z kt2 h2 r0 hmb hz
              obtain ⟨X3, b1, b2, b3, b4⟩ := t_mextract (σ := σ) (o := o) (by omega) r0
              refine mo_bd b1 (mo_jn (mo_jn ?_))
              have h3 := h2.ot b4
              have kt3 := kt2.trans b4.kt
              unfold rM
              rw [← hmb]
              obtain ⟨Q, hQ⟩ : ∃ Q, sqt (rN (A.1 j) e) = Q := ⟨_, rfl⟩
              rw [hQ] at b2 b3 qsz ⊢
              have hQ0 : 0 < Q := Nat.pos_of_ne_zero fun z => by rw [z, sz_0] at qsz; omega
              obtain ⟨X4, d1, d2, d3, d4⟩ := t_mlower (σ := σ) (o := o) (r := 2) (y := 2) (b := 1) (z := 1) (by decide) b2 rfl rfl (by decide) (by decide)
              rw [show (1 : Int).toNat = 1 from rfl, Nat.pow_one] at d2
              have h26 : X3 5 34000 = nI (Q % 10) := by
                have := b2.2.2 0 (sz_pos hQ0)
                unfold dg at this
                rw [Nat.pow_zero, Nat.div_one] at this
                exact this
              have go : ∀ (z24 : Int32) (more : Bool), z24 = bI more → more = (mb || decide (rN (A.1 j) e - Q * Q ≠ 0)) → Mo σ o X ((gR (mst σ o X3) 6 o 4).bind fun r25 =>
          (ldI (mst σ o X3) r25 34000).bind fun x26 =>
          bd (f_X6_lower (mst σ o X3) o 2 1) fun _ σ27 =>
          jn (fun (z28 : Int32) => (
            (pF σ27 6 o 6 (.int z28)).bind fun σ29 =>
            lt (lZ S - 1) fun l30 =>
            (gI σ29 6 o 6).bind fun x31 =>
            if x31 ≤ 0 then (
              bd (f_X6_settle σ29 o (nI i) 1 l30 ((iZ t : Int32).toInt64) (nI q)) fun x32 σ33 =>
              (isB x32).bind fun _ => some (x32, σ33, 0, 0)
              ) else
            bd (f_X6_finishTo σ29 o (nI i) 2 1 l30 (nI w) (nI q)) fun x34 σ35 =>
            (isB x34).bind fun _ => some (x34, σ35, 0, 0)
            )) fun k28 =>
          jn (fun (z36 : Unit) => (
            k28 3
            )) fun k36 =>
          if 5 < x26 then (
            k36 ()
            ) else
          jn (fun (z37 : Unit) => (
            if x26 = 5 then (
              k28 2
              ) else
            jn (fun (z38 : Unit) => (
              k28 1
              )) fun k38 =>
            if 0 < x26 then (
              k38 ()
              ) else
            if z24 = 0 then (
              k28 0
              ) else
            k38 ()
            )) fun k37 =>
          if x26 = 5 then (
            if z24 = 0 then (
              k37 ()
              ) else
            k36 ()
            ) else
                                            k37 ()) (fin2 i (Q / 10) (lostc (Q % 10) 10 (mb || decide (rN (A.1 j) e - Q * Q ≠ 0))) w false (S - 1) t q A) := by
                intro z24 more hz24 hmore
                refine mo_b1 m_g4 (mo_b1 (ld5 (i := 34000) rfl (by decide)) ?_)
                rw [h26]
                refine mo_bd d1 ?_
                rw [lt_tree (Nat.mod_lt _ (by decide)) rfl hz24, ← hmore]
                refine mo_b1 m_p6 ?_
                obtain ⟨lost, hlost⟩ : ∃ lost, lostc (Q % 10) 10 more = lost := ⟨_, rfl⟩
                have hl4 := lost_lt (Q % 10) 10 more
                rw [hlost] at hl4 ⊢
                have O5 : Ot (fun _ => False) X4 (ups X4 0 (upd (X4 0) 0 (nI lost))) := Ot.m0
                obtain ⟨X5, hX5⟩ : ∃ X5, ups X4 0 (upd (X4 0) 0 (nI lost)) = X5 := ⟨_, rfl⟩
                rw [hX5] at O5 ⊢
                have hl : X5 0 0 = nI lost := by rw [← hX5, ups_s, pk_us]
                have h5 := (h3.ot d3).ot O5
                have kt5 := (kt3.trans d3.kt).trans O5.kt
                have r52 := d2.ot O5 (by decide) id
                have e10 : sz (Q / 10) = sz Q - 1 := sz_div (c := 1)
                have hm0 : 0 < Q / 10 := Nat.pos_of_ne_zero fun z => by rw [z, sz_0] at e10; omega
                have es : lZ S - 1 = lZ (S - 1) := by rw [show (1 : Int64) = lZ 1 from rfl, lZ_sub]
                refine mo_le es ?_
                refine mo_b1 m_i6 ?_
                rw [hl]
                unfold fin2
                by_cases hl0 : lost = 0
                · refine mo_R (if_pos hl0) (mo_t (by rw [hl0]; decide) ?_)
                  obtain ⟨X7, k1, k2, k3⟩ := t_msettle (σ := σ) (o := o) (n := false) (s := S - 1) (t := t) (p := q) (z := 1) (y := lZ (S - 1)) (w := (iZ t : Int32).toInt64) hi rfl h5 r52 hm0 (by omega) hq rfl rfl rfl elt (by omega) (by omega) (by omega) (by omega)
                  exact mo_rt kt5 ⟨X7, k1, k2, k3⟩ isB_stA
                · refine mo_R (if_neg hl0) (mo_f (nI_nle (by omega) (by omega)) ?_)
                  obtain ⟨X7, k1, k2, k3⟩ := t_mfinishTo (σ := σ) (o := o) (r := 2) (v := 2) (n := false) (s := S - 1) (p := q) (z := 1) (y := lZ (S - 1)) (by decide) hi rfl rfl h5 r52 (by omega) hq rfl hl hl4 hw (fun _ => rfl) rfl rfl (by omega) (by omega)
                  exact mo_rt kt5 ⟨X7, k1, k2, k3⟩ isB_fnT
              subst hz
              cases mb with
              | false =>
                refine mo_t rfl ?_
                have pre3 : ldI (mst σ o X3) (o + 6) 3 = some (nI (sz (rN (A.1 j) e - Q * Q))) := (ld6 (i := 3) rfl (by decide)).trans (by rw [b3.2.1])
                have s3 := b3.1
                refine mo_b1 m_g5 (mo_b1 pre3 ?_)
                by_cases hr : rN (A.1 j) e - Q * Q = 0
                · exact mo_t (by rw [hr]; decide) (go 0 false rfl (by rw [hr]; rfl))
                · refine mo_f (nI_nle (sz_pos (by omega)) (by omega)) (go 1 true rfl ?_)
                  rw [decide_eq_true hr]; rfl
              | true => exact mo_f (by decide) (go 1 true rfl rfl)
            by_cases he0 : e < 0
            · refine mo_t ((lZ_lt (b := 0) (by omega) (by omega) (by omega) (by omega)).mpr he0) ?_
              obtain ⟨X2, b1, b2, b3, b4⟩ := t_mlower (σ := σ) (o := o) (r := 0) (y := 0) (b := -e) (z := -lZ e) (by decide) a2 rfl (by rw [lZ_neg]) (by omega) (by omega)
              refine mo_bd b1 (mo_b1 m_i6 (mo_jn ?_))
              have e1 : nu (A.1 j) e = A.1 j := by unfold nu; rw [show e.toNat = 0 by omega, Nat.pow_zero, Nat.mul_one]
              have e2 : de 1 e = 10 ^ (-e).toNat := by unfold de; rw [Nat.one_mul]
              have r20 : Rw X2 0 (rN (A.1 j) e) := by unfold rN; rw [e1, e2]; exact b2
              rw [b4]
              by_cases hl : A.1 j % 10 ^ (-e).toNat = 0
              · refine mo_t (by rw [hl, lost_0 (p10_pos _)]; decide) ?_
                exact fin X2 false 0 (a3.kt.trans b3.kt) (h1.ot b3) r20 (by rw [e1, e2, hl]; rfl) rfl
              · have hlost : lostc (A.1 j % 10 ^ (-e).toNat) (10 ^ (-e).toNat) false ≠ 0 := fun z => hl ((lost_z (p10_pos _)).mp z).1
                have hl4 := lost_lt (A.1 j % 10 ^ (-e).toNat) (10 ^ (-e).toNat) false
                refine mo_f (nI_nle (by omega) (by omega)) ?_
                exact fin X2 true 1 (a3.kt.trans b3.kt) (h1.ot b3) r20 (by rw [e1, e2, decide_eq_true hl]) rfl
            · refine mo_f (fun w => he0 ((lZ_lt (b := 0) (by omega) (by omega) (by omega) (by omega)).mp w)) ?_
              obtain ⟨X2, b1, b2, b3, b4⟩ := t_mraise (σ := σ) (o := o) (r := 0) (y := 0) (k := e.toNat) (z := (lZ e : Int64).toInt32) (by decide) a2 rfl (by rw [lZ_i, iZ_nat (by omega)]) (by omega)
              refine mo_bd b1 ?_
              have e2 : de 1 e = 1 := by unfold de; rw [show (-e).toNat = 0 by omega, Nat.pow_zero]
              refine fin X2 false 0 (a3.kt.trans b3.kt) (h1.ot b3) (by unfold rN; rw [e2, Nat.div_one]; exact b2) (by rw [e2, Nat.mod_one]; rfl) rfl
    · refine mo_b1 eh (mo_t rfl ?_)
      exact mo_R (if_neg (fun w => nh w.2.1)) (Mo.no h rfl)
  · refine mo_b1 ep (mo_t rfl ?_)
    exact mo_R (if_neg (fun w => np ⟨Int32.le_of_lt w.1.1, w.1.2⟩)) (Mo.no h rfl)
end MRoot2
