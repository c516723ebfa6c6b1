/-! ===== ratio of the object ===== -/
section C4
variable {t : Nat} {σ : St} {L c V : Nat → Nat} {A : AS} {T W : TS}
theorem isB_ex {d : Int32} {x y : Nat} {n : Bool} {z : Int} : isB (onR d A fun i => sExact i x y n z A).1 = some () := isB_onR fun _ => by
  unfold sExact
  split
  · exact isB_k
  · rfl
theorem t_cexact {d : Int32} {j k : Nat} {z : Int} {a2 a3 : Nat} {j4 : Int64} (h : CI t σ L c V A T W) (hj : j < 8) (hk : k < 8) (e2 : a2 = dA t j) (e3 : a3 = dA t k) (e4 : j4 = lZ z) (z1 : -100000000000 ≤ z) (z2 : z < 100000000000) (gj : 0 < A.1 j) (gk : 0 < A.1 k) : Cc t σ L c (f_X5_keepExactRatio σ t d a2 a3 j4) (onR d A fun i => sExact i (A.1 j) (A.1 k) (xor (A.2.1 j) (A.2.1 k)) z A) T W := by
  subst e2 e3 e4
  have hb := h.ok j hj
  have hb2 := h.ok k hk
  have sj := sz_pos gj
  have sk := sz_pos gk
  have nj : nd (A.1 j) = sz (A.1 j) := by rw [nd_sz, if_neg (by omega)]
  have nk : nd (A.1 k) = sz (A.1 k) := by rw [nd_sz, if_neg (by omega)]
  unfold f_X5_keepExactRatio
  refine e_ob h.t5 (e_b1 (h.d0 hk) (e_b1 (t_digitCount h.tn (h.nr hk)) (e_b1 (h.d0 hj) (e_b1 (t_digitCount h.tn (h.nr hj)) ?_))))
  unfold sExact
  obtain ⟨up, hup⟩ : ∃ up, 4096 + sz (A.1 k) - sz (A.1 j) = up := ⟨_, rfl⟩
  rw [hup]
  refine e_le (x := nI up) (by rw [nj, nk, show (4096 : Int32) = nI 4096 from rfl, nI_add, pk_sub (by omega), hup]) ?_
  refine e_b1 (h.d0 hj) (e_b1 (h.d0 hk) ?_)
  have hszu : sz (A.1 j * 10 ^ up) = sz (A.1 j) + up := sz_mul gj
  have dr := t_cdr (j := j) (k := k) (up := up) (u := nI up) h (by omega) (by omega) (by omega) (by omega) (by omega) (by omega) rfl rfl rfl (by omega) (by rw [h.rv hj]; omega) (by rw [h.rv hk]; exact gk)
  rw [h.rv hj, h.rv hk] at dr
  refine cw_bd dr ?_
  rintro r σ1 L1 c1 V1 h1 ⟨rfl, rfl⟩
  rw [onR_if, onR_0]
  by_cases hz : A.1 j * 10 ^ up % A.1 k = 0
  · refine cc_R (if_pos hz) (e_t (by rw [hz]; rfl) ?_)
    have v9 := h1.nv (i := 9) (by decide)
    rw [upA_s] at v9
    obtain ⟨ze, q1, q2, q3⟩ := t_endingZeros h1.tn v9
    have he := ez_un q2
    subst he
    refine e_b1 h1.g2 (e_b1 q1 (e_b1 (j_min (a := up) rfl rfl (by omega) (by omega)) (e_b1 h1.g2 ?_)))
    obtain ⟨dp, hdp⟩ : ∃ dp, min up (ez (A.1 j * 10 ^ up / A.1 k)) = dp := ⟨_, rfl⟩
    rw [hdp]
    refine cw_bd (cw_p1 h1 (by decide) (by decide) (t_drop (k := dp) h1.tn v9 rfl (by omega))) ?_
    rintro r σ2 L2 c2 V2 h2 rfl
    refine e_b1 h2.g2 (e_b1 (h2.d1 hj) (e_b1 (h2.d1 hk) ?_))
    have fin : ∀ zz, zz = bI (xor (A.2.1 j) (A.2.1 k)) → Cc t σ2 L2 c2 (bd (f_X5_keep σ2 t d (nA t 9) zz ((lZ z + ((nI up : Int32).toInt64)) - ((nI dp : Int32).toInt64))) fun x19 σ20 => (isB x19).bind fun _ => some (x19, σ20, 0, 0)) (onR d A fun i => kpA i (A.1 j * 10 ^ up / A.1 k / 10 ^ dp) (xor (A.2.1 j) (A.2.1 k)) (z + (up : Int) - (dp : Int)) A) T W := by
      intro zz hzz
      subst hzz
      have := t_ckeep (d := d) (m := 9) (n := xor (A.2.1 j) (A.2.1 k)) (z := z + up - dp) (j4 := (lZ z + ((nI up : Int32).toInt64)) - ((nI dp : Int32).toInt64)) h2 (by decide) rfl rfl (by rw [nI_l (by omega), nI_l (by omega), lZ_n, lZ_n, lZ_add, lZ_sub]) (by omega) (by omega)
      rw [upA_s] at this
      exact cc_rt this isB_kD
    refine e_jq ?_
    by_cases hee : A.2.1 j = A.2.1 k
    · refine e_t (by rw [hee]) (fin 0 ?_)
      rw [hee]; cases A.2.1 k <;> rfl
    · refine e_f (fun w => hee (bI_eq.mp w)) (fin 1 ?_)
      revert hee
      cases A.2.1 j <;> cases A.2.1 k <;> simp [bI]
  · refine cc_R (if_neg hz) (e_f ?_ (cc_no h1))
    rw [decide_eq_true hz]; decide
theorem t_cratio {d a b p how : Int32} (h : CI t σ L c V A T W) : Cc t σ L c (f_X5_ratio σ t d a b p how) (sRatio A d a b p how) T W := by
  unfold sRatio
  rw [onR_sw]
  unfold f_X5_ratio
  refine e_ob h.t5 ?_
  rcases cis_or (σ := σ) a with ⟨j, hj, rfl, e1⟩ | ⟨e1, e2⟩
  · rw [onR_y hj, onR_sw]
    refine e_b1 e1 (e_f (by decide) ?_)
    rcases cis_or (σ := σ) b with ⟨k, hk, rfl, e1⟩ | ⟨e1, e2⟩
    · rw [onR_y hk]
      refine e_b1 e1 (e_f (by decide) ?_)
      have hb := h.ok j hj
      have hb2 := h.ok k hk
      rcases cpr (σ := σ) p with ⟨q, hq, rfl, ep, p1, p2⟩ | ⟨ep, np⟩
      · refine e_b1 ep (e_f (by decide) ?_)
        rcases crn (σ := σ) how with ⟨w, hw, rfl, eh, w1, w2⟩ | ⟨eh, nh⟩
        · refine e_b1 eh (e_f (by decide) ?_)
          rw [onR_if, nI_clamp (by omega), nI_clamp (by omega)]
          refine e_b1 h.g0 (e_b1 (h.gr hj rfl) (e_b1 h.g0 (e_b1 (h.gr hk rfl) (e_b1 (h.d0 hk) (e_b1 (t_isZero (h.nr hk)) ?_)))))
          by_cases hk0 : A.1 k = 0
          · rw [if_pos hk0]
            exact cc_R ((if_neg (by omega)).trans onR_0) (e_f (by decide) (cc_no h))
          · rw [if_neg hk0]
            refine cc_R (if_pos ⟨⟨p1, p2⟩, ⟨w1, w2⟩, by omega⟩) ?_
            rw [onR_if]
            have gk : 0 < A.1 k := by omega
            obtain ⟨z, hz⟩ : ∃ z, A.2.2 j - A.2.2 k = z := ⟨_, rfl⟩
            rw [hz]
            refine e_t rfl (e_b1 (h.d2 hj) (e_b1 (h.d2 hk) (e_le (x := lZ z) (by rw [iZ_l hb.2.1 hb.2.2.1, iZ_l hb2.2.1 hb2.2.2.1, lZ_sub, hz]) ?_)))
            refine e_b1 (h.d0 hj) (e_b1 (t_isZero (h.nr hj)) ?_)
            by_cases hj0 : A.1 j = 0
            · rw [if_pos hj0, if_pos hj0]
              refine e_f (by decide) (e_b1 (h.d0 hj) ?_)
              have := t_ckeep (d := d) (m := j) (n := false) (z := z) (i3 := 0) (j4 := lZ z) h (by omega) rfl rfl rfl (by omega) (by omega)
              rw [h.rv hj, hj0] at this
              exact cc_rt this isB_kD
            · rw [if_neg hj0, if_neg hj0, onR_if]
              have gj : 0 < A.1 j := by omega
              refine e_t rfl ?_
              by_cases hq0 : q = 0
              · subst hq0
                refine cc_R (if_pos rfl) (e_t rfl ?_)
                exact cc_rt (t_cexact h hj hk rfl rfl rfl (by omega) (by omega) gj gk) isB_ex
              · have hne : ¬ nI q = 0 := nI_ne0 (by omega) (by omega)
                refine cc_R (if_neg hne) (e_f hne ?_)
                have sj := sz_pos gj
                have sk := sz_pos gk
                have nj : nd (A.1 j) = sz (A.1 j) := by rw [nd_sz, if_neg hj0]
                have nk : nd (A.1 k) = sz (A.1 k) := by rw [nd_sz, if_neg hk0]
                refine e_b1 (h.d0 hk) (e_b1 (t_digitCount h.tn (h.nr hk)) (e_b1 (h.d0 hj) (e_b1 (t_digitCount h.tn (h.nr hj)) ?_)))
                refine e_b1 (j_maxZ (a := 0) (b := (q : Int) + 1 + sz (A.1 k) - sz (A.1 j)) rfl (by rw [nj, nk, iZ_n, iZ_n, iZ_n, show (1 : Int32) = iZ 1 from rfl, iZ_add, iZ_add, iZ_sub]) (by omega) (by omega) (by omega) (by omega)) ?_
                obtain ⟨up, hup⟩ : ∃ up : Nat, max 0 ((q : Int) + 1 + sz (A.1 k) - sz (A.1 j)) = up := ⟨(max 0 ((q : Int) + 1 + sz (A.1 k) - sz (A.1 j))).toNat, by omega⟩
                rw [hup]
                refine e_b1 (h.d0 hj) (e_b1 (h.d0 hk) ?_)
                have hszu : sz (A.1 j * 10 ^ up) = sz (A.1 j) + up := sz_mul gj
                have dr := t_cdr (j := j) (k := k) (up := up) (u := iZ up) h (by omega) (by omega) (by omega) (by omega) (by omega) (by omega) rfl rfl rfl (by omega) (by rw [h.rv hj]; omega) (by rw [h.rv hk]; exact gk)
                rw [h.rv hj, h.rv hk] at dr
                refine cw_bd dr ?_
                rintro r σ1 L1 c1 V1 h1 ⟨rfl, rfl⟩
                obtain ⟨Q, hQ⟩ : ∃ Q, A.1 j * 10 ^ up / A.1 k = Q := ⟨_, rfl⟩
                obtain ⟨mo, hmo⟩ : ∃ mo, decide (A.1 j * 10 ^ up % A.1 k ≠ 0) = mo := ⟨_, rfl⟩
                have qge := sz_quo_ge (N := A.1 j * 10 ^ up) (D := A.1 k) (Nat.mul_pos gj (p10_pos _)) gk (by omega)
                have qle := sz_quo_le (N := A.1 j * 10 ^ up) (D := A.1 k) gk (by omega)
                rw [hQ] at h1 qge qle
                rw [hmo]
                obtain ⟨dp, hdp⟩ : ∃ dp, sz Q - q = dp := ⟨_, rfl⟩
                have heR : eR (A.1 j) (A.1 k) q = (up : Int) - dp := by
                  unfold eR
                  obtain ⟨e0, he0⟩ : ∃ e0, (q : Int) + sz (A.1 k) - sz (A.1 j) = e0 := ⟨_, rfl⟩
                  rw [he0]
                  obtain ⟨k0, hk0'⟩ : ∃ k0 : Nat, (up : Int) - e0 = k0 := ⟨((up : Int) - e0).toNat, by omega⟩
                  obtain ⟨a1, -⟩ := nd_low (x := A.1 j) (y := A.1 k) (e := (up : Int)) (k := k0) gk (by omega)
                  rw [nu_n, de_n, hQ, show (up : Int) - k0 = e0 by omega] at a1
                  rw [← a1, sz_div]
                  by_cases hc : sz Q - k0 ≤ q
                  · rw [if_pos hc]; omega
                  · rw [if_neg hc]; omega
                rw [heR]
                obtain ⟨a1, a2⟩ := nd_low (x := A.1 j) (y := A.1 k) (e := (up : Int)) (k := dp) gk (by omega)
                rw [nu_n, de_n, hQ] at a1
                rw [nu_n, de_n, hQ, hmo] at a2
                rw [← a1, ← a2]
                refine e_b1 (h1.d1 hj) (e_b1 (h1.d1 hk) ?_)
                have fin : ∀ zz, zz = bI (xor (A.2.1 j) (A.2.1 k)) → Cc t σ1 L1 c1 (bd (f_X5_settle σ1 t d zz (lZ z + ((iZ up : Int32).toInt64)) (bI mo) (lZ z) (nI q) (nI w)) fun x28 σ29 => (isB x28).bind fun _ => some (x28, σ29, 0, 0)) (onR d A fun i => fin2 i (Q / 10 ^ dp) (lostc (Q % 10 ^ dp) (10 ^ dp) mo) w (xor (A.2.1 j) (A.2.1 k)) ((up : Int) - dp + z) z q A) T W := by
                  intro zz hzz
                  subst hzz
                  have := t_csettle (d := d) (n := xor (A.2.1 j) (A.2.1 k)) (more := mo) (s := z + up) (z := z) (p := q) (how := w) (j3 := lZ z + ((iZ up : Int32).toInt64)) h1 rfl (by rw [iZ_l (by omega) (by omega), lZ_add]) rfl rfl rfl rfl hw (by omega) (by rw [upA_s]; omega) (by rw [upA_s]; omega) (by omega) (by omega) (by omega) (by omega)
                  rw [upA_s, hdp, show z + (up : Int) - dp = (up : Int) - dp + z by omega] at this
                  exact cc_rt this isB_f2
                refine e_jq ?_
                by_cases hee : A.2.1 j = A.2.1 k
                · refine e_t (by rw [hee]) (fin 0 ?_)
                  rw [hee]; cases A.2.1 k <;> rfl
                · refine e_f (fun w => hee (bI_eq.mp w)) (fin 1 ?_)
                  revert hee
                  cases A.2.1 j <;> cases A.2.1 k <;> simp [bI]
        · rw [onR_if]
          exact cc_R ((if_neg (fun w => nh w.2.1)).trans onR_0) (e_b1 eh (e_t rfl (cc_no h)))
      · rw [onR_if]
        exact cc_R ((if_neg (fun w => np w.1)).trans onR_0) (e_b1 ep (e_t rfl (cc_no h)))
    · rw [onR_n e2]
      exact e_b1 e1 (e_t rfl (cc_no h))
  · rw [onR_n e2]
    exact e_b1 e1 (e_t rfl (cc_no h))
end C4
