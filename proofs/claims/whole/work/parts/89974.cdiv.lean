/-! ===== rescale, round, divide, ratio of the object ===== -/
section C3
variable {t : Nat} {σ : St} {L c V : Nat → Nat} {A : AS} {T W : TS}
theorem cc_ok {e : Rs Int32} {R : Int32 × AS} (h : Cc t σ L c e R T W) (hb : isB R.1 = some ()) : Cc t σ L c (bd e fun x33 σ34 => if x33 = 0 then ((isB 0).bind fun _ => some (0, σ34, 0, 0)) else (isB 1).bind fun _ => some (1, σ34, 0, 0)) R T W := by
  refine cc_bd h (fun σ1 L1 c1 V1 h1 => ?_)
  unfold isB at hb
  by_cases h0 : R.1 = 0
  · refine e_t h0 ?_
    exact e_ret ⟨h0.symm, L1, c1, V1, h1, Rl.rf⟩
  · refine e_f h0 ?_
    have : R.1 = 1 := by
      by_cases h1 : R.1 = 1
      · exact h1
      · rw [if_neg (fun w => w.elim h0 h1)] at hb; cases hb
    exact e_ret ⟨this.symm, L1, c1, V1, h1, Rl.rf⟩
theorem crn (x : Int32) : (∃ i, i < 8 ∧ x = nI i ∧ f_X5_isRounding σ x = some 1 ∧ 0 ≤ x ∧ x < 8) ∨ (f_X5_isRounding σ x = some 0 ∧ ¬ (0 ≤ x ∧ x < 8)) := by
  unfold f_X5_isRounding
  by_cases h1 : x < 0
  · exact Or.inr ⟨q_t h1 rfl, fun w => Int32.not_lt.mpr w.1 h1⟩
  · obtain ⟨j, hj, rfl⟩ := nI_of h1
    by_cases h2 : j < 8
    · exact Or.inl ⟨j, h2, rfl, q_f h1 (q_f (nI_nlt (a := 7) (by omega) (by decide)) rfl), nI_pos' (by omega), (nI_ltI (b := 8) (by omega) (by decide)).mpr h2⟩
    · exact Or.inr ⟨q_f h1 (q_t (nI_lt (a := 7) (by omega) hj) rfl), fun w => h2 ((nI_ltI (b := 8) hj (by decide)).mp w.2)⟩
theorem cpr (x : Int32) : (∃ i, i ≤ 4096 ∧ x = nI i ∧ f_X5_isPrecision σ x = some 1 ∧ 0 ≤ x ∧ x ≤ 4096) ∨ (f_X5_isPrecision σ x = some 0 ∧ ¬ (0 ≤ x ∧ x ≤ 4096)) := by
  rcases is_pr (σ := σ) x with ⟨i, h1, h2, h3⟩ | ⟨h1, h2⟩
  · refine Or.inl ⟨i, h1, h2, h3, ?_, ?_⟩
    · rw [h2]; exact nI_pos' (by omega)
    · rw [h2]; exact (nI_leI (b := 4096) (by omega) (by decide)).mpr h1
  · exact Or.inr ⟨h1, h2⟩
theorem t_cround {d a p how : Int32} (h : CI t σ L c V A T W) : Cc t σ L c (f_X5_round σ t d a p how) (sRound A d a p how) T W := by
  unfold sRound
  rw [onR_sw]
  unfold f_X5_round
  refine e_ob h.t5 ?_
  rcases cis_or (σ := σ) a with ⟨j, hj, rfl, e1⟩ | ⟨e1, e2⟩
  · rw [onR_y hj]
    refine e_b1 e1 (e_f (by decide) ?_)
    have hb := h.ok j hj
    rcases cpr (σ := σ) p with ⟨q, hq, rfl, ep, p1, p2⟩ | ⟨ep, np⟩
    · refine e_b1 ep (e_f (by decide) ?_)
      rcases crn (σ := σ) how with ⟨w, hw, rfl, eh, w1, w2⟩ | ⟨eh, nh⟩
      · refine e_b1 eh (e_f (by decide) ?_)
        rw [onR_if, if_pos ⟨p1, p2, w1, w2⟩, nI_clamp (by omega), nI_clamp (by omega), onR_if]
        refine e_b1 h.g0 (e_b1 (h.gr hj rfl) ?_)
        refine e_jn (fun _ => nI q = 0 ∨ sz (A.1 j) ≤ q) ?_ ?_
        · intro _ hk
          rw [if_pos hk]
          refine e_b1 (h.d0 hj) (e_b1 (h.d1 hj) (e_b1 (h.d2 hj) ?_))
          have := t_ckeep (d := d) (m := j) (n := A.2.1 j) (z := A.2.2 j) h (by omega) rfl rfl (iZ_l hb.2.1 hb.2.2.1) (by omega) (by omega)
          rw [h.rv hj] at this
          exact cc_rt this isB_kD
        · intro k6 hk6
          by_cases hq0 : q = 0
          · exact e_t (by rw [hq0]; rfl) (hk6 () (Or.inl (by rw [hq0]; rfl)))
          · have hne : ¬ nI q = 0 := nI_ne0 (by omega) (by omega)
            refine e_f hne ?_
            refine e_b1 (h.d0 hj) (e_b1 (t_digitCount h.tn (h.nr hj)) ?_)
            by_cases hs : sz (A.1 j) ≤ q
            · have hn : nd (A.1 j) ≤ q := by rw [nd_sz]; split <;> omega
              exact e_f (nI_nlt hn (by omega)) (hk6 () (Or.inr hs))
            · have hm0 : 0 < A.1 j := Nat.pos_of_ne_zero fun w => by rw [w, sz_0] at hs; omega
              have hn : nd (A.1 j) = sz (A.1 j) := by rw [nd_sz, if_neg (by omega)]
              rw [hn]
              refine cc_R (if_neg (fun w => w.elim hne hs)) ?_
              refine e_t (nI_lt (by omega) (by omega)) ?_
              refine e_b1 h.g2 (e_b1 (h.d0 hj) ?_)
              refine cw_bd (cw_p1 h (by decide) (by decide) (t_become h.dm (h.nv (by decide)) (h.nr hj) (fun w => h.inj (by decide) (by omega) (by omega)) (fun w => absurd w (nA_inj (by decide) (by omega) (by omega))) (Em_ge (by omega)))) ?_
              rintro r σ1 L1 c1 V1 h1 rfl
              refine e_b1 (h1.d1 hj) (e_b1 (h1.d2 hj) ?_)
              have := t_ckr (d := d) (n := A.2.1 j) (more := false) (s := A.2.2 j) (p := q) (how := w) (i5 := 0) h1 rfl (iZ_l hb.2.1 hb.2.2.1) rfl rfl rfl hw (by omega) (by rw [upA_s]; omega) (by rw [upA_s]; omega) (by omega) (by omega)
              rw [upA_s] at this
              exact cc_rt this isB_fT
      · rw [onR_if, if_neg (fun w => nh w.2.2), onR_0]
        exact e_b1 eh (e_t rfl (cc_no h))
    · rw [onR_if, if_neg (fun w => np ⟨w.1, w.2.1⟩), onR_0]
      exact e_b1 ep (e_t rfl (cc_no h))
  · rw [onR_n e2]
    exact e_b1 e1 (e_t rfl (cc_no h))
theorem cut_all {x k : Nat} {m : Bool} (hx : sz x ≤ 4096) (hk : 4098 ≤ k) : x / 10 ^ k = 0 ∧ lostc (x % 10 ^ k) (10 ^ k) m = if x = 0 ∧ m = false then 0 else 1 := by
  have h1 := sz_le.mp hx
  have h2 : 10 ^ 4098 ≤ 10 ^ k := p10_le hk
  have h3 : (10 : Nat) ^ 4098 = 100 * 10 ^ 4096 := by rw [show 4098 = 4096 + 2 from rfl, Nat.pow_add, Nat.mul_comm]
  rw [h3] at h2
  generalize 10 ^ 4096 = B at *
  generalize 10 ^ k = D at *
  refine ⟨Nat.div_eq_of_lt (by omega), ?_⟩
  rw [Nat.mod_eq_of_lt (by omega)]
  unfold lostc
  rw [if_pos (by omega)]
theorem t_crescale {d a s how : Int32} (h : CI t σ L c V A T W) : Cc t σ L c (f_X5_rescale σ t d a s how) (sRescale A d a s how) T W := by
  have l1 := iZ_lo s
  have l2 := iZ_hi s
  unfold sRescale
  rw [onR_sw]
  unfold f_X5_rescale
  refine e_ob h.t5 ?_
  rcases cis_or (σ := σ) a with ⟨j, hj, rfl, e1⟩ | ⟨e1, e2⟩
  · rw [onR_y hj]
    refine e_b1 e1 (e_f (by decide) ?_)
    have hb := h.ok j hj
    rcases crn (σ := σ) how with ⟨w, hw, rfl, eh, w1, w2⟩ | ⟨eh, nh⟩
    · refine e_b1 eh (e_f (by decide) ?_)
      rw [onR_if, if_pos ⟨w1, w2⟩, nI_clamp (by omega), onR_if]
      refine e_b1 h.g0 (e_b1 (h.gr hj rfl) (e_b1 (h.d2 hj) ?_))
      refine e_le (x := lZ (s.toInt - A.2.2 j)) (by rw [iZ_l hb.2.1 hb.2.2.1, iZ_lx, lZ_sub]) ?_
      refine e_b1 (h.d0 hj) (e_b1 (t_isZero (h.nr hj)) ?_)
      obtain ⟨up, hup⟩ : ∃ up, s.toInt - A.2.2 j = up := ⟨_, rfl⟩
      rw [hup]
      by_cases hz : A.1 j = 0
      · rw [if_pos hz]
        refine e_f (by decide) (e_b1 (h.d0 hj) ?_)
        have := t_ckeep (d := d) (m := j) (n := false) (z := s.toInt) (i3 := 0) h (by omega) rfl rfl (iZ_lx s) (by omega) (by omega)
        rw [h.rv hj, hz] at this
        refine cc_R (R := kD d 0 false s.toInt A) ?_ (cc_rt this isB_kD)
        rw [hz]
        by_cases hle : A.2.2 j ≤ s.toInt
        · rw [if_pos hle]
          refine kD_cg (Nat.zero_mul _) (fun w => ?_) rfl
          rw [Nat.zero_mul] at w; omega
        · rw [if_neg hle, onR_fnA]
          rw [Nat.zero_div, Nat.zero_mod, lost_0 (p10_pos _), if_neg (fun w => w.1 rfl)]
          refine kD_cg ?_ (fun w => ?_) rfl
          · unfold rn gu; simp
          · unfold rn gu at w; simp at w
      · rw [if_neg hz]
        have hm0 : 0 < A.1 j := by omega
        have hn : nd (A.1 j) = sz (A.1 j) := by rw [nd_sz, if_neg hz]
        refine e_t rfl ?_
        by_cases hlt : up < 0
        · refine e_t ((lZ_lt (b := 0) (by omega) (by omega) (by omega) (by omega)).mpr hlt) ?_
          rw [if_neg (by omega), onR_fnA]
          refine e_b1 h.g2 (e_b1 (h.d0 hj) ?_)
          refine cw_bd (cw_p1 h (by decide) (by decide) (t_become h.dm (h.nv (by decide)) (h.nr hj) (fun w => h.inj (by decide) (by omega) (by omega)) (fun w => absurd w (nA_inj (by decide) (by omega) (by omega))) (Em_ge (by omega)))) ?_
          rintro r σ1 L1 c1 V1 h1 rfl
          refine e_b1 (j_minLZ (a := -up) (b := 4098) (by rw [lZ_neg]) rfl (by omega) (by omega) (by decide) (by decide)) ?_
          obtain ⟨k, hk⟩ : ∃ k : Nat, min (-up) 4098 = k := ⟨(min (-up) 4098).toNat, by omega⟩
          rw [hk]
          refine e_le (x := nI k) (by rw [lZ_i]; rfl) ?_
          refine e_b1 (h1.d1 hj) ?_
          have same : A.1 j / 10 ^ k = A.1 j / 10 ^ (A.2.2 j - s.toInt).toNat ∧ lostc (A.1 j % 10 ^ k) (10 ^ k) false = lostc (A.1 j % 10 ^ (A.2.2 j - s.toInt).toNat) (10 ^ (A.2.2 j - s.toInt).toNat) false := by
            by_cases hk2 : k < 4098
            · have : (A.2.2 j - s.toInt).toNat = k := by omega
              rw [this]; exact ⟨rfl, rfl⟩
            · obtain ⟨a1, a2⟩ := cut_all (m := false) hb.1 (k := k) (by omega)
              obtain ⟨b1, b2⟩ := cut_all (m := false) hb.1 (k := (A.2.2 j - s.toInt).toNat) (by omega)
              rw [a1, a2, b1, b2]; exact ⟨rfl, rfl⟩
          rw [← same.1, ← same.2]
          have cut := t_ccut (k := k) (how := w) (more := false) (n := A.2.1 j) (i2 := 0) h1 rfl rfl rfl rfl (by omega) hw (by rw [upA_s]; omega)
          rw [upA_s] at cut
          refine cw_bd cut ?_
          intro r σ2 L2 c2 V2 h2 hr
          by_cases hc : lostc (A.1 j % 10 ^ k) (10 ^ k) false ≠ 0 ∧ w = 7
          · rw [if_pos hc] at hr ⊢
            subst hr
            exact e_t rfl (cc_no h2)
          · rw [if_neg hc] at hr ⊢
            obtain ⟨rfl, rfl⟩ := hr
            refine e_f (by decide) ?_
            refine e_b1 h2.g2 (e_b1 (h2.d1 hj) ?_)
            have := t_ckeep (d := d) (m := 9) (n := A.2.1 j) (z := s.toInt) h2 (by decide) rfl rfl (iZ_lx s) (by omega) (by omega)
            rw [upA_s] at this
            exact cc_ok this isB_kD
        · refine e_f (fun z => hlt ((lZ_lt (b := 0) (by omega) (by omega) (by omega) (by omega)).mp z)) ?_
          rw [if_pos (by omega)]
          refine e_b1 (h.d0 hj) (e_b1 (t_digitCount h.tn (h.nr hj)) ?_)
          rw [hn, nI_l (by omega), lZ_n, lZ_add]
          have hsz : sz (A.1 j * 10 ^ up.toNat) = sz (A.1 j) + up.toNat := sz_mul hm0
          by_cases hle : (sz (A.1 j) : Int) + up ≤ 4096
          · refine e_t ((lZ_le (b := 4096) (by omega) (by omega) (by omega) (by omega)).mpr hle) ?_
            refine e_b1 h.g1 (e_b1 (h.d0 hj) ?_)
            refine cw_bd (cw_p1 h (by decide) (by decide) (t_raise (k := up.toNat) h.dm h.tn (h.nv (by decide)) (h.nr hj) (fun w => h.inj (by decide) (by omega) (by omega)) (fun w => absurd w (nA_inj (by decide) (by omega) (by omega))) (by rw [lZ_i, iZ_nat (by omega)]) (by omega) (Em_ge (by omega)))) ?_
            rintro r σ1 L1 c1 V1 h1 rfl
            refine e_b1 h1.g1 (e_b1 (h1.d1 hj) ?_)
            have := t_ckeep (d := d) (m := 8) (n := A.2.1 j) (z := s.toInt) h1 (by decide) rfl rfl (iZ_lx s) (by omega) (by omega)
            rw [upA_s] at this
            exact cc_rt this isB_kD
          · refine e_f (fun z => hle ((lZ_le (b := 4096) (by omega) (by omega) (by omega) (by omega)).mp z)) ?_
            refine cc_R (R := (0, A)) ?_ (cc_no h)
            have : ∀ i, kpA i (A.1 j * 10 ^ up.toNat) (A.2.1 j) s.toInt A = (0, A) := fun i => kp_big (by omega)
            simp only [this]
            exact onR_0
    · rw [onR_if, if_neg nh, onR_0]
      exact e_b1 eh (e_t rfl (cc_no h))
  · rw [onR_n e2]
    exact e_b1 e1 (e_t rfl (cc_no h))
theorem nu_n {x : Nat} {u : Nat} : nu x (u : Int) = x * 10 ^ u := by unfold nu; rw [Int.toNat_natCast]
theorem de_n {x : Nat} {u : Nat} : de x (u : Int) = x := by unfold de; rw [show (-(u : Int)).toNat = 0 by omega, Nat.pow_zero, Nat.mul_one]
theorem xor_i {n m : Bool} {P : Int32 → Prop} (h : P (bI (xor n m))) : P (if bI n = bI m then 0 else 1) := by
  revert h
  cases n <;> cases m <;> exact id
theorem t_cdivide {d a b s how : Int32} (h : CI t σ L c V A T W) : Cc t σ L c (f_X5_divide σ t d a b s how) (sDivide A d a b s how) T W := by
  have l1 := iZ_lo s
  have l2 := iZ_hi s
  unfold sDivide
  rw [onR_sw]
  unfold f_X5_divide
  refine e_ob h.t5 ?_
  rcases cis_or (σ := σ) a with ⟨j, hj, rfl, e1⟩ | ⟨e1, e2⟩
  · rw [onR_y hj, onR_sw]
    refine e_b1 e1 (e_f (by decide) ?_)
    rcases cis_or (σ := σ) b with ⟨k, hk, rfl, e1⟩ | ⟨e1, e2⟩
    · rw [onR_y hk]
      refine e_b1 e1 (e_f (by decide) ?_)
      have hb := h.ok j hj
      have hb2 := h.ok k hk
      rcases crn (σ := σ) how with ⟨w, hw, rfl, eh, w1, w2⟩ | ⟨eh, nh⟩
      · refine e_b1 eh (e_f (by decide) ?_)
        rw [onR_if, nI_clamp (by omega)]
        refine e_b1 h.g0 (e_b1 (h.gr hj rfl) (e_b1 h.g0 (e_b1 (h.gr hk rfl) (e_b1 (h.d0 hk) (e_b1 (t_isZero (h.nr hk)) ?_)))))
        by_cases hk0 : A.1 k = 0
        · rw [if_pos hk0]
          exact cc_R ((if_neg (by omega)).trans onR_0) (e_f (by decide) (cc_no h))
        · rw [if_neg hk0]
          refine cc_R (if_pos ⟨⟨w1, w2⟩, by omega⟩) ?_
          rw [onR_if]
          have gk : 0 < A.1 k := by omega
          refine e_t rfl (e_b1 (h.d0 hj) (e_b1 (t_isZero (h.nr hj)) ?_))
          by_cases hj0 : A.1 j = 0
          · rw [if_pos hj0, if_pos hj0]
            refine e_f (by decide) (e_b1 (h.d0 hj) ?_)
            have := t_ckeep (d := d) (m := j) (n := false) (z := s.toInt) (i3 := 0) h (by omega) rfl rfl (iZ_lx s) (by omega) (by omega)
            rw [h.rv hj, hj0] at this
            exact cc_rt this isB_kD
          · rw [if_neg hj0, if_neg hj0, onR_fnA]
            have gj : 0 < A.1 j := by omega
            have sj := sz_pos gj
            have sk := sz_pos gk
            have nj : nd (A.1 j) = sz (A.1 j) := by rw [nd_sz, if_neg hj0]
            have nk : nd (A.1 k) = sz (A.1 k) := by rw [nd_sz, if_neg hk0]
            obtain ⟨e, he⟩ : ∃ e, s.toInt - A.2.2 j + A.2.2 k = e := ⟨_, rfl⟩
            rw [he]
            refine e_t rfl (e_b1 (h.d2 hj) (e_b1 (h.d2 hk) ?_))
            refine e_le (x := lZ (e + 1)) (by rw [iZ_l hb.2.1 hb.2.2.1, iZ_l hb2.2.1 hb2.2.2.1, iZ_lx, show (1 : Int64) = lZ 1 from rfl, lZ_sub, lZ_add, lZ_add, he]) ?_
            refine e_b1 (h.d0 hj) (e_b1 (t_digitCount h.tn (h.nr hj)) (e_b1 (h.d0 hk) (e_b1 (t_digitCount h.tn (h.nr hk)) ?_)))
            have ecmp : (nI (nd (A.1 j)) - nI (nd (A.1 k)) : Int32).toInt64 + lZ (e + 1) - 1 = lZ ((sz (A.1 j) : Int) - sz (A.1 k) + e) := by
              rw [nj, nk, iZ_n, iZ_n, iZ_sub, iZ_l (by omega) (by omega), show (1 : Int64) = lZ 1 from rfl, lZ_add, lZ_sub]
              congr 1
              omega
            rw [ecmp]
            have nusz := nu_sz (e := e) gj
            have desz := de_sz (e := e) gk
            by_cases hbig : (sz (A.1 j) : Int) - sz (A.1 k) + e ≤ 4096
            · refine e_t ((lZ_le (b := 4096) (by omega) (by omega) (by omega) (by omega)).mpr hbig) ?_
              refine e_b1 (j_maxLZ (a := e + 1) (b := 0) rfl rfl (by omega) (by omega) (by decide) (by decide)) ?_
              obtain ⟨up, hup⟩ : ∃ up : Nat, max (e + 1) 0 = up := ⟨(max (e + 1) 0).toNat, by omega⟩
              rw [hup]
              refine e_le (x := nI up) (by rw [lZ_i]; rfl) ?_
              refine e_b1 (h.d0 hj) (e_b1 (h.d0 hk) ?_)
              have hszu : sz (A.1 j * 10 ^ up) = sz (A.1 j) + up := sz_mul gj
              have dr := t_cdr (j := j) (k := k) (up := up) (u := nI up) h (by omega) (by omega) (by omega) (by omega) (by omega) (by omega) rfl rfl rfl (by omega) (by rw [h.rv hj]; omega) (by rw [h.rv hk]; exact gk)
              rw [h.rv hj, h.rv hk] at dr
              refine cw_bd dr ?_
              rintro r σ1 L1 c1 V1 h1 ⟨rfl, rfl⟩
              obtain ⟨Q, hQ⟩ : ∃ Q, A.1 j * 10 ^ up / A.1 k = Q := ⟨_, rfl⟩
              obtain ⟨mo, hmo⟩ : ∃ mo, decide (A.1 j * 10 ^ up % A.1 k ≠ 0) = mo := ⟨_, rfl⟩
              have sQ : sz Q ≤ 16990 := by
                rw [← hQ]
                have := sz_le.mpr (Nat.lt_of_le_of_lt (Nat.div_le_self (A.1 j * 10 ^ up) (A.1 k)) (sz_lt (A.1 j * 10 ^ up)))
                omega
              rw [hQ] at h1
              rw [hmo]
              refine e_b1 (j_minLZ (a := up - (e + 1) + 1) (b := 4098) (by rw [nI_l (by omega), lZ_n, show (1 : Int64) = lZ 1 from rfl, lZ_sub, lZ_add]) rfl (by omega) (by omega) (by decide) (by decide)) ?_
              obtain ⟨kk, hkk⟩ : ∃ kk : Nat, min ((up : Int) - (e + 1) + 1) 4098 = kk := ⟨(min ((up : Int) - (e + 1) + 1) 4098).toNat, by omega⟩
              rw [hkk]
              refine e_le (x := nI kk) (by rw [lZ_i]; rfl) ?_
              refine e_b1 (h1.d1 hj) (e_b1 (h1.d1 hk) ?_)
              have same : Q / 10 ^ kk = nu (A.1 j) e / de (A.1 k) e ∧ lostc (Q % 10 ^ kk) (10 ^ kk) mo = lostc (nu (A.1 j) e % de (A.1 k) e) (de (A.1 k) e) false := by
                by_cases hk2 : kk < 4098
                · obtain ⟨a1, a2⟩ := nd_low (x := A.1 j) (y := A.1 k) (e := (up : Int)) (k := kk) gk (by omega)
                  rw [nu_n, de_n, hQ] at a1
                  rw [nu_n, de_n, hQ, hmo] at a2
                  rw [show (up : Int) - kk = e by omega] at a1 a2
                  exact ⟨a1, a2⟩
                · have hup0 : up = 0 := by omega
                  have hQ' : sz Q ≤ 4096 := by
                    rw [← hQ, hup0, Nat.pow_zero, Nat.mul_one]
                    exact sz_le.mpr (Nat.lt_of_le_of_lt (Nat.div_le_self _ _) (sz_le.mp hb.1))
                  obtain ⟨a1, a2⟩ := cut_all (m := mo) hQ' (k := kk) (by omega)
                  have hN : nu (A.1 j) e < 10 ^ (sz (A.1 j) + e.toNat) := nusz ▸ sz_lt (nu (A.1 j) e)
                  have hD : 10 ^ (sz (A.1 k) + (-e).toNat - 1) ≤ de (A.1 k) e := desz ▸ sz_ge (de_pos (e := e) gk)
                  have hND : 10 ^ (sz (A.1 j) + e.toNat) * 10 ≤ 10 ^ (sz (A.1 k) + (-e).toNat - 1) := by rw [← Nat.pow_succ]; exact p10_le (by omega)
                  have hN0 := nu_pos (e := e) gj
                  have b1 : nu (A.1 j) e / de (A.1 k) e = 0 := Nat.div_eq_of_lt (by omega)
                  have b2 : nu (A.1 j) e % de (A.1 k) e = nu (A.1 j) e := Nat.mod_eq_of_lt (by omega)
                  have b3 : lostc (nu (A.1 j) e) (de (A.1 k) e) false = 1 := by
                    unfold lostc
                    rw [if_pos (by omega), if_neg (by omega)]
                  rw [a1, a2, b1, b2, b3, if_neg]
                  · exact ⟨rfl, rfl⟩
                  · rintro ⟨z1, z2⟩
                    have hdm := Nat.div_add_mod (A.1 j * 10 ^ up) (A.1 k)
                    rw [hQ, z1, Nat.mul_zero] at hdm
                    have : A.1 j * 10 ^ up % A.1 k = 0 := by
                      rw [← hmo] at z2
                      exact Decidable.of_not_not (of_decide_eq_false z2)
                    have hp : 0 < A.1 j * 10 ^ up := Nat.mul_pos gj (p10_pos _)
                    omega
              rw [← same.1, ← same.2]
              have fin : ∀ z, z = bI (xor (A.2.1 j) (A.2.1 k)) → Cc t σ1 L1 c1 (bd (f_X5_cutQuotient σ1 t (nI kk) (bI mo) z (nI w)) fun x30 σ31 => if x30 = 0 then ((isB 0).bind fun _ => some (0, σ31, 0, 0)) else (gR σ31 5 t 2).bind fun r32 => bd (f_X5_keep σ31 t d r32 z ((s : Int32).toInt64)) fun x33 σ34 => if x33 = 0 then ((isB 0).bind fun _ => some (0, σ34, 0, 0)) else (isB 1).bind fun _ => some (1, σ34, 0, 0)) (if lostc (Q % 10 ^ kk) (10 ^ kk) mo ≠ 0 ∧ w = 7 then (0, A) else kD d (rn (Q / 10 ^ kk) (lostc (Q % 10 ^ kk) (10 ^ kk) mo) w (xor (A.2.1 j) (A.2.1 k))) (xor (A.2.1 j) (A.2.1 k)) s.toInt A) T W := by
                intro z hz
                subst hz
                have cut := t_ccut (k := kk) (how := w) (more := mo) (n := xor (A.2.1 j) (A.2.1 k)) h1 rfl rfl rfl rfl (by omega) hw (by rw [upA_s]; omega)
                rw [upA_s] at cut
                refine cw_bd cut ?_
                intro r σ2 L2 c2 V2 h2 hr
                by_cases hc : lostc (Q % 10 ^ kk) (10 ^ kk) mo ≠ 0 ∧ w = 7
                · rw [if_pos hc] at hr ⊢
                  subst hr
                  exact e_t rfl (cc_no h2)
                · rw [if_neg hc] at hr ⊢
                  obtain ⟨rfl, rfl⟩ := hr
                  refine e_f (by decide) (e_b1 h2.g2 ?_)
                  have := t_ckeep (d := d) (m := 9) (n := xor (A.2.1 j) (A.2.1 k)) (z := s.toInt) h2 (by decide) rfl rfl (iZ_lx s) (by omega) (by omega)
                  rw [upA_s] at this
                  exact cc_ok this isB_kD
              refine e_jq ?_
              by_cases hee : A.2.1 j = A.2.1 k
              · refine e_t (by rw [hee]) (fin 0 ?_)
                rw [hee]; cases A.2.1 k <;> rfl
              · refine e_f (fun w => hee (bI_eq.mp w)) (fin 1 ?_)
                revert hee
                cases A.2.1 j <;> cases A.2.1 k <;> simp [bI]
            · refine e_f (fun z => hbig ((lZ_le (b := 4096) (by omega) (by omega) (by omega) (by omega)).mp z)) ?_
              refine cc_R (R := (0, A)) ?_ (cc_no h)
              have hq := sz_quo_ge (nu_pos (e := e) gj) (de_pos (e := e) gk) (by omega)
              rw [← onR_fnA]
              have : ∀ i, fnA i (nu (A.1 j) e / de (A.1 k) e) (lostc (nu (A.1 j) e % de (A.1 k) e) (de (A.1 k) e) false) w (xor (A.2.1 j) (A.2.1 k)) s.toInt A = (0, A) := fun i => fn_big (by omega)
              simp only [this]
              exact onR_0
      · rw [onR_if, if_neg (fun w => nh w.1), onR_0]
        exact e_b1 eh (e_t rfl (cc_no h))
    · rw [onR_n e2]
      exact e_b1 e1 (e_t rfl (cc_no h))
  · rw [onR_n e2]
    exact e_b1 e1 (e_t rfl (cc_no h))
end C3
