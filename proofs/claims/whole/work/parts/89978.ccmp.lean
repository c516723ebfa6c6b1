/-! ===== compare and the readers of the object ===== -/
theorem sg_3 (m : Nat) (n : Bool) : sg m n = 0 ∨ sg m n = 1 ∨ sg m n = -1 := by
  unfold sg
  by_cases h : m = 0
  · rw [if_pos h]; exact Or.inl rfl
  · rw [if_neg h]
    cases n
    · exact Or.inr (Or.inl rfl)
    · exact Or.inr (Or.inr rfl)
section C7
variable {t : Nat} {σ : St} {L c V : Nat → Nat} {A : AS} {T W : TS}
theorem t_csignum {j : Nat} {x : Nat} (h : CI t σ L c V A T W) (hj : j < 8) (hx : x = dA t j) : f_X0_signum σ x = some (sg (A.1 j) (A.2.1 j)) := by
  subst hx
  unfold f_X0_signum
  refine q_ob (h.dc hj) (q_b1 (h.d0 hj) (q_b1 (t_isZero (h.nr hj)) ?_))
  unfold sg
  by_cases hz : A.1 j = 0
  · rw [if_pos hz, if_pos hz]
    exact q_f (by decide) rfl
  · rw [if_neg hz, if_neg hz]
    refine q_t rfl (q_b1 (h.d1 hj) ?_)
    cases A.2.1 j with
    | false => exact q_t rfl rfl
    | true => exact q_f (by decide) rfl
theorem t_csign {a : Int32} (h : CI t σ L c V A T W) : f_X5_sign σ t a = some (sSign A a) := by
  unfold f_X5_sign sSign
  refine q_ob h.t5 ?_
  rcases cis_or (σ := σ) a with ⟨j, hj, rfl, e1⟩ | ⟨e1, e2⟩
  · rw [onV_y hj]
    refine q_b1 e1 (q_f (by decide) ?_)
    exact q_b1 h.g0 (q_b1 (h.gr hj rfl) (q_b1 (t_csignum h hj rfl) rfl))
  · rw [onV_n e2]
    exact q_b1 e1 (q_t rfl rfl)
theorem t_cprec {a : Int32} (h : CI t σ L c V A T W) : f_X5_precision σ t a = some (sPrec A a) := by
  unfold f_X5_precision sPrec
  refine q_ob h.t5 ?_
  rcases cis_or (σ := σ) a with ⟨j, hj, rfl, e1⟩ | ⟨e1, e2⟩
  · rw [onV_y hj]
    refine q_b1 e1 (q_f (by decide) ?_)
    exact q_b1 h.g0 (q_b1 (h.gr hj rfl) (q_b1 (h.d0 hj) (q_b1 (t_digitCount h.tn (h.nr hj)) rfl)))
  · rw [onV_n e2]
    exact q_b1 e1 (q_t rfl rfl)
theorem t_cscale {a : Int32} (h : CI t σ L c V A T W) : f_X5_scale σ t a = some (sScale A a) := by
  unfold f_X5_scale sScale
  refine q_ob h.t5 ?_
  rcases cis_or (σ := σ) a with ⟨j, hj, rfl, e1⟩ | ⟨e1, e2⟩
  · rw [onV_y hj]
    refine q_b1 e1 (q_f (by decide) ?_)
    exact q_b1 h.g0 (q_b1 (h.gr hj rfl) (q_b1 (h.d2 hj) rfl))
  · rw [onV_n e2]
    exact q_b1 e1 (q_t rfl rfl)
theorem t_cdigit {a k : Int32} (h : CI t σ L c V A T W) : f_X5_digit σ t a k = some (sDigit A a k) := by
  unfold f_X5_digit sDigit
  refine q_ob h.t5 ?_
  rcases cis_or (σ := σ) a with ⟨j, hj, rfl, e1⟩ | ⟨e1, e2⟩
  · rw [onV_y hj]
    refine q_b1 e1 (q_f (by decide) ?_)
    have hn := nd4 (h.ok j hj).1
    by_cases hk : k < 0
    · refine q_t hk ?_
      rw [if_neg (fun w => Int32.not_lt.mpr w.1 hk)]
    · refine q_f hk ?_
      obtain ⟨i, hi, rfl⟩ := nI_of hk
      refine q_b1 h.g0 (q_b1 (h.gr hj rfl) (q_b1 (h.d0 hj) (q_b1 (t_digitCount h.tn (h.nr hj)) ?_)))
      by_cases hlt : i < nd (A.1 j)
      · refine q_t (nI_lt hlt (by omega)) ?_
        rw [if_pos ⟨nI_pos' (by omega), nI_lt hlt (by omega)⟩, nI_clamp (by omega)]
        exact q_b1 h.g0 (q_b1 (h.gr hj rfl) (q_b1 (h.d0 hj) (q_b1 (t_digitAt h.tn (h.nr hj) rfl (by omega)) rfl)))
      · have : ¬ nI i < nI (nd (A.1 j)) := fun w => hlt ((nI_ltI (by omega) (by omega)).mp w)
        refine q_f this ?_
        rw [if_neg (fun w => this w.2)]
  · rw [onV_n e2]
    exact q_b1 e1 (q_t rfl rfl)
theorem t_cos {j k : Nat} (h : CI t σ L c V A T W) (hj : j < 8) (hk : k < 8) : Cw t σ L c A T W (f_X5_orderOfSizes σ t (dA t j) (dA t k)) (fun r _ => r = if A.1 j = 0 ∨ A.1 k = 0 then 0 else oSz (A.1 j) (A.1 k) (A.2.2 j) (A.2.2 k)) := by
  have hb := h.ok j hj
  have hb2 := h.ok k hk
  unfold f_X5_orderOfSizes
  refine e_ob h.t5 (e_b1 (h.d0 hj) (e_b1 (t_isZero (h.nr hj)) ?_))
  by_cases hj0 : A.1 j = 0
  · refine e_f (by rw [if_pos hj0]; decide) (cw_no h ?_)
    rw [if_pos (Or.inl hj0)]
  · refine e_t (by rw [if_neg hj0]) (e_b1 (h.d0 hk) (e_b1 (t_isZero (h.nr hk)) ?_))
    by_cases hk0 : A.1 k = 0
    · refine e_f (by rw [if_pos hk0]; decide) (cw_no h ?_)
      rw [if_pos (Or.inr hk0)]
    · refine e_t (by rw [if_neg hk0]) ?_
      have nj : nd (A.1 j) = sz (A.1 j) := by rw [nd_sz, if_neg hj0]
      have nk : nd (A.1 k) = sz (A.1 k) := by rw [nd_sz, if_neg hk0]
      have spec : (if A.1 j = 0 ∨ A.1 k = 0 then 0 else oSz (A.1 j) (A.1 k) (A.2.2 j) (A.2.2 k)) = oSz (A.1 j) (A.1 k) (A.2.2 j) (A.2.2 k) := if_neg (fun w => w.elim hj0 hk0)
      refine e_b1 (h.d0 hj) (e_b1 (t_digitCount h.tn (h.nr hj)) (e_b1 (h.d0 hk) (e_b1 (t_digitCount h.tn (h.nr hk)) ?_)))
      rw [nj, nk]
      refine e_b1 (h.d2 hj) (e_le (x := lZ ((sz (A.1 j) : Int) - A.2.2 j)) (by rw [nI_l (by omega), iZ_l hb.2.1 hb.2.2.1, lZ_n, lZ_sub]) ?_)
      refine e_b1 (h.d2 hk) (e_le (x := lZ ((sz (A.1 k) : Int) - A.2.2 k)) (by rw [nI_l (by omega), iZ_l hb2.2.1 hb2.2.2.1, lZ_n, lZ_sub]) ?_)
      by_cases heq : (sz (A.1 j) : Int) - A.2.2 j = sz (A.1 k) - A.2.2 k
      · refine e_t (by rw [heq]) ?_
        refine e_b1 (j_max rfl rfl (by omega) (by omega)) ?_
        obtain ⟨m, hm⟩ : ∃ m, max (sz (A.1 j)) (sz (A.1 k)) = m := ⟨_, rfl⟩
        rw [hm]
        refine e_b1 h.g1 (e_b1 (h.d0 hj) ?_)
        have s1 : sz (A.1 j * 10 ^ (m - sz (A.1 j))) = sz (A.1 j) + (m - sz (A.1 j)) := sz_mul (by omega)
        have s2 : sz (A.1 k * 10 ^ (m - sz (A.1 k))) = sz (A.1 k) + (m - sz (A.1 k)) := sz_mul (by omega)
        refine cw_bw (cw_p1 h (by decide) (by decide) (t_raise (k := m - sz (A.1 j)) h.dm h.tn (h.nv (by decide)) (h.nr hj) (fun w => h.inj (by decide) (by omega) (by omega)) (fun w => absurd w (nA_inj (by decide) (by omega) (by omega))) (pk_sub (by omega)) (by omega) (Em_ge (by omega)))) ?_
        rintro r σ1 L1 c1 V1 h1 rfl
        refine e_b1 h1.g3 (e_b1 (h1.d0 hk) ?_)
        refine cw_bw (cw_p1 h1 (by decide) (by decide) (t_raise (k := m - sz (A.1 k)) h1.dm h1.tn (h1.nv (by decide)) (h1.nr hk) (fun w => h1.inj (by decide) (by omega) (by omega)) (fun w => absurd w (nA_inj (by decide) (by omega) (by omega))) (pk_sub (by omega)) (by omega) (Em_ge (by omega)))) ?_
        rintro r σ2 L2 c2 V2 h2 rfl
        have v8 := h2.nv (i := 8) (by decide)
        have v10 := h2.nv (i := 10) (by decide)
        rw [upA_n (by decide), upA_s] at v8
        rw [upA_s] at v10
        refine e_b1 h2.g1 (e_b1 h2.g3 (e_b1 (t_order v8 v10) (cw_no h2 ?_)))
        rw [spec]
        unfold oSz
        rw [if_neg (c := (sz (A.1 j) : Int) - A.2.2 j < sz (A.1 k) - A.2.2 k) (by omega), if_neg (c := (sz (A.1 k) : Int) - A.2.2 k < sz (A.1 j) - A.2.2 j) (by omega), hm]
        rfl
      · refine e_f (fun w => heq ((lZ_eq (by omega) (by omega) (by omega) (by omega)).mp w)) ?_
        by_cases hle : (sz (A.1 j) : Int) - A.2.2 j ≤ sz (A.1 k) - A.2.2 k
        · refine e_t ((lZ_le (by omega) (by omega) (by omega) (by omega)).mpr hle) (cw_no h ?_)
          rw [spec]
          unfold oSz
          rw [if_pos (by omega)]
        · refine e_f (fun w => hle ((lZ_le (by omega) (by omega) (by omega) (by omega)).mp w)) (cw_no h ?_)
          rw [spec]
          unfold oSz
          rw [if_neg (by omega), if_pos (by omega)]
theorem t_ccompare {a b : Int32} (h : CI t σ L c V A T W) : Cc t σ L c (f_X5_compare σ t a b) (sCmp A a b, A) T W := by
  have ret : ∀ v : Int32, v = sCmp A a b → Cc t σ L c (some (v, σ, 0, 0)) (sCmp A a b, A) T W := fun v hv => e_ret ⟨hv, L, c, V, h, Rl.rf⟩
  unfold f_X5_compare
  refine e_ob h.t5 ?_
  rcases cis_or (σ := σ) a with ⟨j, hj, rfl, e1⟩ | ⟨e1, e2⟩
  · refine e_b1 e1 (e_jq (e_f (by decide) ?_))
    rcases cis_or (σ := σ) b with ⟨k, hk, rfl, e1⟩ | ⟨e1, e2⟩
    · refine e_b1 e1 (e_f (by decide) ?_)
      have spec : sCmp A (nI j) (nI k) = if sg (A.1 j) (A.2.1 j) = sg (A.1 k) (A.2.1 k) then (if A.1 j = 0 then 0 else sg (A.1 j) (A.2.1 j) * oSz (A.1 j) (A.1 k) (A.2.2 j) (A.2.2 k)) else if sg (A.1 k) (A.2.1 k) ≤ sg (A.1 j) (A.2.1 j) then 1 else -1 := by
        unfold sCmp
        rw [onV_y hj, onV_y hk]
      refine e_b1 h.g0 (e_b1 (h.gr hj rfl) (e_b1 h.g0 (e_b1 (h.gr hk rfl) (e_b1 (t_csignum h hj rfl) (e_b1 (t_csignum h hk rfl) (e_lt ?_))))))
      by_cases heq : sg (A.1 j) (A.2.1 j) = sg (A.1 k) (A.2.1 k)
      · refine e_t (by rw [heq, Int32.sub_self]) ?_
        rw [if_pos heq] at spec
        refine e_b1 (h.d1 hj) ?_
        have hzz : A.1 j = 0 ↔ A.1 k = 0 := by rw [← sg_0 (n := A.2.1 j), ← sg_0 (n := A.2.1 k), heq]
        cases hn : A.2.1 j with
        | false =>
          refine e_t rfl ?_
          refine cw_bd (t_cos h hj hk) ?_
          rintro r σ1 L1 c1 V1 h1 rfl
          refine e_ret ⟨?_, L1, c1, V1, h1, Rl.rf⟩
          show _ = sCmp A (nI j) (nI k)
          rw [spec]
          by_cases hj0 : A.1 j = 0
          · rw [if_pos (Or.inl hj0), if_pos hj0]
          · rw [if_neg (fun w => w.elim hj0 (fun z => hj0 (hzz.mpr z))), if_neg hj0, sg_pos (by omega), hn]
            exact (Int32.one_mul _).symm
        | true =>
          refine e_f (by decide) ?_
          refine cw_bd (t_cos h hj hk) ?_
          rintro r σ1 L1 c1 V1 h1 rfl
          refine e_ret ⟨?_, L1, c1, V1, h1, Rl.rf⟩
          show -_ = sCmp A (nI j) (nI k)
          rw [spec]
          by_cases hj0 : A.1 j = 0
          · rw [if_pos (Or.inl hj0), if_pos hj0]; rfl
          · rw [if_neg (fun w => w.elim hj0 (fun z => hj0 (hzz.mpr z))), if_neg hj0, sg_pos (by omega), hn, if_pos rfl, Int32.neg_mul, Int32.one_mul]
      · rw [if_neg heq] at spec
        have hd : sg (A.1 j) (A.2.1 j) - sg (A.1 k) (A.2.1 k) ≠ 0 ∧ (sg (A.1 j) (A.2.1 j) - sg (A.1 k) (A.2.1 k) ≤ 0 ↔ ¬ sg (A.1 k) (A.2.1 k) ≤ sg (A.1 j) (A.2.1 j)) := by
          rcases sg_3 (A.1 j) (A.2.1 j) with w | w | w <;> rcases sg_3 (A.1 k) (A.2.1 k) with z | z | z <;> rw [w, z] at heq ⊢ <;> first | exact absurd rfl heq | decide
        refine e_f hd.1 ?_
        by_cases hle : sg (A.1 j) (A.2.1 j) - sg (A.1 k) (A.2.1 k) ≤ 0
        · refine e_t hle (ret _ ?_)
          rw [spec, if_neg (hd.2.mp hle)]
        · refine e_f hle (ret _ ?_)
          rw [spec, if_pos (Decidable.of_not_not fun w => hle (hd.2.mpr w))]
    · refine e_b1 e1 (e_t rfl (ret _ ?_))
      unfold sCmp
      rw [onV_y hj, onV_n e2]
  · refine e_b1 e1 (e_jq (e_t rfl (ret _ ?_)))
    unfold sCmp
    rw [onV_n e2]
end C7
