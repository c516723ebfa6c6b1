/-! ===== power of the object ===== -/
theorem sh_i : ∀ i : Fin 32, nI i.1 &&& 31 = nI i.1 := by decide +kernel
theorem shr_n {n i : Nat} (hn : n < 2 ^ 31) (hi : i < 32) : nI n >>> (nI i &&& 31) = nI (n / 2 ^ i) := by
  rw [sh_i ⟨i, hi⟩]
  apply Int32.toBitVec_inj.mp
  apply BitVec.eq_of_toNat_eq
  rw [Int32.toBitVec_shiftRight]
  have e : ((nI i).toBitVec).smod 32 = BitVec.ofNat 32 i := by
    show (BitVec.ofNat 32 i).smod 32 = _
    rw [BitVec.smod_eq]
    have m1 : (BitVec.ofNat 32 i).msb = false := by
      rw [BitVec.msb_eq_decide]
      simp
      omega
    have m2 : (32 : BitVec 32).msb = false := by decide
    rw [m1, m2]
    apply BitVec.eq_of_toNat_eq
    show (BitVec.ofNat 32 i % 32).toNat = _
    rw [BitVec.toNat_umod, BitVec.toNat_ofNat]
    show i % 2 ^ 32 % 32 = i % 2 ^ 32
    omega
  rw [e]
  show ((BitVec.ofNat 32 n).sshiftRight (BitVec.ofNat 32 i).toNat).toNat = (BitVec.ofNat 32 (n / 2 ^ i)).toNat
  have m1 : (BitVec.ofNat 32 n).msb = false := by
    rw [BitVec.msb_eq_decide]
    simp
    omega
  have hd : n / 2 ^ i ≤ n := Nat.div_le_self _ _
  rw [BitVec.sshiftRight_eq_of_msb_false m1, BitVec.toNat_ushiftRight, BitVec.toNat_ofNat, BitVec.toNat_ofNat, BitVec.toNat_ofNat, Nat.mod_eq_of_lt (show i < 2 ^ 32 by omega), Nat.mod_eq_of_lt (show n < 2 ^ 32 by omega), Nat.mod_eq_of_lt (show n / 2 ^ i < 2 ^ 32 by omega), Nat.shiftRight_eq_div_pow]
theorem and1 {n : Nat} (hn : n < 2 ^ 31) : nI n &&& 1 = nI (n % 2) := by
  apply Int32.toBitVec_inj.mp
  apply BitVec.eq_of_toNat_eq
  rw [Int32.toBitVec_and, BitVec.toNat_and]
  show (BitVec.ofNat 32 n).toNat &&& 1 = (BitVec.ofNat 32 (n % 2)).toNat
  rw [BitVec.toNat_ofNat, BitVec.toNat_ofNat, Nat.mod_eq_of_lt (show n < 2 ^ 32 by omega), Nat.and_one_is_mod]
  omega
theorem ush_n {n i : Nat} {s : UInt32} (hn : n < 2 ^ 31) (hs : s.toNat = i) (hi : i < 32) : ((nI n).toUInt32 >>> s).toInt32 = nI (n / 2 ^ i) := by
  apply Int32.toBitVec_inj.mp
  apply BitVec.eq_of_toNat_eq
  have e1 : (((nI n).toUInt32 >>> s).toInt32).toBitVec.toNat = ((nI n).toUInt32 >>> s).toNat := rfl
  have e2 : (nI n).toUInt32.toNat = n := by
    show (BitVec.ofNat 32 n).toNat = n
    rw [BitVec.toNat_ofNat, Nat.mod_eq_of_lt (by omega)]
  have hd : n / 2 ^ i ≤ n := Nat.div_le_self _ _
  rw [e1, UInt32.toNat_shiftRight, e2, hs, Nat.mod_eq_of_lt (show i < 32 by omega), Nat.shiftRight_eq_div_pow]
  show _ = (BitVec.ofNat 32 (n / 2 ^ i)).toNat
  rw [BitVec.toNat_ofNat, Nat.mod_eq_of_lt (by omega)]
theorem lg_div {m s : Nat} (h : 2 ^ s ≤ m) : m.log2 = (m / 2 ^ s).log2 + s := by
  have hp : 0 < 2 ^ s := Nat.pow_pos (by decide)
  have h0 : 0 < m / 2 ^ s := Nat.div_pos h hp
  have hm0 : m ≠ 0 := by omega
  obtain ⟨k, hk⟩ : ∃ k, (m / 2 ^ s).log2 = k := ⟨_, rfl⟩
  have a1 := Nat.log2_self_le (n := m / 2 ^ s) (by omega)
  have a2 := Nat.lt_log2_self (n := m / 2 ^ s)
  rw [hk] at a1 a2 ⊢
  have b1 : 2 ^ (k + s) ≤ m := by
    rw [Nat.pow_add]
    exact (Nat.le_div_iff_mul_le hp).mp a1
  have b2 : m < 2 ^ (k + s + 1) := by
    rw [show k + s + 1 = k + 1 + s by omega, Nat.pow_add]
    exact (Nat.div_lt_iff_lt_mul hp).mp a2
  exact (Nat.log2_eq_iff hm0).mpr ⟨b1, b2⟩
section C8
variable {t : Nat} {σ : St} {L c V : Nat → Nat} {A : AS} {T W : TS}
theorem j_nlz {n : Nat} (h0 : 0 < n) (hn : n < 65536) : f_J6_numberOfLeadingZeros_0f7a4 σ (nI n) = some (nI (31 - n.log2)) := by
  unfold f_J6_numberOfLeadingZeros_0f7a4
  refine q_t (nI_lt (a := 0) h0 (by omega)) ?_
  have step : ∀ (s m k : Nat) (u : UInt32), u.toNat = s → s < 16 → 0 < m → m < 65536 → s ≤ k → k ≤ 31 → 2 ^ s ≤ m → m.log2 + (31 - k) = n.log2 → ((nI m).toUInt32 >>> u).toInt32 = nI (m / 2 ^ s) ∧ 0 < m / 2 ^ s ∧ m / 2 ^ s < 65536 ∧ (m / 2 ^ s).log2 + (31 - (k - s)) = n.log2 := by
    intro s m k u hu hs m0 m1 sk k1 hle hl
    have := lg_div hle
    have hd : m / 2 ^ s ≤ m := Nat.div_le_self _ _
    exact ⟨ush_n (by omega) hu (by omega), Nat.div_pos hle (Nat.pow_pos (by decide)), by omega, by omega⟩
  refine q_jp (fun z => ∃ m k : Nat, z = (nI m, nI k) ∧ 0 < m ∧ m < 65536 ∧ k = 31 ∧ m.log2 + (31 - k) = n.log2) ?_ ?_
  · rintro z ⟨m, k, rfl, m0, m1, k1, hl⟩
    refine q_jp (fun z => ∃ m k : Nat, z = (nI m, nI k) ∧ 0 < m ∧ m < 256 ∧ 23 ≤ k ∧ k ≤ 31 ∧ m.log2 + (31 - k) = n.log2) ?_ ?_
    · rintro z ⟨m, k, rfl, m0, m1, k1, k2, hl⟩
      refine q_jp (fun z => ∃ m k : Nat, z = (nI m, nI k) ∧ 0 < m ∧ m < 16 ∧ 19 ≤ k ∧ k ≤ 31 ∧ m.log2 + (31 - k) = n.log2) ?_ ?_
      · rintro z ⟨m, k, rfl, m0, m1, k1, k2, hl⟩
        refine q_jp (fun z => ∃ m k : Nat, z = (nI m, nI k) ∧ 0 < m ∧ m < 4 ∧ 17 ≤ k ∧ k ≤ 31 ∧ m.log2 + (31 - k) = n.log2) ?_ ?_
        · rintro z ⟨m, k, rfl, m0, m1, k1, k2, hl⟩
          show some (nI k - ((nI m).toUInt32 >>> ((1 : Int32).toUInt32 &&& Int32.toUInt32 31)).toInt32) = _
          rw [ush_n (i := 1) (by omega) rfl (by decide), pk_sub (by omega)]
          have hm : m = 1 ∨ m = 2 ∨ m = 3 := by omega
          have : m.log2 = m / 2 ^ 1 := by rcases hm with rfl | rfl | rfl <;> decide
          congr 2
          omega
        · intro k4 hk4
          by_cases hlt : m < 4
          · exact q_t (nI_lt (b := 4) hlt (by decide)) (hk4 _ ⟨m, k, rfl, m0, hlt, by omega, by omega, hl⟩)
          · obtain ⟨s1, s2, s3, s4⟩ := step 2 m k ((2 : Int32).toUInt32 &&& Int32.toUInt32 31) rfl (by decide) m0 (by omega) (by omega) (by omega) (by omega) hl
            refine q_f (nI_nlt (a := m) (b := 4) (by omega) (by omega)) ?_
            refine q_le (y := nI (k - 2)) (by rw [show (-2 : Int32) = -(nI 2) from rfl, ← Int32.sub_eq_add_neg, pk_sub (by omega)]) (q_le s1 (hk4 _ ⟨_, _, rfl, s2, by omega, by omega, by omega, s4⟩))
      · intro k3 hk3
        by_cases hlt : m < 16
        · exact q_t (nI_lt (b := 16) hlt (by decide)) (hk3 _ ⟨m, k, rfl, m0, hlt, by omega, by omega, hl⟩)
        · obtain ⟨s1, s2, s3, s4⟩ := step 4 m k ((4 : Int32).toUInt32 &&& Int32.toUInt32 31) rfl (by decide) m0 (by omega) (by omega) (by omega) (by omega) hl
          refine q_f (nI_nlt (a := m) (b := 16) (by omega) (by omega)) ?_
          refine q_le (y := nI (k - 4)) (by rw [show (-4 : Int32) = -(nI 4) from rfl, ← Int32.sub_eq_add_neg, pk_sub (by omega)]) (q_le s1 (hk3 _ ⟨_, _, rfl, s2, by omega, by omega, by omega, s4⟩))
    · intro k2 hk2
      by_cases hlt : m < 256
      · exact q_t (nI_lt (b := 256) hlt (by decide)) (hk2 _ ⟨m, k, rfl, m0, hlt, by omega, by omega, hl⟩)
      · obtain ⟨s1, s2, s3, s4⟩ := step 8 m k ((8 : Int32).toUInt32 &&& Int32.toUInt32 31) rfl (by decide) m0 (by omega) (by omega) (by omega) (by omega) hl
        refine q_f (nI_nlt (a := m) (b := 256) (by omega) (by omega)) ?_
        refine q_le (y := nI (k - 8)) (by rw [show (-8 : Int32) = -(nI 8) from rfl, ← Int32.sub_eq_add_neg, pk_sub (by omega)]) (q_le s1 (hk2 _ ⟨_, _, rfl, s2, by omega, by omega, by omega, s4⟩))
  · intro k1 hk1
    exact q_t (nI_lt (b := 65536) hn (by decide)) (hk1 _ ⟨n, 31, rfl, h0, hn, rfl, by omega⟩)
/-- the bits of the exponent from above -/
theorem t_ckp_loop {j n : Nat} {i1 i4 : Int32} {j5 : Int64} (hj : j < 8) (hx : 2 ≤ A.1 j) (hxs : sz (A.1 j) ≤ 4096) (hn : n < 65536) : ∀ (f b hd nx : Nat) (σ : St) (L c V : Nat → Nat), b < f → b ≤ 16 → ((hd = 8 ∧ nx = 9) ∨ (hd = 9 ∧ nx = 8)) → CI t σ L c V A T W → V hd = A.1 j ^ (n / 2 ^ b) → sz (V hd) ≤ 4097 → Cw t σ L c A T W (f_X5_keepPower_L46 f σ t i1 (nA t j) (nI n) i4 j5 (nA t hd) (nA t nx) (nI b + (-1))) (fun r V' => (∃ m, (m = 8 ∨ m = 9) ∧ r = .inr (.inr (nA t m)) ∧ V' m = A.1 j ^ n) ∨ ((r = .inl () ∨ r = .inr (.inl ())) ∧ ¬ sz (A.1 j ^ n) ≤ 4096)) := by
  intro f
  induction f with
  | zero => intro b hd nx σ L c V a; omega
  | succ f ih =>
    intro b hd nx σ L c V hf hb hhn h hv hsz
    show Ye (b_X5_keepPower_L46 (f_X5_keepPower_L46 f) _ t _ _ _ _ _ _ _ _) _
    unfold b_X5_keepPower_L46
    rcases Nat.eq_zero_or_pos b with h0 | h0
    · subst h0
      refine e_t (by decide) (cw_no h (Or.inl ⟨hd, by omega, rfl, ?_⟩))
      rw [hv, Nat.pow_zero, Nat.div_one]
    · obtain ⟨i, rfl⟩ : ∃ i, b = i + 1 := ⟨b - 1, by omega⟩
      have ej : nI (i + 1) + (-1) = nI i := by rw [← Int32.sub_eq_add_neg]; exact nI_pred i
      rw [ej]
      have hd11 : hd < 11 ∧ 8 ≤ hd := by omega
      have nx11 : nx < 11 ∧ 8 ≤ nx := by omega
      refine e_f (nI_pos (by omega)) ?_
      have hdd : n / 2 ^ (i + 1) = n / 2 ^ i / 2 := by rw [Nat.pow_succ, Nat.div_div_eq_div_mul]
      have hle : n / 2 ^ i ≤ n := Nat.div_le_self _ _
      refine cw_bw (t_cmul h (i := nx) (j := hd) (k := hd) nx11.2 nx11.1 hd11.1 hd11.1 (by omega) (by omega) (by omega) (by omega)) ?_
      have esq : V hd * V hd = A.1 j ^ (2 * (n / 2 ^ (i + 1))) := by
        rw [hv]
        generalize n / 2 ^ (i + 1) = e
        rw [Nat.two_mul, Nat.pow_add]
      rw [esq]
      rintro r σ1 L1 c1 V1 h1 (⟨rfl, rfl, s1⟩ | ⟨rfl, rfl, s1⟩)
      · refine e_f (by decide) ?_
        have v1 : upA V nx (A.1 j ^ (2 * (n / 2 ^ (i + 1)))) nx = A.1 j ^ (2 * (n / 2 ^ (i + 1))) := upA_s
        have ebit : (nI n >>> (nI i &&& 31)) &&& 1 = nI (n / 2 ^ i % 2) := by
          rw [shr_n (by omega) (by omega), and1 (by omega)]
        rw [ebit]
        have nxt : ∀ (a b' : Nat) (σ2 : St) (L2 c2 V2 : Nat → Nat), ((a = 8 ∧ b' = 9) ∨ (a = 9 ∧ b' = 8)) → CI t σ2 L2 c2 V2 A T W → V2 a = A.1 j ^ (n / 2 ^ i) → sz (V2 a) ≤ 4097 → Cw t σ2 L2 c2 A T W (lt (nI i + (-1)) fun x10 => f_X5_keepPower_L46 f σ2 t i1 (nA t j) (nI n) i4 j5 (nA t a) (nA t b') x10) (fun r V' => (∃ m, (m = 8 ∨ m = 9) ∧ r = .inr (.inr (nA t m)) ∧ V' m = A.1 j ^ n) ∨ ((r = .inl () ∨ r = .inr (.inl ())) ∧ ¬ sz (A.1 j ^ n) ≤ 4096)) := fun a b' σ2 L2 c2 V2 hab g1 g2 g3 => e_lt (ih i a b' σ2 L2 c2 V2 (by omega) (by omega) hab g1 g2 g3)
        refine e_jq ?_
        by_cases hb0 : n / 2 ^ i % 2 = 0
        · refine e_t (by rw [hb0]; rfl) (nxt nx hd σ1 L1 c1 _ (by omega) h1 ?_ ?_)
          · rw [v1]; congr 1; omega
          · rw [v1]; exact s1
        · refine e_f (nI_ne0 (by omega) (by omega)) ?_
          have vj : upA V nx (A.1 j ^ (2 * (n / 2 ^ (i + 1)))) j = A.1 j := by rw [upA_n (by omega)]; exact h.rv hj
          refine cw_bw (t_cmul h1 (i := hd) (j := nx) (k := j) hd11.2 hd11.1 nx11.1 (by omega) (by omega) (by omega) (by rw [v1]; omega) (by rw [vj]; omega)) ?_
          rw [v1, vj]
          have epr : A.1 j ^ (2 * (n / 2 ^ (i + 1))) * A.1 j = A.1 j ^ (n / 2 ^ i) := by rw [← Nat.pow_succ]; congr 1; omega
          rw [epr]
          rintro r σ2 L2 c2 V2 h2 (⟨rfl, rfl, s2⟩ | ⟨rfl, rfl, s2⟩)
          · refine e_f (by decide) (nxt hd nx σ2 L2 c2 _ hhn h2 ?_ ?_)
            · rw [upA_s]
            · rw [upA_s]; exact s2
          · refine e_t rfl (cw_no h2 (Or.inr ⟨Or.inr rfl, pw_big hx hle s2⟩))
      · refine e_t rfl (cw_no h1 (Or.inr ⟨Or.inl rfl, pw_big hx (by omega) s1⟩))
theorem t_cpower {d a n : Int32} (h : CI t σ L c V A T W) : Cc t σ L c (f_X5_power σ t d a n) (sPower A d a n) T W := by
  have hF := FU_ge
  unfold sPower
  rw [onR_sw]
  unfold f_X5_power
  refine e_ob h.t5 ?_
  rcases cis_or (σ := σ) a with ⟨j, hj, rfl, e1⟩ | ⟨e1, e2⟩
  · rw [onR_y hj, onR_if]
    refine e_b1 e1 (e_f (by decide) ?_)
    have hb := h.ok j hj
    by_cases hn : 0 ≤ n
    · obtain ⟨w, hw, rfl⟩ := nI_of (x := n) (Int32.not_lt.mpr hn)
      refine cc_R (if_pos hn) (e_t hn ?_)
      rw [nI_clamp (by omega)]
      have sb1 : -9223372036854775808 ≤ A.2.2 j * w := by
        have : A.2.2 j * w ≥ -2147483648 * 2147483648 := by
          refine Int.le_trans (b := -2147483648 * (w : Int)) (by omega) (Int.mul_le_mul_of_nonneg_right hb.2.1 (by omega))
        omega
      have sb2 : A.2.2 j * w < 9223372036854775808 := by
        have : A.2.2 j * w ≤ 2147483647 * (w : Int) := Int.mul_le_mul_of_nonneg_right (by omega) (by omega)
        omega
      refine e_b1 h.g0 (e_b1 (h.gr hj rfl) (e_b1 (h.d1 hj) ?_))
      have bigR : ¬ sz (A.1 j ^ w) ≤ 4096 → (onR d A fun i => kpA i (A.1 j ^ w) (A.2.1 j && decide (w % 2 = 1)) (A.2.2 j * w) A) = (0, A) := fun hbg => by
        have : ∀ i, kpA i (A.1 j ^ w) (A.2.1 j && decide (w % 2 = 1)) (A.2.2 j * w) A = (0, A) := fun i => kp_big hbg
        simp only [this]
        exact onR_0
      refine e_jn (fun z5 => z5 = bI (A.2.1 j && decide (w % 2 = 1))) ?_ ?_
      · intro z5 hz5
        subst hz5
        refine e_b1 (h.d2 hj) (e_le (x := lZ (A.2.2 j * w)) (by rw [iZ_l hb.2.1 hb.2.2.1, nI_l (by omega), lZ_n, lZ_mul]) ?_)
        by_cases hw0 : w = 0
        · subst hw0
          refine e_t rfl (e_b1 h.g1 ?_)
          refine cw_bd (cw_p1 h (by decide) (by decide) (t_sizeOf (j := 1) (h.nv (by decide)) (by have := (h.2.1 8 (by decide)).2; omega))) ?_
          rintro r σ1 L1 c1 V1 h1 rfl
          refine e_b1 h1.g1 ?_
          have := t_ckeep (d := d) (m := 8) (n := false) (z := 0) (i3 := 0) (j4 := 0) h1 (by decide) rfl rfl rfl (by omega) (by omega)
          rw [upA_s] at this
          refine cc_R (R := kD d ((1 : Int64).toInt.natAbs) false 0 A) ?_ (cc_rt this isB_kD)
          refine kD_cg ?_ (fun _ => ?_) ?_
          · rw [Nat.pow_zero]; rfl
          · rw [decide_eq_false (by decide), Bool.and_false]
          · exact Int.mul_zero _
        · refine e_f (nI_ne0 (by omega) (by omega)) ?_
          refine e_b1 (h.d0 hj) (e_b1 (t_isZero (h.nr hj)) ?_)
          refine e_jn (fun _ => A.1 j = 0 ∨ A.1 j = 1) ?_ ?_
          · intro _ hs
            refine e_b1 (h.d0 hj) ?_
            have := t_ckeep (d := d) (m := j) (n := A.2.1 j && decide (w % 2 = 1)) (z := A.2.2 j * w) (j4 := lZ (A.2.2 j * w)) h (by omega) rfl rfl rfl sb1 sb2
            rw [h.rv hj] at this
            refine cc_R (R := kD d (A.1 j) (A.2.1 j && decide (w % 2 = 1)) (A.2.2 j * w) A) ?_ (cc_rt this isB_kD)
            refine kD_cg ?_ (fun _ => rfl) rfl
            rcases hs with z | z
            · rw [z, Nat.zero_pow (by omega)]
            · rw [z, Nat.one_pow]
          · intro k10 hk10
            by_cases hj0 : A.1 j = 0
            · exact e_f (by rw [if_pos hj0]; decide) (hk10 () (Or.inl hj0))
            · refine e_t (by rw [if_neg hj0]) (e_b1 (h.d0 hj) (e_b1 (t_isOne (h.nr hj)) ?_))
              by_cases hj1 : A.1 j = 1
              · exact e_f (by rw [if_pos hj1]; decide) (hk10 () (Or.inr hj1))
              · refine e_t (by rw [if_neg hj1]) ?_
                have hx2 : 2 ≤ A.1 j := by omega
                by_cases hbig : w ≤ 13606
                · refine e_t (nI_le (b := 13606) hbig (by decide)) (e_b1 (h.d0 hj) ?_)
                  refine cc_rt ?_ (isB_onR fun _ => isB_k)
                  have nj : nd (A.1 j) = sz (A.1 j) := by rw [nd_sz, if_neg hj0]
                  have sj := sz_pos (show 0 < A.1 j by omega)
                  unfold f_X5_keepPower
                  refine e_ob h.t5 (e_b1 (t_digitCount h.tn (h.nr hj)) ?_)
                  have hpl : (sz (A.1 j) - 1) * w ≤ 4095 * 13606 := Nat.mul_le_mul (by omega) hbig
                  have ecmp : ((nI (nd (A.1 j)) : Int32).toInt64 - 1) * (nI w : Int32).toInt64 = lZ (((sz (A.1 j) - 1) * w : Nat) : Int) := by
                    rw [nj, nI_l (by omega), nI_l (by omega), lZ_n, lZ_n, show (1 : Int64) = lZ 1 from rfl, lZ_sub, lZ_mul]
                    congr 1
                    rw [Int.natCast_mul]
                    congr 1
                    omega
                  rw [ecmp]
                  by_cases hpre : (sz (A.1 j) - 1) * w < 4096
                  · refine e_t ((lZ_lt (b := 4096) (by omega) (by omega) (by omega) (by omega)).mpr (by omega)) ?_
                    refine e_b1 h.g1 (e_b1 h.g2 ?_)
                    refine cw_bd (cw_p1 h (by decide) (by decide) (t_become h.dm (h.nv (by decide)) (h.nr hj) (fun w => h.inj (by decide) (by omega) (by omega)) (fun w => absurd w (nA_inj (by decide) (by omega) (by omega))) (Em_ge (by omega)))) ?_
                    rintro r σ1 L1 c1 V1 h1 rfl
                    refine e_b1 (j_nlz (by omega) (by omega)) ?_
                    have lg1 := Nat.log2_self_le (n := w) (by omega)
                    have lg2 := Nat.lt_log2_self (n := w)
                    have lg3 : w.log2 < 16 := by
                      refine Nat.not_le.mp fun z => ?_
                      have : 2 ^ 16 ≤ 2 ^ w.log2 := Nat.pow_le_pow_right (by decide) z
                      omega
                    refine e_le (x := nI w.log2 + (-1)) ?_ ?_
                    · rw [show (30 : Int32) = nI 30 from rfl, iZ_n, iZ_n, iZ_n, iZ_sub, show (-1 : Int32) = iZ (-1) by decide, iZ_add]
                      congr 1
                      omega
                    · have hdv : w / 2 ^ w.log2 = 1 := by
                        refine Nat.div_eq_of_lt_le (by omega) ?_
                        rw [Nat.pow_succ] at lg2
                        omega
                      refine cw_bd (t_ckp_loop (i1 := d) (i4 := bI (A.2.1 j && decide (w % 2 = 1))) (j5 := lZ (A.2.2 j * w)) hj hx2 hb.1 (by omega) FU w.log2 8 9 σ1 L1 c1 _ (by omega) (by omega) (Or.inl ⟨rfl, rfl⟩) h1 (by rw [upA_s, hdv, Nat.pow_one]) (by rw [upA_s]; omega)) ?_
                      rintro r σ2 L2 c2 V2 h2 (⟨m, hm, rfl, hv⟩ | ⟨rfl | rfl, hbg⟩)
                      · have := t_ckeep (d := d) (m := m) (n := A.2.1 j && decide (w % 2 = 1)) (z := A.2.2 j * w) (j4 := lZ (A.2.2 j * w)) h2 (by omega) rfl rfl rfl sb1 sb2
                        rw [hv] at this
                        exact cc_rt this isB_kD
                      · exact cc_R (bigR hbg) (cc_no h2)
                      · exact cc_R (bigR hbg) (cc_no h2)
                  · refine e_f (fun z => hpre (by have := (lZ_lt (b := 4096) (by omega) (by omega) (by omega) (by omega)).mp z; omega)) ?_
                    refine cc_R (bigR (fun z => ?_)) (cc_no h)
                    have q1 := Nat.pow_le_pow_left (sz_ge (show 0 < A.1 j by omega)) w
                    rw [← Nat.pow_mul] at q1
                    have q2 : 10 ^ 4096 ≤ 10 ^ ((sz (A.1 j) - 1) * w) := p10_le (by omega)
                    have q3 := sz_le.mp z
                    omega
                · refine e_f (nI_ge (a := 13606) (by omega) (by omega)) ?_
                  exact cc_R (bigR (fun z => by have := pw_sm hx2 z; omega)) (cc_no h)
      · intro k5 hk5
        refine e_jq ?_
        by_cases hng : A.2.1 j = true
        · refine e_f (by rw [hng]; decide) ?_
          rw [and1 (by omega)]
          by_cases hodd : w % 2 = 1
          · refine e_f (by rw [hodd]; decide) (hk5 _ ?_)
            rw [hng, decide_eq_true hodd]; rfl
          · refine e_t (by rw [show w % 2 = 0 by omega]; rfl) (hk5 _ ?_)
            rw [hng, decide_eq_false hodd]; rfl
        · refine e_t (by rw [Bool.eq_false_iff.mpr hng]; rfl) (hk5 _ ?_)
          rw [Bool.eq_false_iff.mpr hng]; rfl
    · exact cc_R ((if_neg hn).trans onR_0) (e_f hn (cc_no h))
  · rw [onR_n e2]
    exact e_b1 e1 (e_t rfl (cc_no h))
end C8
