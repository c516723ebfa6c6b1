/-! ===== root of the object ===== -/
theorem rM_f {m : Nat} {e : Int} : rM m e = false ↔ nu m e = de 1 e * (sqt (rN m e) * sqt (rN m e)) := by
  have hd : 0 < de 1 e := de_pos (by decide)
  have hq := sqt_le (rN m e)
  have hdm := Nat.div_add_mod (nu m e) (de 1 e)
  have hrn : rN m e = nu m e / de 1 e := rfl
  unfold rM
  rw [Bool.or_eq_false_iff]
  constructor
  · rintro ⟨h1, h2⟩
    have e1 : nu m e % de 1 e = 0 := Decidable.of_not_not (of_decide_eq_false h1)
    have e2 : rN m e - sqt (rN m e) * sqt (rN m e) = 0 := Decidable.of_not_not (of_decide_eq_false h2)
    have e3 : sqt (rN m e) * sqt (rN m e) = rN m e := by omega
    rw [e3, hrn]
    omega
  · intro h
    have e1 : nu m e % de 1 e = 0 := by rw [h]; exact Nat.mul_mod_right _ _
    have e2 : rN m e = sqt (rN m e) * sqt (rN m e) := by
      have : nu m e / de 1 e = sqt (rN m e) * sqt (rN m e) := by
        rw [Nat.div_eq_iff_eq_mul_left hd ⟨_, h⟩, Nat.mul_comm]; exact h
      rw [← hrn] at this
      exact this
    exact ⟨decide_eq_false (fun w => w e1), decide_eq_false (fun w => w (by omega))⟩
theorem sq_low {N j : Nat} : sqt (N / (10 ^ j * 10 ^ j)) = sqt N / 10 ^ j := by
  have hp := p10_pos j
  have h1 := sqt_le N
  have h2 := sqt_lt N
  obtain ⟨B, hB⟩ : ∃ B, 10 ^ j = B := ⟨_, rfl⟩
  obtain ⟨Q, hQ⟩ : ∃ Q, sqt N = Q := ⟨_, rfl⟩
  rw [hB] at hp ⊢
  rw [hQ] at h1 h2 ⊢
  have d1 := Nat.div_mul_le_self Q B
  have d2 : Q + 1 ≤ (Q / B + 1) * B := by
    have h3 := Nat.div_add_mod Q B
    have h4 := Nat.mod_lt Q hp
    rw [Nat.add_mul, Nat.one_mul, Nat.mul_comm (Q / B) B]
    omega
  refine sqt_eq ?_ ?_
  · rw [Nat.le_div_iff_mul_le (Nat.mul_pos hp hp)]
    have := Nat.mul_le_mul d1 d1
    have e : Q / B * (Q / B) * (B * B) = Q / B * B * (Q / B * B) := by grind
    rw [e]
    omega
  · rw [Nat.div_lt_iff_lt_mul (Nat.mul_pos hp hp)]
    have := Nat.mul_le_mul d2 d2
    have e : (Q / B + 1) * (Q / B + 1) * (B * B) = (Q / B + 1) * B * ((Q / B + 1) * B) := by grind
    rw [e]
    omega
theorem root_low {m j : Nat} {e : Int} : sqt (rN m (e + 2 * j)) / 10 ^ j = sqt (rN m e) ∧ rM m e = (decide (sqt (rN m (e + 2 * j)) % 10 ^ j ≠ 0) || rM m (e + 2 * j)) := by
  obtain ⟨u, hu⟩ : ∃ u, e + 2 * (j : Int) = u := ⟨_, rfl⟩
  rw [hu]
  obtain ⟨cc, hc⟩ : ∃ cc, u.toNat - e.toNat = cc := ⟨_, rfl⟩
  have e1 : nu m u = 10 ^ cc * nu m e := by
    unfold nu
    rw [Nat.mul_comm (10 ^ cc), Nat.mul_assoc, ← Nat.pow_add]
    congr 2
    omega
  have e2 : de 1 u * (10 ^ j * 10 ^ j) = 10 ^ cc * de 1 e := by
    unfold de
    rw [Nat.one_mul, Nat.one_mul, ← Nat.pow_add, ← Nat.pow_add, ← Nat.pow_add]
    congr 1
    omega
  have hN : rN m e = rN m u / (10 ^ j * 10 ^ j) := by
    unfold rN
    rw [Nat.div_div_eq_div_mul, e2, e1, Nat.mul_div_mul_left _ _ (p10_pos cc)]
  have hq : sqt (rN m u) / 10 ^ j = sqt (rN m e) := by rw [hN, sq_low]
  refine ⟨hq, ?_⟩
  have hiff : rM m e = false ↔ (sqt (rN m u) % 10 ^ j = 0 ∧ rM m u = false) := by
    rw [rM_f, rM_f]
    have hdu : 0 < de 1 u := de_pos (by decide)
    have hcc := p10_pos cc
    have hdm := Nat.div_add_mod (sqt (rN m u)) (10 ^ j)
    rw [hq] at hdm
    constructor
    · intro h
      have x1 : nu m u = de 1 u * (10 ^ j * sqt (rN m e) * (10 ^ j * sqt (rN m e))) := by
        rw [e1, h, ← Nat.mul_assoc, ← e2]
        grind
      have x2 : rN m u = 10 ^ j * sqt (rN m e) * (10 ^ j * sqt (rN m e)) := by
        have : nu m u / de 1 u = 10 ^ j * sqt (rN m e) * (10 ^ j * sqt (rN m e)) := by
          rw [Nat.div_eq_iff_eq_mul_left hdu ⟨_, x1⟩, Nat.mul_comm]; exact x1
        exact this
      have x3 : sqt (rN m u) = 10 ^ j * sqt (rN m e) := by
        rw [x2]
        refine sqt_eq (Nat.le_refl _) ?_
        generalize 10 ^ j * sqt (rN m e) = y
        grind
      refine ⟨by rw [x3]; exact Nat.mul_mod_right _ _, ?_⟩
      rw [x3]; exact x1
    · rintro ⟨h1, h2⟩
      rw [h1, Nat.add_zero] at hdm
      rw [← hdm] at h2
      have x1 : 10 ^ cc * nu m e = 10 ^ cc * (de 1 e * (sqt (rN m e) * sqt (rN m e))) := by
        rw [← e1, h2, ← Nat.mul_assoc (10 ^ cc), ← e2]
        grind
      exact Nat.eq_of_mul_eq_mul_left hcc x1
  cases hm : rM m e with
  | false =>
    obtain ⟨h1, h2⟩ := hiff.mp hm
    rw [h1, h2]; rfl
  | true =>
    symm
    rw [Bool.or_eq_true]
    by_cases h1 : sqt (rN m u) % 10 ^ j = 0
    · right
      cases h2 : rM m u with
      | true => rfl
      | false =>
        have := hiff.mpr ⟨h1, h2⟩
        rw [this] at hm; cases hm
    · left; exact decide_eq_true h1
theorem par_i {a b : Int} : (iZ a ^^^ iZ b) &&& 1 = 0 ↔ (a - b) % 2 = 0 := by
  have key : ∀ z : Int, (iZ z).toBitVec.toNat % 2 = (z % 2).toNat := fun z => by
    have : (iZ z).toBitVec.toNat = (z % 4294967296).toNat := by
      show (BitVec.ofInt 32 z).toNat = _
      rw [BitVec.toNat_ofInt]
      rfl
    rw [this]
    omega
  have h0 : ((iZ a ^^^ iZ b) &&& 1 = 0) ↔ ((iZ a ^^^ iZ b) &&& 1).toBitVec.toNat = 0 := by
    constructor
    · intro h; rw [h]; rfl
    · intro h
      apply Int32.toBitVec_inj.mp
      apply BitVec.eq_of_toNat_eq
      rw [h]; rfl
  rw [h0, Int32.toBitVec_and, Int32.toBitVec_xor, BitVec.toNat_and, BitVec.toNat_xor]
  have e1 : (1 : Int32).toBitVec.toNat = 1 := rfl
  rw [e1, Nat.and_one_is_mod]
  have hx := Nat.xor_mod_two_pow (a := (iZ a).toBitVec.toNat) (b := (iZ b).toBitVec.toNat) (n := 1)
  rw [Nat.pow_one, key a, key b] at hx
  rw [hx]
  have ha : a % 2 = 0 ∨ a % 2 = 1 := by omega
  have hb : b % 2 = 0 ∨ b % 2 = 1 := by omega
  rcases ha with ha | ha <;> rcases hb with hb | hb <;> rw [ha, hb]
  · exact ⟨fun _ => by omega, fun _ => rfl⟩
  · exact ⟨fun w => absurd w (by decide), fun w => by omega⟩
  · exact ⟨fun w => absurd w (by decide), fun w => by omega⟩
  · exact ⟨fun _ => by omega, fun _ => rfl⟩
section C6
variable {t : Nat} {σ : St} {L c V : Nat → Nat} {A : AS} {T W : TS}
theorem t_croot {d a p how : Int32} (h : CI t σ L c V A T W) : Cc t σ L c (f_X5_root σ t d a p how) (sRoot A d a p how) T W := by
  unfold sRoot
  rw [onR_sw]
  unfold f_X5_root
  refine e_ob h.t5 ?_
  rcases cis_or (σ := σ) a with ⟨j, hj, rfl, e1⟩ | ⟨e1, e2⟩
  · rw [onR_y hj, onR_if]
    refine e_b1 e1 (e_f (by decide) ?_)
    have hb := h.ok j hj
    rcases cpr (σ := σ) p with ⟨q, hq, rfl, ep, p1, p2⟩ | ⟨ep, np⟩
    · refine e_b1 ep (e_f (by decide) ?_)
      rcases Nat.eq_zero_or_pos q with hq0 | hq0
      · subst hq0
        exact cc_R ((if_neg (fun w => absurd w.1.1 (by decide))).trans onR_0) (e_t rfl (cc_no h))
      · refine e_f (nI_ne0 hq0 (by omega)) ?_
        rcases crn (σ := σ) how with ⟨w, hw, rfl, eh, w1, w2⟩ | ⟨eh, nh⟩
        · refine e_b1 eh (e_f (by decide) ?_)
          rw [nI_clamp (by omega), nI_clamp (by omega)]
          refine e_b1 h.g0 (e_b1 (h.gr hj rfl) (e_b1 (h.d1 hj) ?_))
          cases hneg : A.2.1 j with
          | true =>
            exact cc_R ((if_neg (fun w => by cases w.2.2)).trans onR_0) (e_f (by decide) (cc_no h))
          | false =>
            refine cc_R (if_pos ⟨⟨nI_lt (a := 0) hq0 (by omega), p2⟩, ⟨w1, w2⟩, rfl⟩) (e_t rfl ?_)
            rw [onR_if]
            refine e_b1 (h.d2 hj) (e_b1 (dviZ (b := 2) rfl rfl hb.2.1 hb.2.2.1 (by decide) (by decide)) ?_)
            have htd : -2147483648 ≤ (A.2.2 j).tdiv 2 ∧ (A.2.2 j).tdiv 2 < 2147483648 := by
              have h1 : ((A.2.2 j).tdiv 2).natAbs ≤ (A.2.2 j).natAbs := by rw [Int.natAbs_tdiv]; exact Nat.div_le_self _ _
              have h2 : (A.2.2 j).tdiv 2 ≠ 2147483648 := fun w => by
                have h3 := Int.natAbs_tdiv (A.2.2 j) 2
                rw [w] at h3
                have h4 : (A.2.2 j).natAbs / 2 = 2147483648 := h3.symm
                omega
              generalize (A.2.2 j).tdiv 2 = z at *
              omega
            obtain ⟨z, hz⟩ : ∃ z, (A.2.2 j).tdiv 2 = z := ⟨_, rfl⟩
            rw [hz] at htd ⊢
            have elt : (iZ z : Int32).toInt64 = lZ z := iZ_l (by omega) (by omega)
            refine e_b1 (h.d0 hj) (e_b1 (t_isZero (h.nr hj)) ?_)
            by_cases hj0 : A.1 j = 0
            · rw [if_pos hj0, if_pos hj0]
              refine e_f (by decide) (e_b1 (h.d0 hj) ?_)
              have := t_ckeep (d := d) (m := j) (n := false) (z := z) (i3 := 0) h (by omega) rfl rfl elt (by omega) (by omega)
              rw [h.rv hj, hj0] at this
              exact cc_rt this isB_kD
            · rw [if_neg hj0, if_neg hj0]
              have gj : 0 < A.1 j := by omega
              have sj := sz_pos gj
              have nj : nd (A.1 j) = sz (A.1 j) := by rw [nd_sz, if_neg hj0]
              refine e_t rfl ?_
              refine e_b1 (dvI_eq (b := 9) rfl rfl (by omega) (by decide) (by decide)) ?_
              obtain ⟨rl, hrl⟩ : ∃ rl, q / 9 + 1 = rl := ⟨_, rfl⟩
              refine e_le (x := nI rl) (by rw [nI_1, hrl]) ?_
              refine e_b1 (h.d0 hj) (e_b1 (t_digitCount h.tn (h.nr hj)) ?_)
              refine e_le (x := iZ (18 * (rl : Int) - sz (A.1 j))) (by rw [nj, show (18 : Int32) = iZ 18 from rfl, iZ_n, iZ_n, iZ_mul, iZ_sub]) ?_
              refine e_b1 (h.d2 hj) ?_
              obtain ⟨S, hS⟩ : ∃ S, rS (A.1 j) q (A.2.2 j) = S := ⟨_, rfl⟩
              rw [hS]
              obtain ⟨e, he⟩ : ∃ e, 2 * S - A.2.2 j = e := ⟨_, rfl⟩
              rw [he]
              unfold rS at hS
              refine e_jn (fun z17 => ∃ up : Int, z17 = iZ up ∧ (A.2.2 j - up) % 2 = 0 ∧ (up = 18 * (rl : Int) - sz (A.1 j) ∨ up = 18 * (rl : Int) - sz (A.1 j) - 1)) ?_ ?_
              · rintro z17 ⟨up, rfl, hpar, hup⟩
                obtain ⟨jj, hjj⟩ : ∃ jj : Nat, up = e + 2 * jj := ⟨((up - e) / 2).toNat, by omega⟩
                have hjd : jj + 1 = 9 * rl - q := by omega
                have hNsz : sz (rN (A.1 j) up) = (sz (A.1 j) + up).toNat := by
                  unfold rN de
                  rw [Nat.one_mul, sz_div, nu_sz gj]
                  omega
                have hN0 : 0 < rN (A.1 j) up := Nat.pos_of_ne_zero fun w => by rw [w, sz_0] at hNsz; omega
                have hN1 : 10 ^ (18 * rl - 2) ≤ rN (A.1 j) up := Nat.le_trans (p10_le (by omega)) (sz_ge hN0)
                have hN2 : rN (A.1 j) up < 10 ^ (18 * rl) := Nat.lt_of_lt_of_le (sz_lt _) (p10_le (by omega))
                have hQsz : sz (sqt (rN (A.1 j) up)) = 9 * rl := by
                  have a1 := sqt_le (rN (A.1 j) up)
                  have a2 := sqt_lt (rN (A.1 j) up)
                  have b1 : 10 ^ (18 * rl - 2) = 10 ^ (9 * rl - 1) * 10 ^ (9 * rl - 1) := by rw [← Nat.pow_add]; congr 1; omega
                  have b2 : 10 ^ (18 * rl) = 10 ^ (9 * rl) * 10 ^ (9 * rl) := by rw [← Nat.pow_add]; congr 1; omega
                  rw [b1] at hN1
                  rw [b2] at hN2
                  refine sz_eq (by omega) ?_ ?_
                  · refine Nat.not_le.mp fun w => ?_
                    have := Nat.mul_le_mul w w
                    omega
                  · refine Nat.not_lt.mp fun w => ?_
                    have := Nat.mul_le_mul w w
                    rw [Nat.succ_eq_add_one] at this
                    omega
                have fin : ∀ (σ1 : St) (L1 c1 V1 : Nat → Nat) (mb : Bool) (zb : Int32), CI t σ1 L1 c1 V1 A T W → V1 8 = rN (A.1 j) up → mb = decide (nu (A.1 j) up % de 1 up ≠ 0) → zb = bI mb → Cc t σ1 L1 c1 ((gR σ1 5 t 1).bind fun r19 => (gR σ1 5 t 2).bind fun r20 => (gR σ1 5 t 3).bind fun r21 => bd (f_X2_takeRoot σ1 r19 r20 r21) fun _ σ22 => jn (fun (z23 : Int32) => ((gI σ22 0 (dA t j) 2).bind fun x24 => (dvL (((x24 : Int32).toInt64) + ((iZ up : Int32).toInt64)) 2).bind fun l25 => bd (f_X5_settle σ22 t d 0 l25 z23 ((iZ z : Int32).toInt64) (nI q) (nI w)) fun x26 σ27 => (isB x26).bind fun _ => some (x26, σ27, 0, 0))) fun k23 => jn (fun (z28 : Unit) => (k23 1)) fun k28 => if zb = 0 then ((gR σ22 5 t 1).bind fun r29 => (f_X2_isZero σ22 r29).bind fun x30 => if x30 = 0 then (k28 ()) else k23 0) else k28 ()) (onR d A fun i => fin2 i (sqt (rN (A.1 j) e) / 10) (lostc (sqt (rN (A.1 j) e) % 10) 10 (rM (A.1 j) e)) w false (S - 1) z q A) T W := by
                  intro σ1 L1 c1 V1 mb zb h1 hv8 hmb hzb
                  subst hzb
                  refine e_b1 h1.g1 (e_b1 h1.g2 (e_b1 h1.g3 ?_))
                  have v8 := h1.nv (i := 8) (by decide)
                  rw [hv8] at v8
                  have tr := t_takeRoot (n := rl) h1.dm v8 (h1.nv (i := 9) (by decide)) (h1.nv (i := 10) (by decide)) (nA_inj (by decide) (by decide) (by decide)) (nA_inj (by decide) (by decide) (by decide)) (nA_inj (by decide) (by decide) (by decide)) (h1.inj (by decide) (by decide) (by decide)) (h1.inj (by decide) (by decide) (by decide)) (h1.inj (by decide) (by decide) (by decide)) (by omega) (by omega) hN1 hN2
                  have cw : Cw t σ1 L1 c1 A T W (f_X2_takeRoot σ1 (nA t 8) (nA t 9) (nA t 10)) (fun _ V' => V' = upA (upA (upA V1 8 (rN (A.1 j) up - sqt (rN (A.1 j) up) * sqt (rN (A.1 j) up))) 9 (sqt (rN (A.1 j) up))) 10 0) := by
                    refine e_im tr (fun r σ2 k' s' hP => ?_)
                    obtain ⟨L', c', g1, g2⟩ := h1.p3 hP
                    exact ⟨L', c', _, g1, g2, rfl⟩
                  refine cw_bd cw ?_
                  rintro r σ2 L2 c2 V2 h2 rfl
                  have v8' := h2.nv (i := 8) (by decide)
                  rw [upA_n (by decide), upA_n (by decide), upA_s] at v8'
                  have v9 : upA (upA (upA V1 8 (rN (A.1 j) up - sqt (rN (A.1 j) up) * sqt (rN (A.1 j) up))) 9 (sqt (rN (A.1 j) up))) 10 0 9 = sqt (rN (A.1 j) up) := by rw [upA_n (by decide), upA_s]
                  refine e_jn (fun z23 => z23 = bI (rM (A.1 j) up)) ?_ ?_
                  · intro z23 hz23
                    subst hz23
                    refine e_b1 (h2.d2 hj) ?_
                    obtain ⟨S', hS'⟩ : ∃ S' : Int, A.2.2 j + up = 2 * S' := ⟨(A.2.2 j + up) / 2, by omega⟩
                    have hdv : dvL ((iZ (A.2.2 j)).toInt64 + (iZ up).toInt64) 2 = some (lZ S') := by
                      refine (dvZ (a := 2 * S') (b := 2) (by rw [iZ_l hb.2.1 hb.2.2.1, iZ_l (by omega) (by omega), lZ_add, hS']) rfl (by omega) (by omega) (by decide) (by decide)).trans ?_
                      rw [Int.mul_tdiv_cancel_left _ (by decide)]
                    refine e_b1 hdv ?_
                    have := t_csettle (d := d) (n := false) (more := rM (A.1 j) up) (s := S') (z := z) (p := q) (how := w) (i2 := 0) (j6 := (iZ z : Int32).toInt64) h2 rfl rfl rfl elt rfl rfl hw hq0 (by rw [v9]; omega) (by rw [v9]; omega) (by omega) (by omega) (by omega) (by omega)
                    rw [v9, hQsz, ← hjd] at this
                    obtain ⟨r1, r2⟩ := root_low (m := A.1 j) (j := jj) (e := e)
                    rw [← hjj] at r1 r2
                    have x1 : sqt (rN (A.1 j) up) / 10 ^ (jj + 1) = sqt (rN (A.1 j) e) / 10 := by
                      rw [Nat.pow_succ, ← Nat.div_div_eq_div_mul, r1]
                    have x2 : lostc (sqt (rN (A.1 j) up) % 10 ^ (jj + 1)) (10 ^ (jj + 1)) (rM (A.1 j) up) = lostc (sqt (rN (A.1 j) e) % 10) 10 (rM (A.1 j) e) := by
                      rw [Nat.pow_succ, lost_comp (p10_pos jj) (by decide) (by decide), r1, r2]
                    rw [x1, x2, show S' - ((jj + 1 : Nat) : Int) = S - 1 by omega] at this
                    exact cc_rt this isB_f2
                  · intro k23 hk23
                    have hrm : rM (A.1 j) up = (mb || decide (rN (A.1 j) up - sqt (rN (A.1 j) up) * sqt (rN (A.1 j) up) ≠ 0)) := by unfold rM; rw [hmb]
                    refine e_jq ?_
                    cases mb with
                    | true => exact e_f (by decide) (hk23 _ (by rw [hrm]; rfl))
                    | false =>
                      refine e_t rfl (e_b1 h2.g1 (e_b1 (t_isZero v8') ?_))
                      by_cases hr0 : rN (A.1 j) up - sqt (rN (A.1 j) up) * sqt (rN (A.1 j) up) = 0
                      · refine e_f (by rw [if_pos hr0]; decide) (hk23 _ ?_)
                        rw [hrm, hr0]; rfl
                      · refine e_t (by rw [if_neg hr0]) (hk23 _ ?_)
                        rw [hrm, decide_eq_true hr0]; rfl
                refine e_jq ?_
                by_cases hlt : up < 0
                · refine e_t ((iZ_lt (b := 0) (by omega) (by omega) (by omega) (by omega)).mpr hlt) ?_
                  refine e_b1 h.g1 (e_b1 (h.d0 hj) ?_)
                  refine cw_bd (cw_p1 h (by decide) (by decide) (t_become h.dm (h.nv (by decide)) (h.nr hj) (fun w => h.inj (by decide) (by omega) (by omega)) (fun w => absurd w (nA_inj (by decide) (by omega) (by omega))) (Em_ge (by omega)))) ?_
                  rintro r σ1 L1 c1 V1 h1 rfl
                  refine e_b1 h1.g1 ?_
                  have v8 := h1.nv (i := 8) (by decide)
                  rw [upA_s] at v8
                  have cw1 : Cw t σ1 L1 c1 A T W (f_X2_cut σ1 (nA t 8) (-iZ up) 0) (fun r V' => r = nI (lostc (A.1 j % 10 ^ (-up).toNat) (10 ^ (-up).toNat) false) ∧ V' = upA V 8 (A.1 j / 10 ^ (-up).toNat)) := by
                    refine e_im (t_cut (k := (-up).toNat) (more := false) h1.tn v8 (by rw [iZ_neg, iZ_nat (by omega)]) (by omega)) ?_
                    rintro r σ2 kc sc ⟨q1, q2⟩
                    obtain ⟨L', c', g1, g2⟩ := h1.p1 (by decide) (by decide) q2
                    rw [upA_u] at g1
                    exact ⟨L', c', _, g1, g2, q1, rfl⟩
                  refine cw_bd cw1 ?_
                  rintro r σ2 L2 c2 V2 h2 ⟨rfl, rfl⟩
                  have e1' : nu (A.1 j) up = A.1 j := by unfold nu; rw [show up.toNat = 0 by omega, Nat.pow_zero, Nat.mul_one]
                  have e2' : de 1 up = 10 ^ (-up).toNat := by unfold de; rw [Nat.one_mul]
                  have v8' : upA V 8 (A.1 j / 10 ^ (-up).toNat) 8 = rN (A.1 j) up := by rw [upA_s]; unfold rN; rw [e1', e2']
                  refine e_jq ?_
                  have hl4 := lost_lt (A.1 j % 10 ^ (-up).toNat) (10 ^ (-up).toNat) false
                  by_cases hl : A.1 j % 10 ^ (-up).toNat = 0
                  · refine e_t (by rw [hl, lost_0 (p10_pos _)]; rfl) ?_
                    exact fin σ2 L2 c2 _ false 0 h2 v8' (by rw [e1', e2', hl]; rfl) rfl
                  · have hlost : lostc (A.1 j % 10 ^ (-up).toNat) (10 ^ (-up).toNat) false ≠ 0 := fun z => hl ((lost_z (p10_pos _)).mp z).1
                    refine e_f (nI_ne0 (by omega) (by omega)) ?_
                    exact fin σ2 L2 c2 _ true 1 h2 v8' (by rw [e1', e2', decide_eq_true hl]) rfl
                · refine e_f (fun w => hlt ((iZ_lt (b := 0) (by omega) (by omega) (by omega) (by omega)).mp w)) ?_
                  refine e_b1 h.g1 (e_b1 (h.d0 hj) ?_)
                  have hszu : sz (A.1 j * 10 ^ up.toNat) = sz (A.1 j) + up.toNat := sz_mul gj
                  refine cw_bd (cw_p1 h (by decide) (by decide) (t_raise (k := up.toNat) h.dm h.tn (h.nv (by decide)) (h.nr hj) (fun w => h.inj (by decide) (by omega) (by omega)) (fun w => absurd w (nA_inj (by decide) (by omega) (by omega))) (by rw [iZ_nat (by omega)]) (by omega) (Em_ge (by omega)))) ?_
                  rintro r σ1 L1 c1 V1 h1 rfl
                  have e2' : de 1 up = 1 := by unfold de; rw [show (-up).toNat = 0 by omega, Nat.pow_zero]
                  refine fin σ1 L1 c1 _ false 0 h1 ?_ (by rw [e2', Nat.mod_one]; rfl) rfl
                  rw [upA_s]
                  unfold rN
                  rw [e2', Nat.div_one]
                  rfl
              · intro k17 hk17
                by_cases hp : (A.2.2 j - (18 * (rl : Int) - sz (A.1 j))) % 2 = 0
                · exact e_t (par_i.mpr hp) (hk17 _ ⟨_, rfl, hp, Or.inl rfl⟩)
                · refine e_f (fun w => hp (par_i.mp w)) ?_
                  refine e_le (x := iZ (18 * (rl : Int) - sz (A.1 j) - 1)) (by rw [← Int32.sub_eq_add_neg, show (1 : Int32) = iZ 1 from rfl, iZ_sub]) ?_
                  exact hk17 _ ⟨_, rfl, by omega, Or.inr rfl⟩
        · exact cc_R ((if_neg (fun w => nh w.2.1)).trans onR_0) (e_b1 eh (e_t rfl (cc_no h)))
    · exact cc_R ((if_neg (fun w => np ⟨Int32.le_of_lt w.1.1, w.1.2⟩)).trans onR_0) (e_b1 ep (e_t rfl (cc_no h)))
  · rw [onR_n e2]
    exact e_b1 e1 (e_t rfl (cc_no h))
end C6
