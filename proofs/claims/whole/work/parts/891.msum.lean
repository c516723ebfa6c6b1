/-! ===== sums of the reference ===== -/
theorem kp_cg {d m m' : Nat} {n n' : Bool} {s s' : Int} {A : AS} (h : m = m') (h2 : 0 < m → n = n') (hs : s = s') : kpA d m n s A = kpA d m' n' s' A := by
  subst h hs
  rcases Nat.eq_zero_or_pos m with w | w
  · subst w
    unfold kpA setA
    rw [decide_eq_false (by omega), Bool.and_false, Bool.and_false]
  · rw [h2 w]
theorem sum_big {x y : Nat} {p q : Bool} (hx : 10 ^ 4100 ≤ x) (hy : y < 10 ^ 4096) : ¬ sz (sgd x p + sgd y q).natAbs ≤ 4096 := by
  rw [sz_le]
  rw [show (10 : Nat) ^ 4100 = 10000 * 10 ^ 4096 by rw [show 4100 = 4096 + 4 from rfl, Nat.pow_add, Nat.mul_comm]] at hx
  generalize 10 ^ 4096 = B at *
  unfold sgd
  cases p <;> cases q <;> simp only [if_true, if_false, Bool.false_eq_true] <;> omega
theorem sg_m1 {m : Nat} {n sub : Bool} : (if sub then (-1 : Int32) else 1) * sg m n = sg m (xor n sub) := by
  unfold sg
  by_cases h : m = 0
  · rw [if_pos h, if_pos h, Int32.mul_zero]
  · rw [if_neg h, if_neg h]
    cases sub <;> cases n <;> rfl
theorem sg_lt {m : Nat} {n : Bool} : sg m n < 0 ↔ 0 < m ∧ n = true := by
  unfold sg
  by_cases h : m = 0
  · rw [if_pos h]
    exact ⟨fun w => absurd w (by decide), fun w => by omega⟩
  · rw [if_neg h]
    cases n
    · exact ⟨fun w => absurd w (by decide), fun w => by cases w.2⟩
    · exact ⟨fun _ => ⟨by omega, rfl⟩, fun _ => by decide⟩
theorem sg_0 {m : Nat} {n : Bool} : sg m n = 0 ↔ m = 0 := by
  unfold sg
  by_cases h : m = 0
  · rw [if_pos h]; exact ⟨fun _ => h, fun _ => rfl⟩
  · rw [if_neg h]
    cases n <;> exact ⟨fun w => absurd w (by decide), fun w => absurd w h⟩
section MSum
variable {σ : St} {o : Nat} {X : Nat → Nat → Int32} {A : AS}
theorem t_msum {d a b i4 : Int32} {sub : Bool} (h4 : i4 = if sub then -1 else 1) (h : RG X A) : Mo σ o X (f_X6_sum (mst σ o X) o d a b i4) (sSum A d a b sub) := by
  unfold f_X6_sum sSum
  refine mo_ob ?_
  refine q_is (P := fun e => Mo σ o X e _) (fun hn => by rw [onR_n hn]; exact Mo.no h rfl) (fun i hi hx => ?_)
  subst hx
  rw [onR_y hi]
  refine q_is (P := fun e => Mo σ o X e _) (fun hn => by rw [onR_n hn]; exact Mo.no h rfl) (fun j hj hx => ?_)
  subst hx
  rw [onR_y hj]
  refine q_is (P := fun e => Mo σ o X e _) (fun hn => by rw [onR_n hn]; exact Mo.no h rfl) (fun k hk hx => ?_)
  subst hx
  rw [onR_y hk]
  obtain ⟨c0, c1, c2, c3⟩ := h.1 j hj
  obtain ⟨k0, k1, k2, k3⟩ := h.1 k hk
  obtain ⟨t, ht⟩ : ∃ t, max (A.2.2 j) (A.2.2 k) = t := ⟨_, rfl⟩
  have body : ∀ z8 : Int32, z8 = iZ t → Mo σ o X ((gR (mst σ o X) 6 o 3).bind fun r9 =>
      (ldI (mst σ o X) r9 (nI j)).bind fun x10 =>
      lt (((z8 : Int32).toInt64) - ((x10 : Int32).toInt64)) fun l11 =>
      (gR (mst σ o X) 6 o 3).bind fun r12 =>
      (ldI (mst σ o X) r12 (nI k)).bind fun x13 =>
      lt (((z8 : Int32).toInt64) - ((x13 : Int32).toInt64)) fun l14 =>
      (gR (mst σ o X) 6 o 1).bind fun r15 =>
      (ldI (mst σ o X) r15 (nI j)).bind fun x16 =>
      jn (fun (z17 : Unit) => (
        (gR (mst σ o X) 6 o 1).bind fun r18 =>
        (ldI (mst σ o X) r18 (nI k)).bind fun x19 =>
        jn (fun (z20 : Unit) => (
          bd (f_X6_load (mst σ o X) o 0 (nI j)) fun _ σ21 =>
          bd (f_X6_load σ21 o 1 (nI k)) fun _ σ22 =>
          (gR σ22 6 o 5).bind fun r23 =>
          (ldI σ22 r23 0).bind fun x24 =>
          jn (fun (z25 : St) => (
            (gR z25 6 o 5).bind fun r26 =>
            (ldI z25 r26 1).bind fun x27 =>
            jn (fun (z28 : St) => (
              (gR z28 6 o 2).bind fun r29 =>
              (ldI z28 r29 (nI j)).bind fun x30 =>
              (gR z28 6 o 2).bind fun r31 =>
              (ldI z28 r31 (nI k)).bind fun x32 =>
              lt (i4 * x32) fun x33 =>
              if (x30 * x33) < 0 then (
                (f_X6_compareRows z28 o 0 1).bind fun x34 =>
                if x34 < 0 then (
                  bd (f_X6_less z28 o 1 0) fun _ σ35 =>
                  bd (f_X6_store σ35 o (nI i) 1 x33 ((z8 : Int32).toInt64)) fun x36 σ37 =>
                  (isB x36).bind fun _ => some (x36, σ37, 0, 0)
                  ) else
                bd (f_X6_less z28 o 0 1) fun _ σ38 =>
                bd (f_X6_store σ38 o (nI i) 0 x30 ((z8 : Int32).toInt64)) fun x39 σ40 =>
                (isB x39).bind fun _ => some (x39, σ40, 0, 0)
                ) else
              bd (f_X6_plus z28 o 0 1) fun _ σ41 =>
              jn (fun (z42 : Int32) => (
                bd (f_X6_store σ41 o (nI i) 0 z42 ((z8 : Int32).toInt64)) fun x43 σ44 =>
                (isB x43).bind fun _ => some (x43, σ44, 0, 0)
                )) fun k42 =>
              if x30 = 0 then (
                k42 x33
                ) else
              k42 x30
              )) fun k28 =>
            if x27 ≤ 0 then (
              k28 z25
              ) else
            bd (f_X6_raise z25 o 1 ((l14 : Int64).toInt32)) fun _ σ45 =>
            k28 σ45
            )) fun k25 =>
          if x24 ≤ 0 then (
            k25 σ22
            ) else
          bd (f_X6_raise σ22 o 0 ((l11 : Int64).toInt32)) fun _ σ46 =>
          k25 σ46
          )) fun k20 =>
        if x19 ≤ 0 then (
          k20 ()
          ) else
        (gR (mst σ o X) 6 o 1).bind fun r47 =>
        (ldI (mst σ o X) r47 (nI k)).bind fun x48 =>
        if (((x48 : Int32).toInt64) + l14) ≤ 4100 then (
          k20 ()
          ) else
        (isB 0).bind fun _ => some (0, (mst σ o X), 0, 0)
        )) fun k17 =>
      if x16 ≤ 0 then (
        k17 ()
        ) else
      (gR (mst σ o X) 6 o 1).bind fun r49 =>
      (ldI (mst σ o X) r49 (nI j)).bind fun x50 =>
      if 4100 < (((x50 : Int32).toInt64) + l11) then (
        (isB 0).bind fun _ => some (0, (mst σ o X), 0, 0)
        ) else
      k17 ()) (kpA i (smZ A j k sub).natAbs (decide (smZ A j k sub < 0)) t A) := by
    intro z8 h8
    subst h8
    have hz8 : (iZ t : Int32).toInt64 = lZ t := iZ_l (by omega) (by omega)
    obtain ⟨u, hu⟩ : ∃ u, t - A.2.2 j = u := ⟨_, rfl⟩
    obtain ⟨v, hv⟩ : ∃ v, t - A.2.2 k = v := ⟨_, rfl⟩
    have hu0 : 0 ≤ u := by omega
    have hv0 : 0 ≤ v := by omega
    have huv : u = 0 ∨ v = 0 := by omega
    have hZ : smZ A j k sub = sgd (A.1 j * 10 ^ u.toNat) (A.2.1 j) + sgd (A.1 k * 10 ^ v.toNat) (xor (A.2.1 k) sub) := by
      unfold smZ
      rw [ht, hu, hv]
    have yj : X 2 j = nI (sz (A.1 j)) := (h.2 j hj).1
    have yk : X 2 k = nI (sz (A.1 k)) := (h.2 k hk).1
    refine mo_b1 m_g3 (mo_b1 (ld4 rfl hj) (mo_le (y := lZ u) (by rw [scl_r h hj, hz8, lZ_sub, hu]) ?_))
    refine mo_b1 m_g3 (mo_b1 (ld4 rfl hk) (mo_le (y := lZ v) (by rw [scl_r h hk, hz8, lZ_sub, hv]) ?_))
    refine mo_b1 m_g1 (mo_b1 (ld2 rfl hj) (mo_jn ?_))
    rw [yj]
    -- the work itself
    have work : (A.1 j = 0 ∨ sz (A.1 j) + u ≤ 4100) → (A.1 k = 0 ∨ sz (A.1 k) + v ≤ 4100) → Mo σ o X (bd (f_X6_load (mst σ o X) o 0 (nI j)) fun _ σ21 =>
          bd (f_X6_load σ21 o 1 (nI k)) fun _ σ22 =>
          (gR σ22 6 o 5).bind fun r23 =>
          (ldI σ22 r23 0).bind fun x24 =>
          jn (fun (z25 : St) => (
            (gR z25 6 o 5).bind fun r26 =>
            (ldI z25 r26 1).bind fun x27 =>
            jn (fun (z28 : St) => (
              (gR z28 6 o 2).bind fun r29 =>
              (ldI z28 r29 (nI j)).bind fun x30 =>
              (gR z28 6 o 2).bind fun r31 =>
              (ldI z28 r31 (nI k)).bind fun x32 =>
              lt (i4 * x32) fun x33 =>
              if (x30 * x33) < 0 then (
                (f_X6_compareRows z28 o 0 1).bind fun x34 =>
                if x34 < 0 then (
                  bd (f_X6_less z28 o 1 0) fun _ σ35 =>
                  bd (f_X6_store σ35 o (nI i) 1 x33 ((iZ t : Int32).toInt64)) fun x36 σ37 =>
                  (isB x36).bind fun _ => some (x36, σ37, 0, 0)
                  ) else
                bd (f_X6_less z28 o 0 1) fun _ σ38 =>
                bd (f_X6_store σ38 o (nI i) 0 x30 ((iZ t : Int32).toInt64)) fun x39 σ40 =>
                (isB x39).bind fun _ => some (x39, σ40, 0, 0)
                ) else
              bd (f_X6_plus z28 o 0 1) fun _ σ41 =>
              jn (fun (z42 : Int32) => (
                bd (f_X6_store σ41 o (nI i) 0 z42 ((iZ t : Int32).toInt64)) fun x43 σ44 =>
                (isB x43).bind fun _ => some (x43, σ44, 0, 0)
                )) fun k42 =>
              if x30 = 0 then (
                k42 x33
                ) else
              k42 x30
              )) fun k28 =>
            if x27 ≤ 0 then (
              k28 z25
              ) else
            bd (f_X6_raise z25 o 1 ((lZ v : Int64).toInt32)) fun _ σ45 =>
            k28 σ45
            )) fun k25 =>
          if x24 ≤ 0 then (
            k25 σ22
            ) else
          bd (f_X6_raise σ22 o 0 ((lZ u : Int64).toInt32)) fun _ σ46 =>
          k25 σ46) (kpA i (smZ A j k sub).natAbs (decide (smZ A j k sub < 0)) t A) := by
      intro w1 w2
      obtain ⟨X1, a1, a2, a3, a4⟩ := t_mload (σ := σ) (o := o) (r := 0) (u := 0) (by decide) hj rfl rfl h
      obtain ⟨X2, b1, b2, b3, b4⟩ := t_mload (σ := σ) (o := o) (r := 1) (u := 1) (by decide) hk rfl rfl (h.ot a3)
      have h2 := (h.ot a3).ot b3
      have r0 : Rw X2 0 (A.1 j) := a2.ot b3 (by decide) (by decide)
      have pre : ldI (mst σ o X2) (o + 6) 0 = some (nI (sz (A.1 j))) := (ld6 (i := 0) rfl (by decide)).trans (by rw [r0.2.1])
      refine mo_bd a1 (mo_bd b1 (mo_b1 m_g5 (mo_b1 pre (mo_jn ?_))))
      have last : ∀ X4, Kt X X4 → RG X4 A → Rw X4 0 (A.1 j * 10 ^ u.toNat) → Rw X4 1 (A.1 k * 10 ^ v.toNat) → Mo σ o X ((gR (mst σ o X4) 6 o 2).bind fun r29 =>
              (ldI (mst σ o X4) r29 (nI j)).bind fun x30 =>
              (gR (mst σ o X4) 6 o 2).bind fun r31 =>
              (ldI (mst σ o X4) r31 (nI k)).bind fun x32 =>
              lt (i4 * x32) fun x33 =>
              if (x30 * x33) < 0 then (
                (f_X6_compareRows (mst σ o X4) o 0 1).bind fun x34 =>
                if x34 < 0 then (
                  bd (f_X6_less (mst σ o X4) o 1 0) fun _ σ35 =>
                  bd (f_X6_store σ35 o (nI i) 1 x33 ((iZ t : Int32).toInt64)) fun x36 σ37 =>
                  (isB x36).bind fun _ => some (x36, σ37, 0, 0)
                  ) else
                bd (f_X6_less (mst σ o X4) o 0 1) fun _ σ38 =>
                bd (f_X6_store σ38 o (nI i) 0 x30 ((iZ t : Int32).toInt64)) fun x39 σ40 =>
                (isB x39).bind fun _ => some (x39, σ40, 0, 0)
                ) else
              bd (f_X6_plus (mst σ o X4) o 0 1) fun _ σ41 =>
              jn (fun (z42 : Int32) => (
                bd (f_X6_store σ41 o (nI i) 0 z42 ((iZ t : Int32).toInt64)) fun x43 σ44 =>
                (isB x43).bind fun _ => some (x43, σ44, 0, 0)
                )) fun k42 =>
              if x30 = 0 then (
                k42 x33
                ) else
              k42 x30) (kpA i (smZ A j k sub).natAbs (decide (smZ A j k sub < 0)) t A) := by
        intro X4 kt h4' r4 r5
        have sx : sz (A.1 j * 10 ^ u.toNat) ≤ 4100 := by
          rcases Nat.eq_zero_or_pos (A.1 j) with q | q
          · rw [q, Nat.zero_mul]; decide
          · rw [sz_mul q]; omega
        have sy : sz (A.1 k * 10 ^ v.toNat) ≤ 4100 := by
          rcases Nat.eq_zero_or_pos (A.1 k) with q | q
          · rw [q, Nat.zero_mul]; decide
          · rw [sz_mul q]; omega
        have px : 0 < A.1 j * 10 ^ u.toNat ↔ 0 < A.1 j := ⟨fun w => Nat.pos_of_ne_zero fun e => by rw [e, Nat.zero_mul] at w; omega, fun w => Nat.mul_pos w (Nat.pow_pos (by decide))⟩
        have py : 0 < A.1 k * 10 ^ v.toNat ↔ 0 < A.1 k := ⟨fun w => Nat.pos_of_ne_zero fun e => by rw [e, Nat.zero_mul] at w; omega, fun w => Nat.mul_pos w (Nat.pow_pos (by decide))⟩
        rw [hZ]
        obtain ⟨x, hx⟩ : ∃ x, A.1 j * 10 ^ u.toNat = x := ⟨_, rfl⟩
        obtain ⟨y, hy⟩ : ∃ y, A.1 k * 10 ^ v.toNat = y := ⟨_, rfl⟩
        rw [hx] at r4 sx px ⊢
        rw [hy] at r5 sy py ⊢
        obtain ⟨p, hp⟩ : ∃ p, A.2.1 j = p := ⟨_, rfl⟩
        obtain ⟨q, hq⟩ : ∃ q, xor (A.2.1 k) sub = q := ⟨_, rfl⟩
        rw [hp, hq]
        refine mo_b1 m_g2 (mo_b1 (ld3 rfl hj) (mo_b1 m_g2 (mo_b1 (ld3 rfl hk) ?_)))
        rw [sgn_r h4' hj, sgn_r h4' hk]
        refine mo_le (y := sg (A.1 k) q) (by rw [h4, sg_m1, hq]) ?_
        rw [sg_mul, hp]
        by_cases hc : sg (A.1 j * A.1 k) (xor p q) < 0
        · refine mo_t hc ?_
          obtain ⟨hpos, hxor⟩ := sg_lt.mp hc
          have hj0 : 0 < A.1 j := Nat.pos_of_mul_pos_right hpos
          have hk0 : 0 < A.1 k := Nat.pos_of_mul_pos_left hpos
          refine mo_b1 (t_mcmp (σ := σ) (o := o) (r := 0) (s := 1) (u := 0) (v := 1) (by decide) (by decide) r4 r5 rfl rfl) ?_
          by_cases hlt : x < y
          · rw [if_pos hlt]
            refine mo_t (by decide) ?_
            obtain ⟨X5, d1, d2, d3, d4⟩ := t_mless (σ := σ) (o := o) (r := 1) (s := 0) (u := 1) (v := 0) (by decide) (by decide) (by decide) r5 r4 rfl rfl (by omega)
            refine mo_bd d1 ?_
            refine mo_R (kp_cg (m' := y - x) (n' := q) ?_ ?_ rfl) (Mo.st (r := 1) (by decide) hi rfl rfl (h4'.ot d3) (kt.trans d3.kt) d2 (fun g => by rw [sg_pos hk0, sg_pos g]) hz8 (by omega) (by omega))
            · revert hxor; unfold sgd; cases p <;> cases q <;> simp <;> omega
            · intro _; revert hxor; unfold sgd; cases p <;> cases q <;> simp <;> omega
          · refine mo_f (by rw [if_neg hlt]; split <;> decide) ?_
            obtain ⟨X5, d1, d2, d3, d4⟩ := t_mless (σ := σ) (o := o) (r := 0) (s := 1) (u := 0) (v := 1) (by decide) (by decide) (by decide) r4 r5 rfl rfl (by omega)
            refine mo_bd d1 ?_
            refine mo_R (kp_cg (m' := x - y) (n' := p) ?_ ?_ rfl) (Mo.st (r := 0) (by decide) hi rfl rfl (h4'.ot d3) (kt.trans d3.kt) d2 (fun g => by rw [sg_pos hj0, sg_pos g]) hz8 (by omega) (by omega))
            · revert hxor; unfold sgd; cases p <;> cases q <;> simp <;> omega
            · revert hxor; unfold sgd; cases p <;> cases q <;> simp <;> omega
        · refine mo_f hc ?_
          have hsame : 0 < x → 0 < y → p = q := fun g1 g2 => by
            cases p <;> cases q <;> first | rfl | exact absurd (sg_lt.mpr ⟨Nat.mul_pos (px.mp g1) (py.mp g2), rfl⟩) hc
          obtain ⟨X5, d1, d2, d3, d4⟩ := t_mplus (σ := σ) (o := o) (r := 0) (s := 1) (u := 0) (v := 1) (by decide) (by decide) (by decide) r4 r5 rfl rfl (by omega) (by omega)
          refine mo_bd d1 (mo_jn ?_)
          by_cases hj0 : A.1 j = 0
          · have hx0 : x = 0 := by rw [← hx, hj0, Nat.zero_mul]
            refine mo_t (sg_0.mpr hj0) ?_
            refine mo_R (kp_cg (m' := x + y) (n' := q) ?_ ?_ rfl) (Mo.st (r := 0) (by decide) hi rfl rfl (h4'.ot d3) (kt.trans d3.kt) d2 (fun g => by rw [sg_pos (py.mp (by omega)), sg_pos g]) hz8 (by omega) (by omega))
            · subst hx0; unfold sgd; cases p <;> cases q <;> simp
            · subst hx0; unfold sgd; cases p <;> cases q <;> simp <;> omega
          · refine mo_f (fun e => hj0 (sg_0.mp e)) ?_
            have hxp : 0 < x := px.mpr (by omega)
            refine mo_R (kp_cg (m' := x + y) (n' := p) ?_ ?_ rfl) (Mo.st (r := 0) (by decide) hi rfl rfl (h4'.ot d3) (kt.trans d3.kt) d2 (fun g => by rw [sg_pos (by omega), sg_pos g]) hz8 (by omega) (by omega))
            · rcases Nat.eq_zero_or_pos y with e | e
              · subst e; unfold sgd; cases p <;> cases q <;> simp
              · rw [hsame hxp e]; unfold sgd; cases q <;> simp <;> omega
            · intro _
              rcases Nat.eq_zero_or_pos y with e | e
              · subst e; unfold sgd; cases p <;> cases q <;> simp <;> omega
              · rw [hsame hxp e]; unfold sgd; cases q <;> simp <;> omega
      have next : ∀ X3, Kt X X3 → RG X3 A → Rw X3 0 (A.1 j * 10 ^ u.toNat) → Rw X3 1 (A.1 k) → Mo σ o X ((gR (mst σ o X3) 6 o 5).bind fun r26 =>
            (ldI (mst σ o X3) r26 1).bind fun x27 =>
            jn (fun (z28 : St) => (
              (gR z28 6 o 2).bind fun r29 =>
              (ldI z28 r29 (nI j)).bind fun x30 =>
              (gR z28 6 o 2).bind fun r31 =>
              (ldI z28 r31 (nI k)).bind fun x32 =>
              lt (i4 * x32) fun x33 =>
              if (x30 * x33) < 0 then (
                (f_X6_compareRows z28 o 0 1).bind fun x34 =>
                if x34 < 0 then (
                  bd (f_X6_less z28 o 1 0) fun _ σ35 =>
                  bd (f_X6_store σ35 o (nI i) 1 x33 ((iZ t : Int32).toInt64)) fun x36 σ37 =>
                  (isB x36).bind fun _ => some (x36, σ37, 0, 0)
                  ) else
                bd (f_X6_less z28 o 0 1) fun _ σ38 =>
                bd (f_X6_store σ38 o (nI i) 0 x30 ((iZ t : Int32).toInt64)) fun x39 σ40 =>
                (isB x39).bind fun _ => some (x39, σ40, 0, 0)
                ) else
              bd (f_X6_plus z28 o 0 1) fun _ σ41 =>
              jn (fun (z42 : Int32) => (
                bd (f_X6_store σ41 o (nI i) 0 z42 ((iZ t : Int32).toInt64)) fun x43 σ44 =>
                (isB x43).bind fun _ => some (x43, σ44, 0, 0)
                )) fun k42 =>
              if x30 = 0 then (
                k42 x33
                ) else
              k42 x30
              )) fun k28 =>
            if x27 ≤ 0 then (
              k28 (mst σ o X3)
              ) else
            bd (f_X6_raise (mst σ o X3) o 1 ((lZ v : Int64).toInt32)) fun _ σ45 =>
            k28 σ45) (kpA i (smZ A j k sub).natAbs (decide (smZ A j k sub < 0)) t A) := by
        intro X3 kt h3 r3 r5
        have pre : ldI (mst σ o X3) (o + 6) 1 = some (nI (sz (A.1 k))) := (ld6 (i := 1) rfl (by decide)).trans (by rw [r5.2.1])
        refine mo_b1 m_g5 (mo_b1 pre (mo_jn ?_))
        rcases Nat.eq_zero_or_pos (A.1 k) with g | g
        · refine mo_t (by rw [g]; decide) (last X3 kt h3 r3 ?_)
          rw [g, Nat.zero_mul, ← g]; exact r5
        · refine mo_f (nI_nle (sz_pos g) (by omega)) ?_
          obtain ⟨X4, e1, e2, e3, e4⟩ := t_mraise (σ := σ) (o := o) (y := 1) (k := v.toNat) (z := (lZ v : Int64).toInt32) (by decide) r5 rfl (by rw [lZ_i, iZ_nat (by omega)]) (by omega)
          exact mo_bd e1 (last X4 (kt.trans e3.kt) (h3.ot e3) (r3.ot e3 (by decide) (by decide)) e2)
      rcases Nat.eq_zero_or_pos (A.1 j) with g | g
      · refine mo_t (by rw [g]; decide) (next X2 (a3.kt.trans b3.kt) h2 ?_ b2)
        rw [show A.1 j * 10 ^ u.toNat = A.1 j by rw [g, Nat.zero_mul]]; exact r0
      · refine mo_f (nI_nle (sz_pos g) (by omega)) ?_
        obtain ⟨X3, e1, e2, e3, e4⟩ := t_mraise (σ := σ) (o := o) (y := 0) (k := u.toNat) (z := (lZ u : Int64).toInt32) (by decide) r0 rfl (by rw [lZ_i, iZ_nat (by omega)]) (by omega)
        exact mo_bd e1 (next X3 ((a3.kt.trans b3.kt).trans e3.kt) (h2.ot e3) e2 (b2.ot e3 (by decide) (by decide)))
    have second : (A.1 j = 0 ∨ sz (A.1 j) + u ≤ 4100) → ∀ e : Rs Int32, (((A.1 j = 0 ∨ sz (A.1 j) + u ≤ 4100) → (A.1 k = 0 ∨ sz (A.1 k) + v ≤ 4100) → Mo σ o X e (kpA i (smZ A j k sub).natAbs (decide (smZ A j k sub < 0)) t A))) → Mo σ o X ((gR (mst σ o X) 6 o 1).bind fun r18 => (ldI (mst σ o X) r18 (nI k)).bind fun x19 => jn (fun (z20 : Unit) => e) fun k20 => if x19 ≤ 0 then (k20 ()) else (gR (mst σ o X) 6 o 1).bind fun r47 => (ldI (mst σ o X) r47 (nI k)).bind fun x48 => if (((x48 : Int32).toInt64) + lZ v) ≤ 4100 then (k20 ()) else (isB 0).bind fun _ => some (0, (mst σ o X), 0, 0)) (kpA i (smZ A j k sub).natAbs (decide (smZ A j k sub < 0)) t A) := by
      intro w1 e he
      refine mo_b1 m_g1 (mo_b1 (ld2 rfl hk) (mo_jn ?_))
      rw [yk]
      rcases Nat.eq_zero_or_pos (A.1 k) with g | g
      · exact mo_t (by rw [g]; decide) (he w1 (Or.inl g))
      · refine mo_f (nI_nle (sz_pos g) (by omega)) ?_
        refine mo_b1 m_g1 (mo_b1 (ld2 rfl hk) ?_)
        rw [yk, nI_l (by omega), lZ_n, lZ_add]
        by_cases w : (sz (A.1 k) : Int) + v ≤ 4100
        · exact mo_t ((lZ_le (b := 4100) (by omega) (by omega) (by omega) (by omega)).mpr w) (he w1 (Or.inr w))
        · refine mo_f (fun q => w ((lZ_le (b := 4100) (by omega) (by omega) (by omega) (by omega)).mp q)) ?_
          refine mo_R (kp_big ?_) (Mo.no h rfl)
          have eu : u = 0 := by omega
          rw [hZ, eu, show (0 : Int).toNat = 0 from rfl, Nat.pow_zero, Nat.mul_one, Int.add_comm]
          refine sum_big ?_ (sz_le.mp c0)
          have := sz_mul (x := A.1 k) (k := v.toNat) g
          refine Nat.le_trans (Nat.pow_le_pow_right (by decide) ?_) (sz_ge (Nat.mul_pos g (Nat.pow_pos (by decide))))
          omega
    rcases Nat.eq_zero_or_pos (A.1 j) with g | g
    · exact mo_t (by rw [g]; decide) (second (Or.inl g) _ work)
    · refine mo_f (nI_nle (sz_pos g) (by omega)) ?_
      refine mo_b1 m_g1 (mo_b1 (ld2 rfl hj) ?_)
      rw [yj, nI_l (by omega), lZ_n, lZ_add]
      by_cases w : (sz (A.1 j) : Int) + u ≤ 4100
      · exact mo_f (fun q => by have := (lZ_lt (a := 4100) (by omega) (by omega) (by omega) (by omega)).mp q; omega) (second (Or.inr w) _ work)
      · refine mo_t ((lZ_lt (a := 4100) (by omega) (by omega) (by omega) (by omega)).mpr (by omega)) ?_
        refine mo_R (kp_big ?_) (Mo.no h rfl)
        have ev : v = 0 := by omega
        rw [hZ, ev, show (0 : Int).toNat = 0 from rfl, Nat.pow_zero, Nat.mul_one]
        refine sum_big ?_ (sz_le.mp k0)
        have := sz_mul (x := A.1 j) (k := u.toNat) g
        refine Nat.le_trans (Nat.pow_le_pow_right (by decide) ?_) (sz_ge (Nat.mul_pos g (Nat.pow_pos (by decide))))
        omega
  rw [ht]
  have s4j : X 4 j = iZ (A.2.2 j) := (h.2 j hj).2.2.2
  have s4k : X 4 k = iZ (A.2.2 k) := (h.2 k hk).2.2.2
  refine mo_b1 m_g3 (mo_b1 (ld4 rfl hj) (mo_b1 m_g3 (mo_b1 (ld4 rfl hk) (mo_jn ?_))))
  rw [s4j, s4k]
  by_cases hle : A.2.2 j ≤ A.2.2 k
  · refine mo_t ((iZ_le (by omega) (by omega) (by omega) (by omega)).mpr hle) ?_
    refine mo_b1 m_g3 (mo_b1 (ld4 rfl hk) ?_)
    exact body _ (by rw [s4k]; congr 1; omega)
  · refine mo_f (fun w => hle ((iZ_le (by omega) (by omega) (by omega) (by omega)).mp w)) ?_
    refine mo_b1 m_g3 (mo_b1 (ld4 rfl hj) ?_)
    exact body _ (by rw [s4j]; congr 1; omega)
theorem isB_sSum {d a b : Int32} {sub : Bool} : isB (sSum A d a b sub).1 = some () := isB_onR fun _ => isB_onR fun _ => isB_onR fun _ => isB_k
theorem t_madd {d a b : Int32} (h : RG X A) : Mo σ o X (f_X6_add (mst σ o X) o d a b) (sSum A d a b false) := by
  unfold f_X6_add
  exact mo_ob (mo_rt Kt.rf (t_msum rfl h) isB_sSum)
theorem t_mtake {d a b : Int32} (h : RG X A) : Mo σ o X (f_X6_take (mst σ o X) o d a b) (sSum A d a b true) := by
  unfold f_X6_take
  exact mo_ob (mo_rt Kt.rf (t_msum rfl h) isB_sSum)
end MSum
