/-! ===== what a cut loses; sizes of quotients; the reference's divide ===== -/
theorem lost_comp {N D P : Nat} {more : Bool} (hD : 0 < D) (hP : P % 2 = 0) (hP0 : 0 < P) : lostc (N % (D * P)) (D * P) more = lostc (N / D % P) P (decide (N % D ≠ 0) || more) := by
  rw [Nat.mod_mul]
  obtain ⟨h, rfl⟩ : ∃ h, P = 2 * h := ⟨P / 2, by omega⟩
  have hr := Nat.mod_lt N hD
  have hq := Nat.mod_lt (N / D) hP0
  generalize N % D = r at *
  generalize N / D % (2 * h) = q at *
  have e : D * (2 * h) = 2 * (D * h) := by rw [← Nat.mul_assoc, Nat.mul_comm D 2, Nat.mul_assoc]
  rw [e]
  unfold lostc
  rcases Nat.lt_trichotomy q h with w | w | w
  · have h1 : D * (q + 1) ≤ D * h := Nat.mul_le_mul_left D w
    rw [Nat.mul_succ] at h1
    rw [if_pos (show 2 * (r + D * q) < 2 * (D * h) by omega), if_pos (show 2 * q < 2 * h by omega)]
    by_cases hz : r = 0
    · subst hz
      by_cases hq0 : q = 0
      · subst hq0
        rw [Nat.mul_zero]
        simp
      · have : 0 < D * q := Nat.mul_pos hD (by omega)
        rw [if_neg (by omega), if_neg (by omega)]
    · rw [if_neg (by omega), if_neg (by simp [hz])]
  · subst w
    by_cases hz : r = 0
    · subst hz
      simp
    · rw [if_neg (by omega), if_neg (by omega), if_neg (by omega), if_neg (by simp [hz])]
  · have h1 : D * (h + 1) ≤ D * q := Nat.mul_le_mul_left D w
    rw [Nat.mul_succ] at h1
    rw [if_neg (by omega), if_neg (by omega), if_neg (by omega), if_neg (by omega)]
theorem lost_scale {c r D : Nat} {b : Bool} (hc : 0 < c) : lostc (c * r) (c * D) b = lostc r D b := by
  unfold lostc
  have e1 : 2 * (c * r) = c * (2 * r) := by rw [← Nat.mul_assoc, Nat.mul_comm 2 c, Nat.mul_assoc]
  rw [e1]
  have i1 : c * (2 * r) < c * D ↔ 2 * r < D := Nat.mul_lt_mul_left hc
  have i2 : c * (2 * r) = c * D ↔ 2 * r = D := Nat.mul_right_inj (by omega)
  have i3 : c * r = 0 ↔ r = 0 := by rw [Nat.mul_eq_zero]; omega
  simp only [i1, i2, i3]
theorem p10_even {k : Nat} (h : 0 < k) : 10 ^ k % 2 = 0 := by
  obtain ⟨j, rfl⟩ : ∃ j, k = j + 1 := ⟨k - 1, by omega⟩
  rw [Nat.pow_succ]
  omega
theorem lost_z {r D : Nat} {b : Bool} (hD : 0 < D) : lostc r D b = 0 ↔ r = 0 ∧ b = false := by
  unfold lostc
  constructor
  · intro h
    by_cases h1 : 2 * r < D
    · rw [if_pos h1] at h
      by_cases h2 : r = 0 ∧ b = false
      · exact h2
      · rw [if_neg h2] at h; omega
    · rw [if_neg h1] at h
      split at h <;> omega
  · rintro ⟨rfl, rfl⟩
    rw [if_pos (by omega), if_pos ⟨rfl, rfl⟩]
theorem p10_pos (k : Nat) : 0 < 10 ^ k := Nat.pow_pos (by decide)
theorem sz_quo_ge {N D : Nat} (hN : 0 < N) (hD : 0 < D) (h : sz D < sz N) : sz N - sz D ≤ sz (N / D) := by
  refine Nat.not_lt.mp fun w => ?_
  have h1 : sz (N / D) ≤ sz N - sz D - 1 := by omega
  rw [sz_le, Nat.div_lt_iff_lt_mul hD] at h1
  have h2 := sz_ge hN
  have h3 := sz_lt D
  have h4 : 10 ^ (sz N - 1) = 10 ^ (sz N - sz D - 1) * 10 ^ sz D := by rw [← Nat.pow_add]; congr 1; omega
  have h5 : 10 ^ (sz N - sz D - 1) * D ≤ 10 ^ (sz N - sz D - 1) * 10 ^ sz D := Nat.mul_le_mul_left _ (by omega)
  omega
theorem sz_quo_le {N D : Nat} (hD : 0 < D) (h : sz D ≤ sz N + 1) : sz (N / D) ≤ sz N + 1 - sz D := by
  rw [sz_le, Nat.div_lt_iff_lt_mul hD]
  have h2 := sz_ge hD
  have h3 := sz_lt N
  have h6 := sz_pos hD
  have h4 : 10 ^ sz N = 10 ^ (sz N + 1 - sz D) * 10 ^ (sz D - 1) := by rw [← Nat.pow_add]; congr 1; omega
  have h5 : 10 ^ (sz N + 1 - sz D) * 10 ^ (sz D - 1) ≤ 10 ^ (sz N + 1 - sz D) * D := Nat.mul_le_mul_left _ h2
  omega
def nu (m : Nat) (e : Int) : Nat := m * 10 ^ e.toNat
def de (m : Nat) (e : Int) : Nat := m * 10 ^ (-e).toNat
def sDivide (A : AS) (d a b s how : Int32) : Int32 × AS := onR d A fun i => onR a A fun j => onR b A fun k => if (0 ≤ how ∧ how < 8) ∧ 0 < A.1 k then (if A.1 j = 0 then kpA i 0 false s.toInt A else fnA i (nu (A.1 j) (s.toInt - A.2.2 j + A.2.2 k) / de (A.1 k) (s.toInt - A.2.2 j + A.2.2 k)) (lostc (nu (A.1 j) (s.toInt - A.2.2 j + A.2.2 k) % de (A.1 k) (s.toInt - A.2.2 j + A.2.2 k)) (de (A.1 k) (s.toInt - A.2.2 j + A.2.2 k)) false) how.toNatClampNeg (xor (A.2.1 j) (A.2.1 k)) s.toInt A) else (0, A)
theorem nu_pos {m : Nat} {e : Int} (h : 0 < m) : 0 < nu m e := Nat.mul_pos h (p10_pos _)
theorem de_pos {m : Nat} {e : Int} (h : 0 < m) : 0 < de m e := Nat.mul_pos h (p10_pos _)
theorem nu_sz {m : Nat} {e : Int} (h : 0 < m) : sz (nu m e) = sz m + e.toNat := sz_mul h
theorem de_sz {m : Nat} {e : Int} (h : 0 < m) : sz (de m e) = sz m + (-e).toNat := sz_mul h
section MDiv
variable {σ : St} {o : Nat} {X : Nat → Nat → Int32} {A : AS}
/-- rows 0 and 1 raised so that their quotient is that at the scale, and divided -/
theorem t_mrq {x y : Nat} {e : Int} (h : RG X A) (r0 : Rw X 0 x) (r1 : Rw X 1 y) (hx : 0 < x) (hy : 0 < y) (b1 : sz x + e ≤ 16970) (b2 : sz y - e ≤ 16970) (b3 : sz y ≤ 16970) : ∃ X1 X2, (if 0 ≤ e then f_X6_raise (mst σ o X) o 0 (nI e.toNat) = some ((), mst σ o X1, 0, 0) else f_X6_raise (mst σ o X) o 1 (nI (-e).toNat) = some ((), mst σ o X1, 0, 0)) ∧ f_X6_quotient (mst σ o X1) o = some ((), mst σ o X2, 0, 0) ∧ Rw X2 2 (nu x e / de y e) ∧ Rw X2 3 (nu x e % de y e) ∧ X2 0 0 = nI (lostc (nu x e % de y e) (de y e) false) ∧ Kt X X2 ∧ RG X2 A := by
  by_cases he : 0 ≤ e
  · obtain ⟨X1, a1, a2, a3, a4⟩ := t_mraise (σ := σ) (o := o) (r := 0) (y := 0) (z := nI e.toNat) (k := e.toNat) (by decide) r0 rfl rfl (by omega)
    have hde : de y e = y := by unfold de; rw [show (-e).toNat = 0 by omega, Nat.pow_zero, Nat.mul_one]
    obtain ⟨X2, q1, q2, q3, q4, q5⟩ := t_mquo (σ := σ) (o := o) a2 (r1.ot a3 (by decide) (by decide)) hy (by omega)
    refine ⟨X1, X2, by rw [if_pos he]; exact a1, q1, ?_, ?_, ?_, a3.kt.trans q4.kt, (h.ot a3).ot q4⟩
    · rw [hde]; exact q2
    · rw [hde]; exact q3
    · rw [hde]; exact q5
  · obtain ⟨X1, a1, a2, a3, a4⟩ := t_mraise (σ := σ) (o := o) (r := 1) (y := 1) (z := nI (-e).toNat) (k := (-e).toNat) (by decide) r1 rfl rfl (by omega)
    have hnu : nu x e = x := by unfold nu; rw [show e.toNat = 0 by omega, Nat.pow_zero, Nat.mul_one]
    obtain ⟨X2, q1, q2, q3, q4, q5⟩ := t_mquo (σ := σ) (o := o) (r0.ot a3 (by decide) (by decide)) a2 (de_pos (e := e) hy) (by rw [sz_mul hy]; omega)
    refine ⟨X1, X2, by rw [if_neg he]; exact a1, q1, ?_, ?_, ?_, a3.kt.trans q4.kt, (h.ot a3).ot q4⟩
    · rw [hnu]; exact q2
    · rw [hnu]; exact q3
    · rw [hnu]; exact q5
theorem t_mdivide {d a b s how : Int32} (h : RG X A) : Mo σ o X (f_X6_divide (mst σ o X) o d a b s how) (sDivide A d a b s how) := by
  unfold f_X6_divide sDivide
  refine mo_ob ?_
  refine q_is (P := fun e => Mo σ o X e _) (fun hn => by rw [onR_n hn]; exact Mo.no h rfl) (fun i hi hx => ?_)
  subst hx
  rw [onR_y hi]
  refine q_is (P := fun e => Mo σ o X e _) (fun hn => by rw [onR_n hn]; exact Mo.no h rfl) (fun j hj hx => ?_)
  subst hx
  rw [onR_y hj]
  refine q_is (P := fun e => Mo σ o X e _) (fun hn => by rw [onR_n hn]; exact Mo.no h rfl) (fun k hk hx => ?_)
  subst hx
  rw [onR_y hk]
  rcases is_rn (σ := mst σ o X) how with ⟨w, hw, rfl, eh⟩ | ⟨eh, nh⟩
  · refine mo_b1 eh (mo_f (by decide) ?_)
    obtain ⟨c0, c1, c2, c3⟩ := h.1 j hj
    obtain ⟨k0, k1, k2, k3⟩ := h.1 k hk
    have l1 := iZ_lo s
    have l2 := iZ_hi s
    have yk : X 2 k = nI (sz (A.1 k)) := (h.2 k hk).1
    refine mo_b1 m_g1 (mo_b1 (ld2 rfl hk) ?_)
    rw [yk]
    rcases Nat.eq_zero_or_pos (A.1 k) with g | g
    · exact mo_R (if_neg (by omega)) (mo_t (by rw [g]; rfl) (Mo.no h rfl))
    · refine mo_f (nI_ne0 (sz_pos g) (by omega)) ?_
      refine mo_R (if_pos ⟨⟨nI_pos' (by omega), (nI_ltI (b := 8) (by omega) (by decide)).mpr hw⟩, g⟩) ?_
      rw [nI_clamp (by omega)]
      refine mo_b1 m_g2 (mo_b1 (ld3 rfl hj) (mo_b1 m_g2 (mo_b1 (ld3 rfl hk) ?_)))
      refine mo_le (y := sg (A.1 j * A.1 k) (xor (A.2.1 j) (A.2.1 k))) (by rw [sgn_r h hj, sgn_r h hk, sg_mul]) ?_
      refine mo_b1 m_g3 (mo_b1 (ld4 rfl hj) (mo_b1 m_g3 (mo_b1 (ld4 rfl hk) ?_)))
      obtain ⟨e, he⟩ : ∃ e, s.toInt - A.2.2 j + A.2.2 k = e := ⟨_, rfl⟩
      refine mo_le (y := lZ e) (by rw [scl_r h hj, scl_r h hk, iZ_lx, lZ_sub, lZ_add, he]) ?_
      rw [he]
      obtain ⟨X1, a1, a2, a3, a4⟩ := t_mload (σ := σ) (o := o) (r := 0) (u := 0) (by decide) hj rfl rfl h
      obtain ⟨X2, b1, b2, b3, b4⟩ := t_mload (σ := σ) (o := o) (r := 1) (u := 1) (by decide) hk rfl rfl (h.ot a3)
      have h2 := (h.ot a3).ot b3
      have r0 : Rw X2 0 (A.1 j) := a2.ot b3 (by decide) (by decide)
      refine mo_bd a1 (mo_bd b1 ?_)
      refine mo_b1 m_g1 (mo_b1 (ld2 rfl hj) (mo_b1 m_g1 (mo_b1 (ld2 rfl hk) ?_)))
      refine mo_le (y := lZ (sz (A.1 j) + e - sz (A.1 k))) (by rw [(h2.2 j hj).1, (h2.2 k hk).1, nI_l (by omega), nI_l (by omega), lZ_n, lZ_n, lZ_add, lZ_sub]) ?_
      refine mo_b1 m_p6 ?_
      have O3 : Ot (fun _ => False) X2 (ups X2 0 (upd (X2 0) 0 0)) := Ot.m0
      obtain ⟨X3, hX3⟩ : ∃ X3, ups X2 0 (upd (X2 0) 0 0) = X3 := ⟨_, rfl⟩
      rw [hX3] at O3 ⊢
      have h3 := h2.ot O3
      have kt := (a3.kt.trans b3.kt).trans O3.kt
      have q0 : Rw X3 0 (A.1 j) := r0.ot O3 (by decide) id
      have q1 : Rw X3 1 (A.1 k) := b2.ot O3 (by decide) id
      have pre : ldI (mst σ o X3) (o + 6) 0 = some (nI (sz (A.1 j))) := (ld6 (i := 0) rfl (by decide)).trans (by rw [q0.2.1])
      refine mo_b1 m_g5 (mo_b1 pre ?_)
      rcases Nat.eq_zero_or_pos (A.1 j) with g0 | g0
      · refine mo_R (if_pos g0) (mo_t (by rw [g0]; rfl) ?_)
        refine Mo.st (r := 0) (m := 0) (by decide) hi rfl rfl h3 kt (by rw [g0] at q0; exact q0) (fun w => by omega) (iZ_lx s) (by omega) (by omega)
      · refine mo_R (if_neg (by omega)) (mo_f (nI_ne0 (sz_pos g0) (by omega)) ?_)
        have sj := sz_pos g0
        have sk := sz_pos g
        have nusz := nu_sz (e := e) g0
        have desz := de_sz (e := e) g
        by_cases hbig : (sz (A.1 j) : Int) + e - sz (A.1 k) ≤ 4096
        · refine mo_t ((lZ_le (b := 4096) (by omega) (by omega) (by omega) (by omega)).mpr hbig) (mo_jn ?_)
          have fin : ∀ X5 m lost, Kt X X5 → RG X5 A → Rw X5 2 m → sz m ≤ 16980 → X5 0 0 = nI lost → lost < 4 → Mo σ o X (bd (f_X6_finish (mst σ o X5) o (nI i) 2 (sg (A.1 j * A.1 k) (xor (A.2.1 j) (A.2.1 k))) ((s : Int32).toInt64) (nI w)) fun x28 σ29 => (isB x28).bind fun _ => some (x28, σ29, 0, 0)) (fnA i m lost w (xor (A.2.1 j) (A.2.1 k)) s.toInt A) := by
            intro X5 m lost kt5 h5 r5 sm hl hl3
            obtain ⟨X6, d1, d2, d3⟩ := t_mfinish (σ := σ) (o := o) (r := 2) (n := xor (A.2.1 j) (A.2.1 k)) (s := s.toInt) (u := nI i) (v := 2) (z := sg (A.1 j * A.1 k) (xor (A.2.1 j) (A.2.1 k))) (w := nI w) (y := (s : Int32).toInt64) (by decide) hi rfl rfl h5 r5 sm hl hl3 hw (fun _ => sg_pos (Nat.mul_pos g0 g)) rfl (iZ_lx s) (by omega) (by omega)
            exact mo_rt kt5 ⟨X6, d1, d2, d3⟩ isB_fnA
          by_cases hlow : -1 ≤ (sz (A.1 j) : Int) + e - sz (A.1 k)
          · refine mo_t ((lZ_le (a := -1) (by omega) (by omega) (by omega) (by omega)).mpr hlow) (mo_jn ?_)
            obtain ⟨X4, X5, p1, p2, p3, p4, p5, p6, p7⟩ := t_mrq (σ := σ) (o := o) (e := e) h3 q0 q1 g0 g (by omega) (by omega) (by omega)
            have fq := fin X5 _ _ (kt.trans p6) p7 p3 (by have := sz_quo_le (N := nu (A.1 j) e) (D := de (A.1 k) e) (de_pos g) (by omega); omega) p5 (lost_lt _ _ _)
            by_cases he0 : 0 ≤ e
            · rw [if_pos he0] at p1
              refine mo_f (fun w => by have := (lZ_lt (b := 0) (by omega) (by omega) (by omega) (by omega)).mp w; omega) ?_
              refine mo_bd (by rw [lZ_i, iZ_nat he0]; exact p1) (mo_bd p2 fq)
            · rw [if_neg he0] at p1
              refine mo_t ((lZ_lt (b := 0) (by omega) (by omega) (by omega) (by omega)).mpr (by omega)) ?_
              refine mo_bd (by rw [lZ_neg, lZ_i, iZ_nat (by omega)]; exact p1) (mo_bd p2 fq)
          · refine mo_f (fun w => hlow ((lZ_le (a := -1) (by omega) (by omega) (by omega) (by omega)).mp w)) ?_
            refine mo_b1 m_g5 (mo_b1 (st6 (i := 2) rfl (by decide)) (mo_b1 m_p6 ?_))
            have O4 : Ot (fun q => q = 2) X3 (ups X3 6 (upd (X3 6) 2 0)) := Ot.m6
            have O5 : Ot (fun q => q = 2) (ups X3 6 (upd (X3 6) 2 0)) (ups (ups X3 6 (upd (X3 6) 2 0)) 0 (upd (ups X3 6 (upd (X3 6) 2 0) 0) 0 1)) := Ot.m0
            have O6 := O4.trans O5 (fun _ q => q)
            have hN : nu (A.1 j) e < 10 ^ (sz (A.1 j) + e.toNat) := nusz ▸ sz_lt (nu (A.1 j) e)
            have hD : 10 ^ (sz (A.1 k) + (-e).toNat - 1) ≤ de (A.1 k) e := desz ▸ sz_ge (de_pos (e := e) g)
            have hND : 10 ^ (sz (A.1 j) + e.toNat) * 10 ≤ 10 ^ (sz (A.1 k) + (-e).toNat - 1) := by rw [← Nat.pow_succ]; exact p10_le (by omega)
            have hN0 := nu_pos (e := e) g0
            have e1 : nu (A.1 j) e / de (A.1 k) e = 0 := Nat.div_eq_of_lt (by omega)
            have e2 : nu (A.1 j) e % de (A.1 k) e = nu (A.1 j) e := Nat.mod_eq_of_lt (by omega)
            have e3 : lostc (nu (A.1 j) e) (de (A.1 k) e) false = 1 := by
              unfold lostc
              rw [if_pos (by omega), if_neg (by omega)]
            rw [e1, e2, e3]
            exact fin _ 0 1 (kt.trans O6.kt) (h3.ot O6) ⟨by decide, by rw [ups_n (by decide), ups_s, pk_us]; rfl, fun t ht => by rw [sz_0] at ht; omega⟩ (by decide) (by rw [ups_s, pk_us]; rfl) (by decide)
        · refine mo_f (fun w => hbig ((lZ_le (b := 4096) (by omega) (by omega) (by omega) (by omega)).mp w)) ?_
          refine mo_R (fn_big ?_) ⟨X3, rfl, h3, kt⟩
          have := sz_quo_ge (nu_pos (e := e) g0) (de_pos (e := e) g) (by omega)
          omega
  · refine mo_b1 eh (mo_t rfl ?_)
    exact mo_R (if_neg (fun w => nh w.1)) (Mo.no h rfl)
end MDiv
