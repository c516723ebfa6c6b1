/-! ===== whole of the reference ===== -/
/-- what is left after the loop, against what is asked -/
theorem wT_ok {i l x y k z : Nat} {nq nr : Bool} {t sa : Int} {A : AS} (hx : sz x ≤ 4096) (hy : 0 < y) (by' : sz y ≤ 4096) (ht : t ≤ 0) (hk : k ≤ 12500) (hkT : k ≤ (-t).toNat) (hm : ∀ j, j < k → x * 10 ^ j % y ≠ 0) (he : x * 10 ^ k % y = 0 ∨ (-t).toNat ≤ k) (hz : z = if x * 10 ^ k / y = 0 then k else min k (ez (x * 10 ^ k / y))) : (¬ sz (x * 10 ^ k / y / 10 ^ z) ≤ 4096 ∧ wTA i l x y nq nr t sa A = (0, A)) ∨ (wTA i l x y nq nr t sa A = wkA i l (x * 10 ^ k / y / 10 ^ z) nq (t + (k - z : Nat)) (x * 10 ^ (k - z) - x * 10 ^ k / y / 10 ^ z * y) nr (sa + (k - z : Nat)) A) := by
  obtain ⟨T, hT⟩ : ∃ T, (-t).toNat = T := ⟨_, rfl⟩
  unfold wTA
  rw [hT] at hkT he ⊢
  by_cases h0 : x * 10 ^ T < y
  · rw [if_pos h0]
    have hlt : x * 10 ^ k < y := Nat.lt_of_le_of_lt (Nat.mul_le_mul_left x (p10_le hkT)) h0
    have hq0 : x * 10 ^ k / y = 0 := Nat.div_eq_of_lt hlt
    rw [hq0, if_pos rfl] at hz
    subst hz
    rw [hq0, Nat.zero_div, Nat.zero_mul, Nat.sub_zero, Nat.sub_self, Nat.pow_zero, Nat.mul_one]
    right
    congr 1 <;> omega
  · rw [if_neg h0]
    have hx0 : 0 < x := Nat.pos_of_ne_zero fun e => by rw [e, Nat.zero_mul] at h0; omega
    have sx := sz_pos hx0
    have sy := sz_pos hy
    obtain ⟨U, hU⟩ : ∃ U, min T (4096 + 2 * sz y - sz x) = U := ⟨_, rfl⟩
    rw [hU]
    have hxk : ∀ n, sz (x * 10 ^ n) = sz x + n := fun n => sz_mul hx0
    have hxp : ∀ n, 0 < x * 10 ^ n := fun n => Nat.mul_pos hx0 (p10_pos n)
    by_cases hR : x * 10 ^ k % y = 0
    · obtain ⟨c, hc⟩ := Nat.dvd_of_mod_eq_zero hR
      have hqc : x * 10 ^ k / y = c := by rw [hc]; exact Nat.mul_div_cancel_left c hy
      have hq : 0 < x * 10 ^ k / y := by
        rw [hqc]
        refine Nat.pos_of_ne_zero fun e => ?_
        rw [e, Nat.mul_zero] at hc
        have := hxp k
        omega
      rw [if_neg (by omega)] at hz
      by_cases hkU : k ≤ U
      · right
        obtain ⟨d1, d2⟩ := dv_up hR hkU
        rw [if_neg (fun w => w.1 d1), d2, d1, ez_mul hq, Nat.zero_div]
        have e1 : min U (ez (x * 10 ^ k / y) + (U - k)) = (U - k) + z := by omega
        have e2 : x * 10 ^ k / y * 10 ^ (U - k) / 10 ^ ((U - k) + z) = x * 10 ^ k / y / 10 ^ z := by
          rw [Nat.pow_add, Nat.mul_comm, Nat.mul_div_mul_left _ _ (p10_pos _)]
        obtain ⟨e3, e4⟩ := rem_low (x := x) (y := y) (k := k) (z := z) (by omega) ((ez_dvd hq).mpr (by omega))
        rw [e1, e2, e3, hR, Nat.zero_div]
        congr 1 <;> omega
      · left
        have hz0 : z = 0 := by rw [hz, dv_min hx0 hy hR hm (by omega)]; omega
        have hUT : U < T := by omega
        have hUR := hm U (by omega)
        refine ⟨?_, if_pos ⟨hUR, hUT⟩⟩
        rw [hz0, Nat.pow_zero, Nat.div_one]
        have := sz_quo_ge (hxp k) hy (by rw [hxk]; omega)
        rw [hxk] at this
        omega
    · have hkT' : k = T := by
        rcases he with w | w
        · exact absurd w hR
        · omega
      subst hkT'
      have hq : 0 < x * 10 ^ k / y := Nat.div_pos (by omega) hy
      rw [if_neg (by omega)] at hz
      have hall : ∀ j, j ≤ k → x * 10 ^ j % y ≠ 0 := fun j hj => by
        by_cases hjk : j = k
        · subst hjk; exact hR
        · exact hm j (by omega)
      have hdz : 10 ^ z ∣ x * 10 ^ k / y := (ez_dvd hq).mpr (by omega)
      obtain ⟨e3, e4⟩ := rem_low (x := x) (y := y) (k := k) (z := z) (by omega) hdz
      by_cases hUT : U < k
      · left
        refine ⟨?_, if_pos ⟨hall U (by omega), hUT⟩⟩
        have hzs : z < sz y := by
          refine Nat.not_le.mp fun w => ?_
          have h1 : x * 10 ^ k % y < 10 ^ z := Nat.lt_of_lt_of_le (Nat.mod_lt _ hy) (Nat.le_trans (Nat.le_of_lt (sz_lt y)) (p10_le w))
          rw [Nat.div_eq_of_lt h1] at e3
          have e5 : x * 10 ^ (k - z) = x * 10 ^ k / y / 10 ^ z * y := by omega
          have e6 : x * 10 ^ k = x * 10 ^ (k - z) * 10 ^ z := by rw [Nat.mul_assoc, ← Nat.pow_add]; congr 2; omega
          apply hR
          rw [e6, e5, Nat.mul_assoc, Nat.mul_comm y, ← Nat.mul_assoc]
          exact Nat.mul_mod_left _ _
        rw [sz_div]
        have := sz_quo_ge (hxp k) hy (by rw [hxk]; omega)
        rw [hxk] at this
        omega
      · right
        have hUk : U = k := by omega
        rw [if_neg (fun w => hUT w.2), hUk, ← hz, e3]
section MWh2
variable {σ : St} {o : Nat} {X : Nat → Nat → Int32} {A : AS}
theorem t_mwhole {q r a b : Int32} (h : RG X A) : Mo σ o X (f_X6_whole (mst σ o X) o q r a b) (sWhole A q r a b) := by
  have hF := FU_ge
  unfold f_X6_whole sWhole
  refine mo_ob ?_
  refine q_is (P := fun e => Mo σ o X e _) (fun hn => by rw [onR_n hn]; exact Mo.no h rfl) (fun i hi hx => ?_)
  subst hx
  rw [onR_y hi]
  refine q_is (P := fun e => Mo σ o X e _) (fun hn => by rw [onR_n hn]; exact Mo.no h rfl) (fun l hl hx => ?_)
  subst hx
  rw [onR_y hl]
  refine q_is (P := fun e => Mo σ o X e _) (fun hn => by rw [onR_n hn]; exact Mo.no h rfl) (fun j hj hx => ?_)
  subst hx
  rw [onR_y hj]
  refine q_is (P := fun e => Mo σ o X e _) (fun hn => by rw [onR_n hn]; exact Mo.no h rfl) (fun k hk hx => ?_)
  subst hx
  rw [onR_y hk]
  by_cases hil : i = l
  · exact mo_R (if_neg (fun w => w.1 hil)) (mo_t (by rw [hil]) (Mo.no h rfl))
  · refine mo_f (fun w => hil ((nI_eq (by omega) (by omega)).mp w)) ?_
    obtain ⟨c0, c1, c2, c3⟩ := h.1 j hj
    obtain ⟨k0, k1, k2, k3⟩ := h.1 k hk
    have yk : X 2 k = nI (sz (A.1 k)) := (h.2 k hk).1
    refine mo_b1 m_g1 (mo_b1 (ld2 rfl hk) ?_)
    rw [yk]
    rcases Nat.eq_zero_or_pos (A.1 k) with g | g
    · exact mo_R (if_neg (by omega)) (mo_t (by rw [g]; rfl) (Mo.no h rfl))
    · refine mo_R (if_pos ⟨hil, g⟩) (mo_f (nI_ne0 (sz_pos g) (by omega)) ?_)
      refine mo_b1 m_g2 (mo_b1 (ld3 rfl hj) (mo_b1 m_g2 (mo_b1 (ld3 rfl hk) ?_)))
      refine mo_le (y := sg (A.1 j * A.1 k) (xor (A.2.1 j) (A.2.1 k))) (by rw [sgn_r h hj, sgn_r h hk, sg_mul]) ?_
      refine mo_b1 m_g2 (mo_b1 (ld3 rfl hj) ?_)
      rw [sgn_r h hj]
      refine mo_b1 m_g3 (mo_b1 (ld4 rfl hj) (mo_b1 m_g3 (mo_b1 (ld4 rfl hk) ?_)))
      obtain ⟨t, ht⟩ : ∃ t, A.2.2 j - A.2.2 k = t := ⟨_, rfl⟩
      refine mo_le (y := lZ t) (by rw [scl_r h hj, scl_r h hk, lZ_sub, ht]) ?_
      rw [ht]
      obtain ⟨X1, a1, a2, a3, a4⟩ := t_mload (σ := σ) (o := o) (r := 0) (u := 0) (by decide) hj rfl rfl h
      obtain ⟨X2, b1, b2, b3, b4⟩ := t_mload (σ := σ) (o := o) (r := 1) (u := 1) (by decide) hk rfl rfl (h.ot a3)
      have h2 := (h.ot a3).ot b3
      have kt := a3.kt.trans b3.kt
      have r0 : Rw X2 0 (A.1 j) := a2.ot b3 (by decide) (by decide)
      have sk := sz_pos g
      refine mo_bd a1 (mo_bd b1 (mo_jn ?_))
      -- the end
      have fin : ∀ X3 (z1 : Int64) (z2 : Int32) (up Q : Nat) (s : Int), Kt X X3 → RG X3 A → Rw X3 1 (A.1 k) → Rw X3 2 Q → z1 = lZ s → z2 = nI up → up ≤ 12500 → -1000000000000 ≤ s → s < 1000000000000 → Q * A.1 k ≤ A.1 j * 10 ^ up → Mo σ o X (bd (f_X6_remains (mst σ o X3) o (nI i) (nI l) (nI j) (nI k) z1 z2 (sg (A.1 j * A.1 k) (xor (A.2.1 j) (A.2.1 k))) (sg (A.1 j) (A.2.1 j))) fun x22 σ23 => (isB x22).bind fun _ => some (x22, σ23, 0, 0)) (wkA i l Q (xor (A.2.1 j) (A.2.1 k)) s (A.1 j * 10 ^ up - Q * A.1 k) (A.2.1 j) (A.2.2 j + up) A) := by
        intro X3 z1 z2 up Q s kt3 h3 q1 q2 e1 e2 hup s1 s2 hle
        refine mo_rt kt3 (t_mremains hi hl hil hj rfl rfl rfl e1 s1 s2 e2 hup h3 q1 q2 k0 hle (fun hQ => ?_) rfl) isB_wk
        have hj0 : 0 < A.1 j := Nat.pos_of_ne_zero fun z => by
          rw [z, Nat.zero_mul] at hle
          have := Nat.mul_pos hQ g
          omega
        exact sg_pos (Nat.mul_pos hj0 g)
      by_cases ht0 : t ≤ 0
      · refine mo_R (if_neg (by omega)) (mo_t ((lZ_le (b := 0) (by omega) (by omega) (by omega) (by omega)).mpr ht0) ?_)
        obtain ⟨X3, d1, d2, d3, d4, d5⟩ := t_mquo (σ := σ) (o := o) r0 b2 g (by omega)
        have h3 := h2.ot d4
        have e0 : A.1 j * 10 ^ 0 = A.1 j := by rw [Nat.pow_zero, Nat.mul_one]
        obtain ⟨T, hT⟩ : ∃ T, (-t).toNat = T := ⟨_, rfl⟩
        obtain ⟨n, X4, q1, q2, q3, q4, q5, q6, q7, q8⟩ := t_mwh_loop (σ := σ) (o := o) (T := T) (i1 := nI i) (i2 := nI l) (i3 := nI j) (i4 := nI k) (i5 := sg (A.1 j * A.1 k) (xor (A.2.1 j) (A.2.1 k))) (i6 := sg (A.1 j) (A.2.1 j)) (j7 := lZ t) (by congr 1; omega) (by omega) c0 g k0 FU 0 X3 (by omega) (by omega) (by omega) (fun j hj => by omega) (b2.ot d4 (by decide) (by decide)) (by rw [e0]; exact d2) (by rw [e0]; exact d3)
        have h4 := h3.ot q6
        have kt4 := (kt.trans d4.kt).trans q6.kt
        refine mo_bd d1 (mo_bd q1 ?_)
        have pre3 : ldI (mst σ o X4) (o + 6) 3 = some (nI (sz (A.1 j * 10 ^ n % A.1 k))) := (ld6 (i := 3) rfl (by decide)).trans (by rw [q5.2.1])
        have pre2 : ldI (mst σ o X4) (o + 6) 2 = some (nI (sz (A.1 j * 10 ^ n / A.1 k))) := (ld6 (i := 2) rfl (by decide)).trans (by rw [q4.2.1])
        have s3 := q5.1
        have s2 := q4.1
        refine mo_b1 m_g5 (mo_b1 pre3 (mo_jn ?_))
        have go : (A.1 j * 10 ^ n % A.1 k = 0 ∨ T ≤ n) → Mo σ o X ((f_X6_zeros (mst σ o X4) o 2).bind fun x46 => (gR (mst σ o X4) 6 o 5).bind fun r47 => (ldI (mst σ o X4) r47 2).bind fun x48 => jn (fun (z49 : Int32) => (bd (f_X6_lower (mst σ o X4) o 2 ((z49 : Int32).toInt64)) fun _ σ50 => lt (nI n - z49) fun x51 => lt (lZ t + ((x51 : Int32).toInt64)) fun l52 => (bd (f_X6_remains σ50 o (nI i) (nI l) (nI j) (nI k) l52 x51 (sg (A.1 j * A.1 k) (xor (A.2.1 j) (A.2.1 k))) (sg (A.1 j) (A.2.1 j))) fun x22 σ23 => (isB x22).bind fun _ => some (x22, σ23, 0, 0)))) fun k49 => jn (fun (z53 : Unit) => (k49 (nI n))) fun k53 => if x48 = 0 then (k53 ()) else if x46 ≤ nI n then (k49 x46) else k53 ()) (wTA i l (A.1 j) (A.1 k) (xor (A.2.1 j) (A.2.1 k)) (A.2.1 j) t (A.2.2 j) A) := by
          intro he
          obtain ⟨e, z1, z2, z3⟩ := t_mzeros (σ := σ) (o := o) (y := 2) (by decide) q4 rfl
          have hez := ez_un z2
          subst hez
          refine mo_b1 z1 (mo_b1 m_g5 (mo_b1 pre2 (mo_jn (mo_jn ?_))))
          have last : ∀ (z : Nat) (zI : Int32), zI = nI z → z = (if A.1 j * 10 ^ n / A.1 k = 0 then n else min n (ez (A.1 j * 10 ^ n / A.1 k))) → Mo σ o X (bd (f_X6_lower (mst σ o X4) o 2 ((zI : Int32).toInt64)) fun _ σ50 => lt (nI n - zI) fun x51 => lt (lZ t + ((x51 : Int32).toInt64)) fun l52 => (bd (f_X6_remains σ50 o (nI i) (nI l) (nI j) (nI k) l52 x51 (sg (A.1 j * A.1 k) (xor (A.2.1 j) (A.2.1 k))) (sg (A.1 j) (A.2.1 j))) fun x22 σ23 => (isB x22).bind fun _ => some (x22, σ23, 0, 0))) (wTA i l (A.1 j) (A.1 k) (xor (A.2.1 j) (A.2.1 k)) (A.2.1 j) t (A.2.2 j) A) := by
            intro z zI hzI hz
            subst hzI
            have hzn : z ≤ n := by
              rw [hz]; split <;> omega
            obtain ⟨X5, f1, f2, f3, f4⟩ := t_mlower (σ := σ) (o := o) (r := 2) (y := 2) (b := (z : Int)) (z := (nI z).toInt64) (by decide) q4 rfl (by rw [nI_l (by omega), lZ_n]) (by omega) (by omega)
            rw [Int.toNat_natCast] at f2
            refine mo_bd f1 (mo_le (y := nI (n - z)) (pk_sub hzn) (mo_le (y := lZ (t + (n - z : Nat))) (by rw [nI_l (by omega), lZ_n, lZ_add]) ?_))
            have hdz : 10 ^ z ∣ A.1 j * 10 ^ n / A.1 k := by
              rcases Nat.eq_zero_or_pos (A.1 j * 10 ^ n / A.1 k) with w | w
              · rw [w]; exact Nat.dvd_zero _
              · rw [if_neg (by omega)] at hz
                exact (ez_dvd w).mpr (by omega)
            obtain ⟨-, e4⟩ := rem_low (x := A.1 j) (y := A.1 k) hzn hdz
            have end' := fin X5 (lZ (t + (n - z : Nat))) (nI (n - z)) (n - z) (A.1 j * 10 ^ n / A.1 k / 10 ^ z) (t + (n - z : Nat)) (kt4.trans f3.kt) (h4.ot f3) ((b2.ot d4 (by decide) (by decide)).ot q6 (by decide) (by decide) |>.ot f3 (by decide) (by decide)) f2 rfl rfl (by omega) (by omega) (by omega) e4
            rcases wT_ok (i := i) (l := l) (nq := xor (A.2.1 j) (A.2.1 k)) (nr := A.2.1 j) (sa := A.2.2 j) (A := A) c0 g k0 ht0 q2 (by omega) q7 (by rw [hT]; exact he) hz with ⟨w1, w2⟩ | w
            · rw [w2]
              rw [wk_big w1] at end'
              exact end'
            · rw [w]; exact end'
          by_cases hQ0 : A.1 j * 10 ^ n / A.1 k = 0
          · refine mo_t (by rw [hQ0]; rfl) ?_
            exact last n _ rfl (by rw [if_pos hQ0])
          · refine mo_f (nI_ne0 (sz_pos (Nat.pos_of_ne_zero hQ0)) (by omega)) ?_
            by_cases hzn : ez (A.1 j * 10 ^ n / A.1 k) ≤ n
            · refine mo_t (nI_le hzn (by omega)) ?_
              exact last _ _ rfl (by rw [if_neg hQ0]; omega)
            · refine mo_f (nI_ge (by omega) (by omega)) ?_
              exact last n _ rfl (by rw [if_neg hQ0]; omega)
        by_cases hR : A.1 j * 10 ^ n % A.1 k = 0
        · exact mo_t (by rw [hR]; decide) (go (Or.inl hR))
        · refine mo_f (nI_nle (sz_pos (by omega)) (by omega)) ?_
          have eT : -lZ t = lZ T := by rw [lZ_neg]; congr 1; omega
          have en : (nI n).toInt64 = lZ n := by rw [nI_l (by omega), lZ_n]
          rw [eT, en]
          by_cases hTn : T ≤ n
          · exact mo_t ((lZ_le (by omega) (by omega) (by omega) (by omega)).mpr (by omega)) (go (Or.inr hTn))
          · refine mo_f (fun w => by have := (lZ_le (by omega) (by omega) (by omega) (by omega)).mp w; omega) ?_
            refine mo_R (R := (0, A)) ?_ ⟨X4, rfl, h4, kt4⟩
            have hn : n = 12500 := by
              rcases q8 with w | w | w
              · exact absurd w hR
              · omega
              · omega
            have hj0 : 0 < A.1 j := Nat.pos_of_ne_zero fun z => hR (by rw [z, Nat.zero_mul, Nat.zero_mod])
            have sj := sz_pos hj0
            unfold wTA
            rw [hT]
            have hbig : ¬ A.1 j * 10 ^ T < A.1 k := fun w => by
              have h1 : 10 ^ T ≤ A.1 j * 10 ^ T := Nat.le_mul_of_pos_left _ hj0
              have h2 := sz_le.mp k0
              have h3 : 10 ^ 4096 ≤ 10 ^ T := p10_le (by omega)
              omega
            rw [if_neg hbig, if_pos ⟨q7 _ (by omega), by omega⟩]
      · have ht1 : 0 < t := by omega
        refine mo_R (if_pos ht1) (mo_f (fun w => ht0 ((lZ_le (b := 0) (by omega) (by omega) (by omega) (by omega)).mp w)) ?_)
        obtain ⟨T, rfl⟩ : ∃ T : Nat, t = T := ⟨t.toNat, by omega⟩
        rw [Int.toNat_natCast]
        refine mo_b1 m_g1 (mo_b1 (ld2 rfl hj) (mo_b1 m_g1 (mo_b1 (ld2 rfl hk) ?_)))
        rw [(h2.2 j hj).1, (h2.2 k hk).1, nI_l (by omega), nI_l (by omega), lZ_n, lZ_n, lZ_add]
        have hkT : 0 < A.1 k * 10 ^ T := Nat.mul_pos g (p10_pos T)
        have skT : sz (A.1 k * 10 ^ T) = sz (A.1 k) + T := sz_mul g
        by_cases hbig : (sz (A.1 k) : Int) + T ≤ sz (A.1 j)
        · refine mo_t ((lZ_le (by omega) (by omega) (by omega) (by omega)).mpr hbig) ?_
          obtain ⟨X3, d1, d2, d3, d4⟩ := t_mraise (σ := σ) (o := o) (r := 1) (y := 1) (z := (lZ (T : Int) : Int64).toInt32) (k := T) (by decide) b2 rfl (by rw [lZ_i]; rfl) (by omega)
          obtain ⟨X4, e1, e2, e3, e4, e5⟩ := t_mquo (σ := σ) (o := o) (r0.ot d3 (by decide) (by decide)) d2 hkT (by omega)
          have h4 := (h2.ot d3).ot e4
          obtain ⟨X5, f1, f2, f3, f4⟩ := t_mload (σ := σ) (o := o) (r := 1) (u := 1) (by decide) hk rfl rfl h4
          have h5 := h4.ot f3
          have kt5 := ((kt.trans d3.kt).trans e4.kt).trans f3.kt
          have r52 := e2.ot f3 (by decide) (by decide)
          obtain ⟨Q, hQ⟩ : ∃ Q, A.1 j / (A.1 k * 10 ^ T) = Q := ⟨_, rfl⟩
          rw [hQ] at r52 ⊢
          have hdm := Nat.div_add_mod (A.1 j) (A.1 k * 10 ^ T)
          rw [hQ] at hdm
          have em : Q * 10 ^ T * A.1 k = A.1 k * 10 ^ T * Q := by grind
          have sQ : sz Q ≤ 4096 := by
            rw [← hQ]
            exact sz_le.mpr (Nat.lt_of_le_of_lt (Nat.div_le_self _ _) (sz_le.mp c0))
          refine mo_bd d1 (mo_bd e1 (mo_bd f1 ?_))
          have pre2 : ldI (mst σ o X5) (o + 6) 2 = some (nI (sz Q)) := (ld6 (i := 2) rfl (by decide)).trans (by rw [r52.2.1])
          refine mo_b1 m_g5 (mo_b1 pre2 ?_)
          rw [nI_l (by omega), lZ_n, lZ_add]
          by_cases hs : (sz Q : Int) + T ≤ 4096
          · refine mo_t ((lZ_le (b := 4096) (by omega) (by omega) (by omega) (by omega)).mpr hs) ?_
            obtain ⟨X6, u1, u2, u3, u4⟩ := t_mraise (σ := σ) (o := o) (r := 2) (y := 2) (z := (lZ (T : Int) : Int64).toInt32) (k := T) (by decide) r52 rfl (by rw [lZ_i]; rfl) (by omega)
            refine mo_bd u1 ?_
            have end' := fin X6 (lZ (T : Int)) 0 0 (Q * 10 ^ T) (T : Int) (kt5.trans u3.kt) (h5.ot u3) (f2.ot u3 (by decide) (by decide)) u2 rfl rfl (by omega) (by omega) (by omega) (by rw [Nat.pow_zero, Nat.mul_one, em]; omega)
            rw [Nat.pow_zero, Nat.mul_one, em, show A.1 j - A.1 k * 10 ^ T * Q = A.1 j % (A.1 k * 10 ^ T) by omega, show A.2.2 j + ((0 : Nat) : Int) = A.2.2 j by omega] at end'
            exact end'
          · refine mo_f (fun w => hs ((lZ_le (b := 4096) (by omega) (by omega) (by omega) (by omega)).mp w)) ?_
            refine mo_R (wk_big ?_) ⟨X5, rfl, h5, kt5⟩
            have hQ0 : 0 < Q := Nat.pos_of_ne_zero fun z => by rw [z, sz_0] at hs; omega
            rw [sz_mul hQ0]
            omega
        · refine mo_f (fun w => hbig ((lZ_le (by omega) (by omega) (by omega) (by omega)).mp w)) ?_
          have hlt : A.1 j < A.1 k * 10 ^ T := by
            have h1 := sz_lt (A.1 j)
            have h2 := sz_ge hkT
            rw [skT] at h2
            exact Nat.lt_of_lt_of_le h1 (Nat.le_trans (p10_le (by omega)) h2)
          rw [Nat.div_eq_of_lt hlt, Nat.mod_eq_of_lt hlt, Nat.zero_mul]
          refine mo_b1 m_g5 (mo_b1 (st6 (i := 2) rfl (by decide)) ?_)
          have O4 : Ot (fun q => q = 2) X2 (ups X2 6 (upd (X2 6) 2 0)) := Ot.m6
          have end' := fin _ (lZ (T : Int)) 0 0 0 (T : Int) (kt.trans O4.kt) (h2.ot O4) (b2.ot O4 (by decide) (by decide)) ⟨by decide, by rw [ups_s, pk_us]; rfl, fun t ht => by rw [sz_0] at ht; omega⟩ rfl rfl (by omega) (by omega) (by omega) (by rw [Nat.zero_mul]; omega)
          rw [Nat.pow_zero, Nat.mul_one, Nat.zero_mul, Nat.sub_zero, show A.2.2 j + ((0 : Nat) : Int) = A.2.2 j by omega] at end'
          exact end'
end MWh2
