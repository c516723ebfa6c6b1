/-! ===== rounding of the object ===== -/
theorem upA_u {α : Type} {f : Nat → α} {i : Nat} {a b : α} : upA (upA f i a) i b = upA f i b := by
  funext j
  unfold upA
  by_cases h : j = i
  · rw [if_pos h, if_pos h]
  · rw [if_neg h, if_neg h, if_neg h]
def gtreeC (i0 i1 i2 i3 : Int32) : Option Int32 :=
  if i1 = 0 then ((isB 0).bind fun _ => some 0) else
  if i0 = 0 then ((isB 1).bind fun _ => some 1) else
  if i0 = 2 then (if i2 = 0 then ((isB 1).bind fun _ => some 1) else (isB 0).bind fun _ => some 0) else
  if i0 = 3 then ((isB i2).bind fun _ => some i2) else
  if i0 = 4 then (if i1 < 2 then ((isB 0).bind fun _ => some 0) else (isB 1).bind fun _ => some 1) else
  if i0 = 5 then (if i1 = 3 then ((isB 1).bind fun _ => some 1) else (isB 0).bind fun _ => some 0) else
  if i0 = 6 then (if i1 = 3 then ((isB 1).bind fun _ => some 1) else if i1 = 2 then (if i3 = 0 then ((isB 0).bind fun _ => some 0) else (isB 1).bind fun _ => some 1) else (isB 0).bind fun _ => some 0) else
  (isB 0).bind fun _ => some 0
theorem gtreeC_ok : ∀ (h : Fin 8) (l : Fin 4) (n : Bool) (o : Fin 2), gtreeC (nI h.1) (nI l.1) (bI n) (nI o.1) = some (bI (gu h.1 l.1 n (decide (o.1 = 1)))) := by decide +kernel
section C2
variable {t : Nat} {σ : St} {L c V : Nat → Nat} {A : AS} {T W : TS}
theorem t_cgf {how lost x : Nat} {n : Bool} (hh : how < 8) (hl : lost < 4) : f_X5_goesFarther σ (nI how) (nI lost) (bI n) (nI (x % 2)) = some (bI (gu how lost n (decide (x % 2 = 1)))) := gtreeC_ok ⟨how, hh⟩ ⟨lost, hl⟩ n ⟨x % 2, Nat.mod_lt _ (by decide)⟩
theorem j_minLZ {a b : Int} {x y : Int64} (hx : x = lZ a) (hy : y = lZ b) (a1 : -9223372036854775808 ≤ a) (a2 : a < 9223372036854775808) (b1 : -9223372036854775808 ≤ b) (b2 : b < 9223372036854775808) : f_J9_min_f86c9 σ x y = some (lZ (min a b)) := by
  subst hx hy
  unfold f_J9_min_f86c9
  by_cases h : b < a
  · rw [if_pos ((lZ_lt b1 b2 a1 a2).mpr h), Int.min_eq_right (by omega)]
  · rw [if_neg (fun z => h ((lZ_lt b1 b2 a1 a2).mp z)), Int.min_eq_left (by omega)]
theorem j_maxLZ {a b : Int} {x y : Int64} (hx : x = lZ a) (hy : y = lZ b) (a1 : -9223372036854775808 ≤ a) (a2 : a < 9223372036854775808) (b1 : -9223372036854775808 ≤ b) (b2 : b < 9223372036854775808) : f_J9_max_f86c9 σ x y = some (lZ (max a b)) := by
  subst hx hy
  unfold f_J9_max_f86c9
  by_cases h : a < b
  · rw [if_pos ((lZ_lt a1 a2 b1 b2).mpr h), Int.max_eq_right (by omega)]
  · rw [if_neg (fun z => h ((lZ_lt a1 a2 b1 b2).mp z)), Int.max_eq_left (by omega)]
theorem t_cdr {j k up : Nat} {a1 a3 : Nat} {u : Int32} (h : CI t σ L c V A T W) (hj : j < 11) (hk : k < 11) (j8 : j ≠ 8) (j9 : j ≠ 9) (k8 : k ≠ 8) (k9 : k ≠ 9) (e1 : a1 = nA t j) (e3 : a3 = nA t k) (hu : u = nI up) (hup : up < 17000) (hb : sz (V j * 10 ^ up) ≤ 16999) (hy : 0 < V k) : Cw t σ L c A T W (f_X5_divideRaised σ t a1 u a3) (fun r V' => r = bI (decide (V j * 10 ^ up % V k ≠ 0)) ∧ V' = upA (upA V 8 (V j * 10 ^ up % V k)) 9 (V j * 10 ^ up / V k)) := by
  subst e1 e3
  unfold f_X5_divideRaised
  refine e_ob h.t5 (e_b1 h.g1 ?_)
  refine cw_bw (cw_p1 h (by decide) (by decide) (t_raise h.dm h.tn (h.nv (by decide)) (h.nv hj) (fun w => h.inj (by decide) (by omega) (Ne.symm j8)) (fun w => absurd w (nA_inj (by decide) hj (Ne.symm j8))) hu hup (Em_ge hb))) ?_
  rintro r σ1 L1 c1 V1 h1 rfl
  refine e_b1 h1.g1 (e_b1 h1.g2 ?_)
  have v8 := h1.nv (i := 8) (by decide)
  have vk := h1.nv hk
  rw [upA_s] at v8
  rw [upA_n k8] at vk
  have red := t_reduce h1.dm v8 (h1.nv (i := 9) (by decide)) vk (nA_inj (by decide) (by decide) (by decide)) (nA_inj (by decide) hk (Ne.symm k8)) (nA_inj (by decide) hk (Ne.symm k9)) (h1.inj (by decide) (by decide) (by decide)) (h1.inj (by decide) (by omega) (Ne.symm k8)) (h1.inj (by decide) (by omega) (Ne.symm k9)) (Em_ge hb) hy
  have cw2 : Cw t σ1 L1 c1 A T W (f_X2_reduce σ1 (nA t 8) (nA t 9) (nA t k)) (fun _ V' => V' = upA (upA V 8 (V j * 10 ^ up % V k)) 9 (V j * 10 ^ up / V k)) := by
    refine e_im red (fun r σ2 k' s' hP => ?_)
    obtain ⟨L', c', g1, g2⟩ := h1.p2 hP
    rw [upA_u] at g1
    exact ⟨L', c', _, g1, g2, rfl⟩
  refine cw_bw cw2 ?_
  rintro r σ2 L2 c2 V2 h2 rfl
  have v8' := h2.nv (i := 8) (by decide)
  rw [upA_n (by decide), upA_s] at v8'
  refine e_b1 h2.g1 (e_b1 (t_isZero v8') ?_)
  by_cases hz : V j * 10 ^ up % V k = 0
  · refine e_f (by rw [if_pos hz]; decide) (cw_no h2 ⟨?_, rfl⟩)
    rw [decide_eq_false (fun w => w hz)]; rfl
  · refine e_t (by rw [if_neg hz]) (cw_no h2 ⟨?_, rfl⟩)
    rw [decide_eq_true hz]; rfl
theorem t_ccut {k how : Nat} {more n : Bool} {i1 i2 i3 i4 : Int32} (h : CI t σ L c V A T W) (e1 : i1 = nI k) (e2 : i2 = bI more) (e3 : i3 = bI n) (e4 : i4 = nI how) (hk : k < 100000) (hh : how < 8) (hb : sz (V 9) ≤ 16999) : Cw t σ L c A T W (f_X5_cutQuotient σ t i1 i2 i3 i4) (fun r V' => if lostc (V 9 % 10 ^ k) (10 ^ k) more ≠ 0 ∧ how = 7 then r = 0 else r = 1 ∧ V' = upA V 9 (rn (V 9 / 10 ^ k) (lostc (V 9 % 10 ^ k) (10 ^ k) more) how n)) := by
  subst e1 e2 e3 e4
  unfold f_X5_cutQuotient
  refine e_ob h.t5 (e_b1 h.g2 ?_)
  obtain ⟨lost, hlost⟩ : ∃ lost, lostc (V 9 % 10 ^ k) (10 ^ k) more = lost := ⟨_, rfl⟩
  have hl4 := lost_lt (V 9 % 10 ^ k) (10 ^ k) more
  rw [hlost] at hl4 ⊢
  have cw1 : Cw t σ L c A T W (f_X2_cut σ (nA t 9) (nI k) (bI more)) (fun r V' => r = nI lost ∧ V' = upA V 9 (V 9 / 10 ^ k)) := by
    refine e_im (t_cut h.tn (h.nv (by decide)) rfl (by omega)) ?_
    rintro r σ1 kc sc ⟨q1, q2⟩
    obtain ⟨L', c', g1, g2⟩ := h.p1 (by decide) (by decide) q2
    exact ⟨L', c', _, g1, g2, by rw [q1, hlost], rfl⟩
  refine cw_bw cw1 ?_
  rintro r σ1 L1 c1 V1 h1 ⟨rfl, rfl⟩
  have v9 := h1.nv (i := 9) (by decide)
  rw [upA_s] at v9
  refine e_jn (fun _ => ¬ (lost ≠ 0 ∧ how = 7)) ?_ ?_
  · intro _ hne
    refine e_b1 h1.g2 (e_b1 (t_isOdd v9) (e_b1 (t_cgf hh hl4) ?_))
    by_cases hg : gu how lost n (decide (V 9 / 10 ^ k % 2 = 1)) = true
    · rw [hg]
      refine e_f (by decide) (e_b1 h1.g2 ?_)
      have hsm : V 9 / 10 ^ k < 10 ^ Em := Nat.lt_of_le_of_lt (Nat.div_le_self _ _) (Em_ge hb)
      refine cw_bw (cw_p1 h1 (by decide) (by decide) (t_addOne h1.dm v9 hsm)) ?_
      rintro r σ2 L2 c2 V2 h2 rfl
      refine cw_no h2 ?_
      rw [if_neg hne, upA_u]
      refine ⟨rfl, ?_⟩
      unfold rn
      rw [if_pos hg]
    · rw [Bool.eq_false_iff.mpr hg]
      refine e_t rfl (cw_no h1 ?_)
      rw [if_neg hne]
      refine ⟨rfl, ?_⟩
      unfold rn
      rw [if_neg hg]
  · intro k4 hk4
    by_cases h0 : lost = 0
    · exact e_t (by rw [h0]; rfl) (hk4 () (fun w => w.1 h0))
    · refine e_f (nI_ne0 (by omega) (by omega)) ?_
      by_cases h7 : how = 7
      · refine e_t (by rw [h7]; rfl) (cw_no h1 ?_)
        rw [if_pos ⟨h0, h7⟩]
      · exact e_f (fun w => h7 ((nI_eq (b := 7) (by omega) (by decide)).mp w)) (hk4 () (fun w => h7 w.2))
theorem onR_fnA {d : Int32} {m lost how : Nat} {n : Bool} {s : Int} : (onR d A fun i => fnA i m lost how n s A) = if lost ≠ 0 ∧ how = 7 then (0, A) else kD d (rn m lost how n) n s A := by
  unfold fnA
  rw [onR_if, onR_0]
  rfl
theorem onR_fnT {d : Int32} {m lost how p : Nat} {n : Bool} {s : Int} : (onR d A fun i => fnT i m lost how n s p A) = if lost ≠ 0 ∧ how = 7 then (0, A) else if sz (rn m lost how n) ≤ p then kD d (rn m lost how n) n s A else kD d (rn m lost how n / 10) n (s - 1) A := by
  unfold fnT
  rw [onR_if, onR_0]
  congr 1
  rw [onR_if]
  rfl
theorem isB_R {R : Int32 × AS} (h : R = (0, A) ∨ ∃ d m n s, R = kD d m n s A) : isB R.1 = some () := by
  rcases h with rfl | ⟨d, m, n, s, rfl⟩
  · rfl
  · exact isB_kD
theorem isB_fT {d : Int32} {m lost how p : Nat} {n : Bool} {s : Int} : isB (onR d A fun i => fnT i m lost how n s p A).1 = some () := isB_onR fun _ => isB_fnT
theorem t_ckr {d : Int32} {n more : Bool} {s : Int} {p how : Nat} {i2 i5 i6 i7 : Int32} {j3 : Int64} (h : CI t σ L c V A T W) (e2 : i2 = bI n) (e3 : j3 = lZ s) (e5 : i5 = bI more) (e6 : i6 = nI p) (e7 : i7 = nI how) (hh : how < 8) (hp : 0 < p) (hb : sz (V 9) ≤ 16990) (hpn : p < sz (V 9)) (s1 : -1000000000000 ≤ s) (s2 : s < 1000000000000) : Cc t σ L c (f_X5_keepRounded σ t d i2 j3 i5 i6 i7) (onR d A fun i => fnT i (V 9 / 10 ^ (sz (V 9) - p)) (lostc (V 9 % 10 ^ (sz (V 9) - p)) (10 ^ (sz (V 9) - p)) more) how n (s - (sz (V 9) - p : Nat)) p A) T W := by
  subst e2 e3 e5 e6 e7
  have hv0 : 0 < V 9 := Nat.pos_of_ne_zero fun w => by rw [w, sz_0] at hpn; omega
  have hnd : nd (V 9) = sz (V 9) := by rw [nd_sz, if_neg (by omega)]
  unfold f_X5_keepRounded
  refine e_ob h.t5 (e_b1 h.g2 (e_b1 (t_digitCount h.tn (h.nv (by decide))) ?_))
  obtain ⟨dr, hdr⟩ : ∃ dr, sz (V 9) - p = dr := ⟨_, rfl⟩
  rw [hdr]
  refine e_le (x := nI dr) (by rw [hnd, pk_sub (by omega), hdr]) ?_
  obtain ⟨lost, hlost⟩ : ∃ lost, lostc (V 9 % 10 ^ dr) (10 ^ dr) more = lost := ⟨_, rfl⟩
  have cut := t_ccut (k := dr) (how := how) (more := more) (n := n) h rfl rfl rfl rfl (by omega) hh (by omega)
  rw [hlost] at cut ⊢
  obtain ⟨m, hm⟩ : ∃ m, V 9 / 10 ^ dr = m := ⟨_, rfl⟩
  have hmsz : sz m = p := by rw [← hm, sz_div]; omega
  rw [hm] at cut ⊢
  have hm0 : 0 < m := Nat.pos_of_ne_zero fun w => by rw [w, sz_0] at hmsz; omega
  rw [onR_fnT]
  refine cw_bd cut ?_
  intro r σ1 L1 c1 V1 h1 hr
  by_cases hc : lost ≠ 0 ∧ how = 7
  · rw [if_pos hc] at hr ⊢
    subst hr
    exact e_t rfl (cc_no h1)
  · rw [if_neg hc] at hr ⊢
    obtain ⟨rfl, rfl⟩ := hr
    refine e_f (by decide) ?_
    have v9 := h1.nv (i := 9) (by decide)
    rw [upA_s] at v9
    have hr1 : sz (rn m lost how n) ≤ p + 1 := rn_sz (by omega)
    have hrp : 0 < rn m lost how n := by unfold rn; split <;> omega
    have hndr : nd (rn m lost how n) = sz (rn m lost how n) := by rw [nd_sz, if_neg (by omega)]
    refine e_b1 h1.g2 (e_b1 (t_digitCount h1.tn v9) ?_)
    rw [hndr]
    refine e_jq ?_
    by_cases hle : sz (rn m lost how n) ≤ p
    · rw [if_pos hle]
      refine e_t (nI_le hle (by omega)) ?_
      refine e_b1 h1.g2 ?_
      have := t_ckeep (d := d) (m := 9) (n := n) (z := s - dr) (j4 := lZ s - (nI dr).toInt64) h1 (by decide) rfl rfl (by rw [nI_l (by omega), lZ_n, lZ_sub]) (by omega) (by omega)
      rw [upA_s] at this
      exact cc_rt this isB_kD
    · rw [if_neg hle]
      refine e_f (nI_ge (by omega) (by omega)) ?_
      refine e_b1 h1.g2 ?_
      refine cw_bd (cw_p1 h1 (by decide) (by decide) (t_drop (k := 1) h1.tn v9 rfl (by decide))) ?_
      rintro r σ2 L2 c2 V2 h2 rfl
      refine e_le (nI_1 dr) ?_
      refine e_b1 h2.g2 ?_
      have := t_ckeep (d := d) (m := 9) (n := n) (z := s - dr - 1) (j4 := lZ s - (nI (dr + 1)).toInt64) h2 (by decide) rfl rfl (by rw [nI_l (by omega), lZ_n, lZ_sub]; congr 1; omega) (by omega) (by omega)
      rw [upA_s, Nat.pow_one] at this
      exact cc_rt this isB_kD
theorem isB_f2 {d : Int32} {m lost how p : Nat} {n : Bool} {s z : Int} : isB (onR d A fun i => fin2 i m lost how n s z p A).1 = some () := isB_onR fun _ => isB_fin2
/-- settle -/
theorem t_csettle {d : Int32} {n more : Bool} {s z : Int} {p how : Nat} {i2 i5 i8 i9 : Int32} {j3 j6 : Int64} (h : CI t σ L c V A T W) (e2 : i2 = bI n) (e3 : j3 = lZ s) (e5 : i5 = bI more) (e6 : j6 = lZ z) (e8 : i8 = nI p) (e9 : i9 = nI how) (hh : how < 8) (hp : 0 < p) (hb : sz (V 9) ≤ 16990) (hpn : p < sz (V 9)) (s1 : -100000000000 ≤ s) (s2 : s < 100000000000) (z1 : -100000000000 ≤ z) (z2 : z < 100000000000) : Cc t σ L c (f_X5_settle σ t d i2 j3 i5 j6 i8 i9) (onR d A fun i => fin2 i (V 9 / 10 ^ (sz (V 9) - p)) (lostc (V 9 % 10 ^ (sz (V 9) - p)) (10 ^ (sz (V 9) - p)) more) how n (s - (sz (V 9) - p : Nat)) z p A) T W := by
  have hv0 : 0 < V 9 := Nat.pos_of_ne_zero fun w => by rw [w, sz_0] at hpn; omega
  have hnd : nd (V 9) = sz (V 9) := by rw [nd_sz, if_neg (by omega)]
  have kr := t_ckr (d := d) (n := n) (more := more) (s := s) (p := p) (how := how) h e2 e3 e5 e8 e9 hh hp hb hpn (by omega) (by omega)
  subst e2 e3 e5 e6 e8 e9
  unfold f_X5_settle
  obtain ⟨ze, q1, q2, q3⟩ := t_endingZeros h.tn (h.nv (i := 9) (by decide))
  have he := ez_un q2
  subst he
  have hez := ez_sz (q := V 9)
  refine e_ob h.t5 (e_b1 h.g2 (e_b1 q1 (e_b1 h.g2 (e_b1 (t_digitCount h.tn (h.nv (by decide))) ?_))))
  refine e_le (x := nI (sz (V 9) - ez (V 9))) (by rw [hnd, pk_sub hez]) ?_
  obtain ⟨dr, hdr⟩ : ∃ dr, sz (V 9) - p = dr := ⟨_, rfl⟩
  rw [hdr] at kr ⊢
  have hzi : lostc (V 9 % 10 ^ dr) (10 ^ dr) more = 0 ↔ (more = false ∧ sz (V 9) - ez (V 9) ≤ p) := by
    rw [lost_z (p10_pos _), ← Nat.dvd_iff_mod_eq_zero, ez_dvd hv0]
    constructor
    · rintro ⟨w1, w2⟩; exact ⟨w2, by omega⟩
    · rintro ⟨w1, w2⟩; exact ⟨by omega, w1⟩
  unfold fin2
  rw [onR_if]
  refine e_jn (fun _ => lostc (V 9 % 10 ^ dr) (10 ^ dr) more ≠ 0) ?_ ?_
  · intro _ hl
    rw [if_neg hl]
    exact cc_rt kr isB_fT
  · intro k6 hk6
    cases more with
    | true => exact e_f (by decide) (hk6 () (fun w => by cases (hzi.mp w).1))
    | false =>
      refine e_t rfl ?_
      by_cases hle : sz (V 9) - ez (V 9) ≤ p
      · refine e_t (nI_le hle (by omega)) ?_
        rw [if_pos (hzi.mpr ⟨rfl, hle⟩)]
        have hdz : dr ≤ ez (V 9) := by omega
        have eez := ez_dv hv0 hdz
        have hcz : sz (V 9 / 10 ^ dr / 10 ^ ez (V 9 / 10 ^ dr)) = sz (V 9) - ez (V 9) := by rw [sz_div, sz_div, eez]; omega
        have hst : stS (V 9 / 10 ^ dr) (s - dr) z p = max (s - ez (V 9)) (min (s - ez (V 9) + p - (sz (V 9) - ez (V 9) : Nat)) z) := by
          unfold stS
          rw [hcz, eez]
          congr 1
          · omega
          · congr 1; omega
        obtain ⟨nr, hnr⟩ : ∃ nr, stS (V 9 / 10 ^ dr) (s - dr) z p = nr := ⟨_, rfl⟩
        have hb1 : s - ez (V 9) ≤ nr ∧ nr ≤ s := by rw [hnr] at hst; omega
        refine e_le (x := lZ (s - ez (V 9))) (by rw [nI_l (by omega), lZ_n, lZ_sub]) ?_
        refine e_le (x := lZ (s - ez (V 9) + p - (sz (V 9) - ez (V 9) : Nat))) (by rw [nI_l (by omega), nI_l (by omega), lZ_n, lZ_n, lZ_add, lZ_sub]) ?_
        refine e_b1 (j_minLZ rfl rfl (by omega) (by omega) (by omega) (by omega)) ?_
        refine e_b1 (j_maxLZ rfl rfl (by omega) (by omega) (by omega) (by omega)) ?_
        rw [← hst, hnr]
        refine e_b1 h.g2 ?_
        refine cw_bd (cw_p1 h (by decide) (by decide) (t_drop (k := (s - nr).toNat) h.tn (h.nv (by decide)) (by rw [lZ_sub, lZ_i, iZ_nat (by omega)]) (by omega))) ?_
        rintro r σ1 L1 c1 V1 h1 rfl
        refine e_b1 h1.g2 ?_
        have := t_ckeep (d := d) (m := 9) (n := n) (z := nr) (j4 := lZ nr) h1 (by decide) rfl rfl rfl (by omega) (by omega)
        rw [upA_s] at this
        refine cc_R (R := kD d (V 9 / 10 ^ (s - nr).toNat) n nr A) ?_ (cc_rt this isB_kD)
        unfold stA'
        rw [hnr]
        refine kD_cg ?_ (fun _ => rfl) rfl
        rw [eez, Nat.div_div_eq_div_mul, ← Nat.pow_add, show dr + (ez (V 9) - dr) = ez (V 9) by omega]
        obtain ⟨w, hw⟩ := (ez_dvd (k := ez (V 9)) hv0).mpr (Nat.le_refl _)
        have e1 : V 9 / 10 ^ ez (V 9) = w := by
          rw [Nat.div_eq_iff_eq_mul_left (p10_pos _) ⟨w, hw⟩, Nat.mul_comm]; exact hw
        rw [e1]
        have e2 : V 9 = (w * 10 ^ (nr - (s - dr - ((ez (V 9) - dr : Nat) : Int))).toNat) * 10 ^ (s - nr).toNat := by
          rw [Nat.mul_assoc, ← Nat.pow_add, show (nr - (s - dr - ((ez (V 9) - dr : Nat) : Int))).toNat + (s - nr).toNat = ez (V 9) by omega, Nat.mul_comm]
          exact hw
        exact (Nat.div_eq_of_eq_mul_left (p10_pos _) e2).symm
      · exact e_f (nI_ge (by omega) (by omega)) (hk6 () (fun w => hle (hzi.mp w).2))
end C2
