/-! ===== rounding ===== -/
def gu (how lost : Nat) (neg odd : Bool) : Bool := decide (lost ≠ 0) && (decide (how = 0) || (decide (how = 2) && !neg) || (decide (how = 3) && neg) || (decide (how = 4) && decide (2 ≤ lost)) || (decide (how = 5) && decide (lost = 3)) || (decide (how = 6) && (decide (lost = 3) || (decide (lost = 2) && odd))))
def rn (m lost how : Nat) (neg : Bool) : Nat := if gu how lost neg (decide (m % 2 = 1)) = true then m + 1 else m
/-- rounded, then kept -/
def fnA (d m lost how : Nat) (neg : Bool) (s : Int) (A : AS) : Int32 × AS := if lost ≠ 0 ∧ how = 7 then (0, A) else kpA d (rn m lost how neg) neg s A
/-- rounded to p digits, then kept -/
def fnT (d m lost how : Nat) (neg : Bool) (s : Int) (p : Nat) (A : AS) : Int32 × AS := if lost ≠ 0 ∧ how = 7 then (0, A) else if sz (rn m lost how neg) ≤ p then kpA d (rn m lost how neg) neg s A else kpA d (rn m lost how neg / 10) neg (s - 1) A
def ezF : Nat → Nat → Nat
  | 0, _ => 0
  | k + 1, x => if x % 10 = 0 then ezF k (x / 10) + 1 else 0
def ez (x : Nat) : Nat := if x = 0 then 0 else ezF x x
theorem ezF_ok : ∀ (k x : Nat), 0 < x → x ≤ k → 10 ^ ezF k x ∣ x ∧ ¬ 10 ^ (ezF k x + 1) ∣ x
  | 0, x, h, h2 => by omega
  | k + 1, x, h, h2 => by
    unfold ezF
    by_cases h1 : x % 10 = 0
    · rw [if_pos h1]
      obtain ⟨a, b⟩ := ezF_ok k (x / 10) (by omega) (by omega)
      have e : x = 10 * (x / 10) := by omega
      constructor
      · obtain ⟨c, hc⟩ := a
        refine ⟨c, ?_⟩
        rw [Nat.pow_succ, Nat.mul_comm _ 10, Nat.mul_assoc, ← hc]
        exact e
      · rintro ⟨c, hc⟩
        refine b ⟨c, ?_⟩
        rw [Nat.pow_succ, Nat.mul_comm _ 10, Nat.mul_assoc] at hc
        omega
    · rw [if_neg h1]
      refine ⟨⟨x, by rw [Nat.pow_zero, Nat.one_mul]⟩, ?_⟩
      rintro ⟨c, hc⟩
      rw [Nat.zero_add, Nat.pow_one] at hc
      omega
theorem ez_ok (x : Nat) : EZ x (ez x) := by
  refine ⟨fun h => by unfold ez; rw [if_pos h], fun h => ?_⟩
  unfold ez
  rw [if_neg (by omega)]
  exact ezF_ok x x h (Nat.le_refl _)
theorem ez_un {x z : Nat} (h : EZ x z) : z = ez x := by
  have h' := ez_ok x
  rcases Nat.eq_zero_or_pos x with hx | hx
  · rw [h.1 hx, h'.1 hx]
  · obtain ⟨a, b⟩ := h.2 hx
    obtain ⟨c, d⟩ := h'.2 hx
    rcases Nat.lt_trichotomy z (ez x) with q | q | q
    · exact absurd (Nat.dvd_trans (p10_dvd (show z + 1 ≤ ez x by omega)) c) b
    · exact q
    · exact absurd (Nat.dvd_trans (p10_dvd (show ez x + 1 ≤ z by omega)) a) d
/-- the scale nearest to t at which an exact value of few digits is kept -/
def stS (q : Nat) (s t : Int) (p : Nat) : Int := max (s - ez q) (min (s - ez q + p - sz (q / 10 ^ ez q)) t)
def stA' (d q : Nat) (neg : Bool) (s t : Int) (p : Nat) (A : AS) : Int32 × AS := kpA d (q / 10 ^ ez q * 10 ^ (stS q s t p - (s - ez q)).toNat) neg (stS q s t p) A
def gtree (i3 x5 i2 z3 : Int32) : Option Int32 :=
  jn (fun (z4 : Int32) => (if x5 ≤ 0 then ((isB 0).bind fun _ => some 0) else if z4 = 0 then ((isB 0).bind fun _ => some 0) else (isB 1).bind fun _ => some 1)) fun k4 =>
  jn (fun (z6 : Unit) => (k4 1)) fun k6 =>
  if i3 = 0 then (k6 ()) else
  jn (fun (z7 : Unit) => (
    jn (fun (z8 : Unit) => (
      jn (fun (z9 : Unit) => (
        jn (fun (z10 : Unit) => (
          jn (fun (z11 : Unit) => (k4 0)) fun k11 =>
          if i3 = 6 then (if x5 = 2 then (if z3 = 0 then (k11 ()) else k6 ()) else k11 ()) else k11 ())) fun k10 =>
        if i3 ≤ 4 then (k10 ()) else if 2 < x5 then (k6 ()) else k10 ())) fun k9 =>
      if i3 = 4 then (if 1 < x5 then (k6 ()) else k9 ()) else k9 ())) fun k8 =>
    if i3 = 3 then (if i2 < 0 then (k6 ()) else k8 ()) else k8 ())) fun k7 =>
  if i3 = 2 then (if 0 < i2 then (k6 ()) else k7 ()) else k7 ()
theorem gtree_ok : ∀ (h : Fin 8) (l : Fin 4) (n odd : Bool), (l.1 ≠ 0 → h.1 ≠ 7) → gtree (nI h.1) (nI l.1) (if n then -1 else 1) (bI odd) = some (bI (gu h.1 l.1 n odd)) := by decide +kernel
theorem gtree_0 {i3 i2 z3 : Int32} : gtree i3 0 i2 z3 = some 0 := by
  unfold gtree jn
  repeat' split
  all_goals first | rfl | contradiction
section MF
variable {σ : St} {o r : Nat} {X : Nat → Nat → Int32} {A : AS}
theorem t_mgoes {m lost how : Nat} {n : Bool} {u z w : Int32} (hr : r < 4) (hR : Rw X r m) (hl : X 0 0 = nI lost) (hl3 : lost < 4) (hh : how < 8) (h7 : lost ≠ 0 → how ≠ 7) (hz : lost ≠ 0 → z = if n then -1 else 1) (hu : u = nI r) (hw : w = nI how) : f_X6_goesUp (mst σ o X) o u z w = some (bI (gu how lost n (decide (m % 2 = 1)))) := by
  subst hu hw
  obtain ⟨h1, h2, h3⟩ := hR
  have tr : ∀ z3 : Int32, z3 = bI (decide (m % 2 = 1)) → gtree (nI how) (nI lost) z z3 = some (bI (gu how lost n (decide (m % 2 = 1)))) := by
    intro z3 hz3
    subst hz3
    by_cases h0 : lost = 0
    · subst h0
      rw [show nI 0 = 0 from rfl, gtree_0]
      unfold gu
      simp [bI]
    · rw [hz h0]
      exact gtree_ok ⟨how, hh⟩ ⟨lost, hl3⟩ n (decide (m % 2 = 1)) h7
  have pre : ldI (mst σ o X) (o + 6) (nI r) = some (nI (sz m)) := by rw [ld6 rfl hr, h2]
  unfold f_X6_goesUp
  refine q_ob m_o ?_
  refine q_b1 m_g5 (q_b1 pre ?_)
  simp only [m_i6, hl, Option.bind_some]
  refine q_jn (q_jn ?_)
  by_cases h0 : m = 0
  · subst h0
    exact q_t (by decide) (tr 0 rfl)
  · have hs := sz_pos (show 0 < m by omega)
    refine q_f (nI_nle hs (by omega)) ?_
    refine q_b1 m_g4 (q_b1 (ld5 (i := 17000 * r + 0) (by rw [show (17000 : Int32) = nI 17000 from rfl, pk_mul]; rfl) (by omega)) ?_)
    have hd := dg_lt m 0
    rw [h3 0 hs]
    have e0 : dg m 0 = m % 10 := by unfold dg; rw [Nat.pow_zero, Nat.div_one]
    refine q_b1 (rmI_eq (b := 2) rfl rfl (by omega) (by decide) (by decide)) ?_
    rw [e0, show m % 10 % 2 = m % 2 by omega]
    rcases Nat.mod_two_eq_zero_or_one m with q | q
    · exact q_f (by rw [q]; decide) (tr 0 (by rw [q]; rfl))
    · exact q_t (by rw [q]; decide) (tr 1 (by rw [q]; rfl))
theorem rn_sz {m lost how p : Nat} {n : Bool} (h : sz m ≤ p) : sz (rn m lost how n) ≤ p + 1 := by
  have h1 := sz_le.mp h
  rw [sz_le, Nat.pow_succ]
  unfold rn
  have hp : 0 < 10 ^ p := Nat.pow_pos (by decide)
  by_cases hc : gu how lost n (decide (m % 2 = 1)) = true
  · rw [if_pos hc]; omega
  · rw [if_neg hc]; omega
theorem rn_pos {m lost how : Nat} {n : Bool} (h : 0 < rn m lost how n) : 0 < m ∨ lost ≠ 0 := by
  by_cases h0 : lost = 0
  · subst h0
    unfold rn at h
    have : gu how 0 n (decide (m % 2 = 1)) = false := by unfold gu; simp
    rw [this, if_neg (by decide)] at h
    exact Or.inl h
  · exact Or.inr h0
theorem sg_pos {m : Nat} {n : Bool} (h : 0 < m) : sg m n = if n then -1 else 1 := if_neg (by omega)
theorem t_round1 {m lost how : Nat} {n : Bool} {u z w : Int32} {ρ : Type} {K : St → Rs ρ} (hr : r < 4) (hR : Rw X r m) (hb : sz m ≤ 16980) (hl : X 0 0 = nI lost) (hl3 : lost < 4) (hh : how < 8) (h7 : lost ≠ 0 → how ≠ 7) (hz : lost ≠ 0 → z = if n then -1 else 1) (hu : u = nI r) (hw : w = nI how) : ∃ X', Rw X' r (rn m lost how n) ∧ Ot (fun q => q = r) X X' ∧ X' 0 = X 0 ∧ ((f_X6_goesUp (mst σ o X) o u z w).bind fun x3 => jn (fun (z4 : St) => (K z4)) fun k4 => if x3 = 0 then (k4 (mst σ o X)) else bd (f_X6_one (mst σ o X) o u) fun _ σ7 => k4 σ7) = K (mst σ o X') := by
  have hg := t_mgoes (σ := σ) (o := o) hr hR hl hl3 hh h7 hz hu hw
  unfold rn
  by_cases hc : gu how lost n (decide (m % 2 = 1)) = true
  · rw [if_pos hc]
    obtain ⟨X', a1, a2, a3, a4⟩ := t_mone (σ := σ) (o := o) hr hR hu hb
    refine ⟨X', a2, a3, a4, ?_⟩
    refine q_b1 hg (q_jn ?_)
    rw [hc]
    refine q_f (by decide) ?_
    exact q_bd0 a1 rfl
  · rw [if_neg hc]
    refine ⟨X, hR, Ot.rf, rfl, ?_⟩
    refine q_b1 hg (q_jn ?_)
    rw [Bool.eq_false_iff.mpr hc]
    exact q_t rfl rfl
theorem t_mfinish {d m lost how : Nat} {n : Bool} {s : Int} {u v z w : Int32} {y : Int64} (hr : r < 4) (hd : d < 8) (hu : u = nI d) (hv : v = nI r) (h : RG X A) (hR : Rw X r m) (hb : sz m ≤ 16980) (hl : X 0 0 = nI lost) (hl3 : lost < 4) (hh : how < 8) (hz : 0 < m ∨ lost ≠ 0 → z = if n then -1 else 1) (hw : w = nI how) (hy : y = lZ s) (s1 : -9223372036854775808 ≤ s) (s2 : s < 9223372036854775808) : ∃ X', f_X6_finish (mst σ o X) o u v z y w = some ((fnA d m lost how n s A).1, mst σ o X', 0, 0) ∧ RG X' (fnA d m lost how n s A).2 ∧ Kt X X' := by
  unfold fnA
  by_cases hc : lost ≠ 0 ∧ how = 7
  · rw [if_pos hc]
    refine ⟨X, ?_, h, Kt.rf⟩
    unfold f_X6_finish
    refine q_ob m_o ?_
    refine q_b1 m_i6 (q_jn ?_)
    rw [hl]
    refine q_f (nI_nle (by omega) (by omega)) ?_
    exact q_t (by rw [hw, hc.2]; rfl) rfl
  · rw [if_neg hc]
    obtain ⟨X1, a1, a2, a3, a4⟩ := t_round1 (σ := σ) (o := o) (K := fun z4 => bd (f_X6_store z4 o u v z y) fun x5 σ6 => (isB x5).bind fun _ => some (x5, σ6, 0, 0)) (n := n) hr hR hb hl hl3 hh (fun q1 q2 => hc ⟨q1, q2⟩) (fun q => hz (Or.inr q)) hv hw
    obtain ⟨X2, b1, b2, b3, -⟩ := t_mstore (σ := σ) (o := o) (n := n) (z := z) hr hd hu hv (h.ot a2) a1 (fun q => (hz (rn_pos q)).trans (sg_pos q).symm) hy s1 s2
    refine ⟨X2, ?_, b2, a2.kt.trans b3⟩
    have fin : (bd (f_X6_store (mst σ o X1) o u v z y) fun x5 σ6 => (isB x5).bind fun _ => some (x5, σ6, 0, 0)) = some ((kpA d (rn m lost how n) n s A).1, mst σ o X2, 0, 0) := by
      refine q_bd0 b1 ?_
      unfold kpA
      split <;> rfl
    unfold f_X6_finish
    refine q_ob m_o ?_
    refine q_b1 m_i6 (q_jn ?_)
    rw [hl]
    by_cases h0 : lost = 0
    · subst h0
      refine q_t (by decide) ?_
      exact a4.trans fin
    · refine q_f (nI_nle (by omega) (by omega)) ?_
      refine q_f (fun q => hc ⟨h0, (nI_eq (by omega) (by decide)).mp (show nI how = nI 7 from hw ▸ q)⟩) ?_
      exact a4.trans fin
theorem t_mfinishTo {d m lost how p : Nat} {n : Bool} {s : Int} {u v z w x : Int32} {y : Int64} (hr : r < 4) (hd : d < 8) (hu : u = nI d) (hv : v = nI r) (h : RG X A) (hR : Rw X r m) (hb : sz m ≤ p) (hp : p ≤ 4096) (hx : x = nI p) (hl : X 0 0 = nI lost) (hl3 : lost < 4) (hh : how < 8) (hz : 0 < m ∨ lost ≠ 0 → z = if n then -1 else 1) (hw : w = nI how) (hy : y = lZ s) (s1 : -9223372036854775807 ≤ s) (s2 : s < 9223372036854775808) : ∃ X', f_X6_finishTo (mst σ o X) o u v z y w x = some ((fnT d m lost how n s p A).1, mst σ o X', 0, 0) ∧ RG X' (fnT d m lost how n s p A).2 ∧ Kt X X' := by
  unfold fnT
  by_cases hc : lost ≠ 0 ∧ how = 7
  · rw [if_pos hc]
    refine ⟨X, ?_, h, Kt.rf⟩
    unfold f_X6_finishTo
    refine q_ob m_o ?_
    refine q_b1 m_i6 (q_jn ?_)
    rw [hl]
    refine q_f (nI_nle (by omega) (by omega)) ?_
    exact q_t (by rw [hw, hc.2]; rfl) rfl
  · rw [if_neg hc]
    obtain ⟨X1, a1, a2, a3, a4⟩ := t_round1 (σ := σ) (o := o) (K := fun z4 => (gR z4 6 o 5).bind fun r5 => (ldI z4 r5 v).bind fun x6 => jn (fun (z7 : Int64 × St) => (bd (f_X6_store z7.2 o u v z z7.1) fun x8 σ9 => (isB x8).bind fun _ => some (x8, σ9, 0, 0))) fun k7 => if x6 ≤ x then (k7 (y, z4)) else bd (f_X6_lower z4 o v 1) fun _ σ10 => lt (y - 1) fun l11 => k7 (l11, σ10)) (n := n) hr hR (by omega) hl hl3 hh (fun q1 q2 => hc ⟨q1, q2⟩) (fun q => hz (Or.inr q)) hv hw
    have main : ∃ X', ((gR (mst σ o X1) 6 o 5).bind fun r5 => (ldI (mst σ o X1) r5 v).bind fun x6 => jn (fun (z7 : Int64 × St) => (bd (f_X6_store z7.2 o u v z z7.1) fun x8 σ9 => (isB x8).bind fun _ => some (x8, σ9, 0, 0))) fun k7 => if x6 ≤ x then (k7 (y, mst σ o X1)) else bd (f_X6_lower (mst σ o X1) o v 1) fun _ σ10 => lt (y - 1) fun l11 => k7 (l11, σ10)) = some ((if sz (rn m lost how n) ≤ p then kpA d (rn m lost how n) n s A else kpA d (rn m lost how n / 10) n (s - 1) A).1, mst σ o X', 0, 0) ∧ RG X' (if sz (rn m lost how n) ≤ p then kpA d (rn m lost how n) n s A else kpA d (rn m lost how n / 10) n (s - 1) A).2 ∧ Kt X1 X' := by
      have pre : ldI (mst σ o X1) (o + 6) v = some (nI (sz (rn m lost how n))) := by rw [ld6 hv hr, a1.2.1]
      have hb2 := rn_sz (lost := lost) (how := how) (n := n) hb
      by_cases hp2 : sz (rn m lost how n) ≤ p
      · rw [if_pos hp2]
        obtain ⟨X2, b1, b2, b3, -⟩ := t_mstore (σ := σ) (o := o) (n := n) (s := s) (z := z) hr hd hu hv (h.ot a2) a1 (fun q => (hz (rn_pos q)).trans (sg_pos q).symm) hy (by omega) s2
        refine ⟨X2, ?_, b2, b3⟩
        refine q_b1 m_g5 (q_b1 pre (q_jn ?_))
        refine q_t (by rw [hx]; exact nI_le hp2 (by omega)) ?_
        refine q_bd0 b1 ?_
        unfold kpA
        split <;> rfl
      · rw [if_neg hp2]
        obtain ⟨X2, c1, c2, c3, c4⟩ := t_mlower (σ := σ) (o := o) (b := 1) (z := 1) hr a1 hv rfl (by decide) (by decide)
        rw [show (1 : Int).toNat = 1 from rfl, Nat.pow_one] at c2
        obtain ⟨X3, b1, b2, b3, -⟩ := t_mstore (σ := σ) (o := o) (n := n) (s := s - 1) (w := y - 1) (z := z) hr hd hu hv ((h.ot a2).ot c3) c2 (fun q => by
          have q2 : 0 < rn m lost how n := by omega
          exact (hz (rn_pos q2)).trans (sg_pos q).symm) (by rw [hy, show (1 : Int64) = lZ 1 from rfl, lZ_sub]) (by omega) (by omega)
        refine ⟨X3, ?_, b2, c3.kt.trans b3⟩
        refine q_b1 m_g5 (q_b1 pre (q_jn ?_))
        refine q_f (by rw [hx]; exact nI_ge (by omega) (by omega)) ?_
        refine q_bd0 c1 ?_
        refine q_lt ?_
        refine q_bd0 b1 ?_
        unfold kpA
        split <;> rfl
    obtain ⟨X', m1, m2, m3⟩ := main
    refine ⟨X', ?_, m2, a2.kt.trans m3⟩
    unfold f_X6_finishTo
    refine q_ob m_o ?_
    refine q_b1 m_i6 (q_jn ?_)
    rw [hl]
    by_cases h0 : lost = 0
    · subst h0
      refine q_t (by decide) ?_
      exact a4.trans m1
    · refine q_f (nI_nle (by omega) (by omega)) ?_
      refine q_f (fun q => hc ⟨h0, (nI_eq (by omega) (by decide)).mp (show nI how = nI 7 from hw ▸ q)⟩) ?_
      exact a4.trans m1
theorem ez_sz {q : Nat} : ez q ≤ sz q := by
  rcases Nat.eq_zero_or_pos q with h | h
  · subst h; decide
  · have := ((ez_ok q).2 h).1
    have h2 := Nat.le_of_dvd h this
    have h3 := p10_inj (Nat.lt_of_le_of_lt h2 (sz_lt q))
    omega
/-- settle: the exact value q of at most p digits -/
theorem t_msettle {d q p : Nat} {n : Bool} {s t : Int} {u z x : Int32} {y w : Int64} (hd : d < 8) (hu : u = nI d) (h : RG X A) (hR : Rw X 2 q) (hq : 0 < q) (hb : sz q ≤ p) (hp : p ≤ 4096) (hx : x = nI p) (hz : z = if n then -1 else 1) (hy : y = lZ s) (hw : w = lZ t) (s1 : -1000000000000 ≤ s) (s2 : s < 1000000000000) (t1 : -1000000000000 ≤ t) (t2 : t < 1000000000000) : ∃ X', f_X6_settle (mst σ o X) o u z y w x = some ((stA' d q n s t p A).1, mst σ o X', 0, 0) ∧ RG X' (stA' d q n s t p A).2 ∧ Kt X X' := by
  obtain ⟨e, a1, a2, a3⟩ := t_mzeros (σ := σ) (o := o) (y := 2) (by decide) hR rfl
  have he := ez_un a2
  subst he
  have hezs : ez q ≤ sz q := a3
  obtain ⟨X1, b1, b2, b3, b4⟩ := t_mlower (σ := σ) (o := o) (y := 2) (b := (ez q : Int)) (z := (nI (ez q)).toInt64) (by decide) hR rfl (by rw [nI_l (by omega), lZ_n]) (by omega) (by omega)
  rw [Int.toNat_natCast] at b2
  have hu0 : 0 < q / 10 ^ ez q := Nat.div_pos (Nat.le_of_dvd hq ((ez_ok q).2 hq).1) (Nat.pow_pos (by decide))
  have hszu : sz (q / 10 ^ ez q) = sz q - ez q := sz_div
  have hsu := sz_pos hu0
  unfold stA'
  obtain ⟨S', hS'⟩ : ∃ S', stS q s t p = S' := ⟨_, rfl⟩
  rw [hS']
  unfold stS at hS'
  obtain ⟨X2, c1, c2, c3, c4⟩ := t_mraise (σ := σ) (o := o) (y := 2) (k := (S' - (s - ez q)).toNat) (z := iZ (S' - (s - ez q))) (by decide) b2 rfl (by rw [iZ_nat (by omega)]) (by omega)
  obtain ⟨X3, d1, d2, d3, -⟩ := t_mstore (σ := σ) (o := o) (r := 2) (n := n) (s := S') (v := 2) (z := z) (w := lZ S') (by decide) hd hu rfl ((h.ot b3).ot c3) c2 (fun g => hz.trans (sg_pos g).symm) rfl (by omega) (by omega)
  refine ⟨X3, ?_, d2, (b3.kt.trans c3.kt).trans d3⟩
  have pre : ldI (mst σ o X1) (o + 6) 2 = some (nI (sz (q / 10 ^ ez q))) := (ld6 (i := 2) rfl (by decide)).trans (by rw [b2.2.1])
  have fin : ∀ z7 : Int64, z7 = lZ S' → (bd (f_X6_raise (mst σ o X1) o 2 ((z7 - lZ (s - ez q) : Int64).toInt32)) fun _ σ8 => bd (f_X6_store σ8 o u 2 z z7) fun x9 σ10 => (isB x9).bind fun _ => some (x9, σ10, 0, 0)) = some ((kpA d (q / 10 ^ ez q * 10 ^ (S' - (s - ez q)).toNat) n S' A).1, mst σ o X3, 0, 0) := by
    intro z7 h7
    subst h7
    rw [lZ_sub, lZ_i]
    refine q_bd0 c1 ?_
    refine q_bd0 d1 ?_
    unfold kpA
    split <;> rfl
  unfold f_X6_settle
  refine q_ob m_o ?_
  refine q_b1 a1 ?_
  refine q_bd0 b1 ?_
  refine q_le (y := lZ (s - ez q)) (by rw [hy, nI_l (by omega), lZ_n, lZ_sub]) (q_jn ?_)
  have step : ∀ (z4 : Int64) (v4 : Int), z4 = lZ v4 → v4 = max (s - ez q) t → ((gR (mst σ o X1) 6 o 5).bind fun r5 => (ldI (mst σ o X1) r5 2).bind fun x6 => jn (fun (z7 : Int64) => (bd (f_X6_raise (mst σ o X1) o 2 ((z7 - lZ (s - ez q) : Int64).toInt32)) fun _ σ8 => bd (f_X6_store σ8 o u 2 z z7) fun x9 σ10 => (isB x9).bind fun _ => some (x9, σ10, 0, 0))) fun k7 => if z4 ≤ ((lZ (s - ez q) + ((x : Int32).toInt64)) - ((x6 : Int32).toInt64)) then (k7 z4) else (gR (mst σ o X1) 6 o 5).bind fun r11 => (ldI (mst σ o X1) r11 2).bind fun x12 => k7 ((lZ (s - ez q) + ((x : Int32).toInt64)) - ((x12 : Int32).toInt64))) = some ((kpA d (q / 10 ^ ez q * 10 ^ (S' - (s - ez q)).toNat) n S' A).1, mst σ o X3, 0, 0) := by
    intro z4 v4 h4 hv4
    subst h4
    refine q_b1 m_g5 (q_b1 pre (q_jn ?_))
    have el : lZ (s - ez q) + (x : Int32).toInt64 - (nI (sz (q / 10 ^ ez q))).toInt64 = lZ (s - ez q + p - sz (q / 10 ^ ez q)) := by
      rw [hx, nI_l (by omega), nI_l (by omega), lZ_n, lZ_n, lZ_add, lZ_sub]
    rw [el]
    by_cases hle : v4 ≤ s - ez q + p - sz (q / 10 ^ ez q)
    · refine q_t ((lZ_le (by omega) (by omega) (by omega) (by omega)).mpr hle) ?_
      exact fin _ (by congr 1; omega)
    · refine q_f (fun g => hle ((lZ_le (by omega) (by omega) (by omega) (by omega)).mp g)) ?_
      refine q_b1 m_g5 (q_b1 pre ?_)
      exact fin _ (by rw [el]; congr 1; omega)
  by_cases hts : t ≤ s - ez q
  · refine q_t (by rw [hw]; exact (lZ_le (by omega) (by omega) (by omega) (by omega)).mpr hts) ?_
    exact step _ (s - ez q) rfl (by omega)
  · refine q_f (by rw [hw]; exact fun g => hts ((lZ_le (by omega) (by omega) (by omega) (by omega)).mp g)) ?_
    exact step _ t hw (by omega)
end MF
