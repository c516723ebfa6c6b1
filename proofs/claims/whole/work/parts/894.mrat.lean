/-! ===== quotients digit by digit; ratio and exact of the reference ===== -/
theorem ez_dvd {q k : Nat} (hq : 0 < q) : 10 ^ k ∣ q ↔ k ≤ ez q := by
  obtain ⟨a, b⟩ := (ez_ok q).2 hq
  constructor
  · intro h
    refine Nat.not_lt.mp fun w => b (Nat.dvd_trans (p10_dvd w) h)
  · intro h
    exact Nat.dvd_trans (p10_dvd h) a
theorem ez_mul {q k : Nat} (hq : 0 < q) : ez (q * 10 ^ k) = ez q + k := by
  obtain ⟨a, b⟩ := (ez_ok q).2 hq
  refine (ez_un ⟨fun h => by have := Nat.mul_pos hq (p10_pos k); omega, fun _ => ⟨?_, ?_⟩⟩).symm
  · rw [Nat.pow_add]; exact Nat.mul_dvd_mul_right a _
  · intro h
    apply b
    rw [show ez q + k + 1 = (ez q + 1) + k by omega, Nat.pow_add] at h
    exact Nat.dvd_of_mul_dvd_mul_right (p10_pos k) h
theorem ez_dv {q k : Nat} (hq : 0 < q) (h : k ≤ ez q) : ez (q / 10 ^ k) = ez q - k := by
  obtain ⟨c, hc⟩ := (ez_dvd hq).mpr h
  have hc0 : 0 < c := Nat.pos_of_ne_zero fun e => by rw [e, Nat.mul_zero] at hc; omega
  have e1 : q / 10 ^ k = c := by rw [hc]; exact Nat.mul_div_cancel_left c (p10_pos k)
  have e2 := ez_mul (k := k) hc0
  rw [Nat.mul_comm, ← hc] at e2
  rw [e1]
  omega
/-- the same fraction, k places lower -/
theorem nd_low {x y : Nat} {e : Int} {k : Nat} (hy : 0 < y) (hk : 0 < k) : nu x e / de y e / 10 ^ k = nu x (e - k) / de y (e - k) ∧ lostc (nu x e / de y e % 10 ^ k) (10 ^ k) (decide (nu x e % de y e ≠ 0)) = lostc (nu x (e - k) % de y (e - k)) (de y (e - k)) false := by
  have hD := de_pos (e := e) hy
  obtain ⟨c, hc⟩ : ∃ c, e.toNat - (e - k).toNat = c := ⟨_, rfl⟩
  have e1 : nu x e = 10 ^ c * nu x (e - k) := by
    unfold nu
    rw [Nat.mul_comm (10 ^ c), Nat.mul_assoc, ← Nat.pow_add]
    congr 2
    omega
  have e2 : de y e * 10 ^ k = 10 ^ c * de y (e - k) := by
    unfold de
    rw [Nat.mul_comm (10 ^ c), Nat.mul_assoc, Nat.mul_assoc, ← Nat.pow_add, ← Nat.pow_add]
    congr 2
    omega
  constructor
  · rw [Nat.div_div_eq_div_mul, e2, e1, Nat.mul_div_mul_left _ _ (p10_pos c)]
  · have := lost_comp (N := nu x e) (D := de y e) (P := 10 ^ k) (more := false) hD (p10_even hk) (p10_pos k)
    rw [Bool.or_false] at this
    rw [← this, e2, e1, Nat.mul_mod_mul_left, lost_scale (p10_pos c)]
theorem dig_q (x y k : Nat) (hy : 0 < y) : x * 10 ^ (k + 1) / y = x * 10 ^ k / y * 10 + (x * 10 ^ k % y * 10 + 0) / y ∧ x * 10 ^ (k + 1) % y = (x * 10 ^ k % y * 10 + 0) % y := by
  have h := Nat.div_add_mod (x * 10 ^ k) y
  have e : x * 10 ^ (k + 1) = (x * 10 ^ k % y * 10 + 0) + y * (x * 10 ^ k / y * 10) := by
    rw [Nat.pow_succ, ← Nat.mul_assoc]
    generalize x * 10 ^ k / y = q at *
    generalize x * 10 ^ k % y = r at *
    rw [← h]
    grind
  rw [e, Nat.add_mul_div_left _ _ hy, Nat.add_mul_mod_self_left]
  exact ⟨Nat.add_comm _ _, rfl⟩
/-- the exact quotient -/
def sExact (i x y : Nat) (neg : Bool) (t : Int) (A : AS) : Int32 × AS :=
  if x * 10 ^ (4096 + sz y - sz x) % y = 0 then kpA i (x * 10 ^ (4096 + sz y - sz x) / y / 10 ^ min (4096 + sz y - sz x) (ez (x * 10 ^ (4096 + sz y - sz x) / y))) neg (t + ((4096 + sz y - sz x : Nat) : Int) - ((min (4096 + sz y - sz x) (ez (x * 10 ^ (4096 + sz y - sz x) / y)) : Nat) : Int)) A else (0, A)
theorem dv_up {x y k K : Nat} (h : x * 10 ^ k % y = 0) (hk : k ≤ K) : x * 10 ^ K % y = 0 ∧ x * 10 ^ K / y = x * 10 ^ k / y * 10 ^ (K - k) := by
  have e : x * 10 ^ K = x * 10 ^ k * 10 ^ (K - k) := by rw [Nat.mul_assoc, ← Nat.pow_add]; congr 2; omega
  obtain ⟨c, hc⟩ := Nat.dvd_of_mod_eq_zero h
  rcases Nat.eq_zero_or_pos y with hy | hy
  · subst hy
    rw [Nat.zero_mul] at hc
    rw [e, hc, Nat.zero_mul, Nat.zero_mod, Nat.zero_div]
    exact ⟨rfl, rfl⟩
  · rw [e, hc, Nat.mul_assoc, Nat.mul_mod_right, Nat.mul_div_cancel_left _ hy, Nat.mul_div_cancel_left _ hy]
    exact ⟨rfl, rfl⟩
/-- the least raising that comes out leaves no ending zero -/
theorem dv_min {x y k : Nat} (hx : 0 < x) (hy : 0 < y) (h : x * 10 ^ k % y = 0) (hm : ∀ j, j < k → x * 10 ^ j % y ≠ 0) (hk : 0 < k) : ez (x * 10 ^ k / y) = 0 := by
  obtain ⟨c, hc⟩ := Nat.dvd_of_mod_eq_zero h
  have e1 : x * 10 ^ k / y = c := by rw [hc]; exact Nat.mul_div_cancel_left c hy
  have hxp : 0 < x * 10 ^ k := Nat.mul_pos hx (p10_pos k)
  have hc0 : 0 < c := Nat.pos_of_ne_zero fun e => by rw [e, Nat.mul_zero] at hc; omega
  rw [e1]
  refine Nat.eq_zero_of_not_pos fun w => ?_
  obtain ⟨f, hf⟩ := (ez_dvd (k := 1) hc0).mpr w
  refine hm (k - 1) (by omega) ?_
  have e2 : x * 10 ^ (k - 1) * 10 = y * f * 10 := by
    rw [Nat.mul_assoc, ← Nat.pow_succ, show (k - 1).succ = k by omega, hc, hf]
    grind
  have e3 : x * 10 ^ (k - 1) = y * f := Nat.eq_of_mul_eq_mul_right (by decide) e2
  rw [e3]
  exact Nat.mul_mod_right _ _
theorem ex_ok {i x y k : Nat} {neg : Bool} {t : Int} {A : AS} (hx : 0 < x) (hy : 0 < y) (bx : sz x ≤ 4096) (h : x * 10 ^ k % y = 0) (hm : ∀ j, j < k → x * 10 ^ j % y ≠ 0) : sExact i x y neg t A = kpA i (x * 10 ^ k / y) neg (t + k) A := by
  unfold sExact
  have sx := sz_pos hx
  have sy := sz_pos hy
  obtain ⟨U, hU⟩ : ∃ U, 4096 + sz y - sz x = U := ⟨_, rfl⟩
  rw [hU]
  by_cases hk : k ≤ U
  · obtain ⟨h1, h2⟩ := dv_up h hk
    rw [if_pos h1, h2]
    have hq : 0 < x * 10 ^ k / y := by
      obtain ⟨c, hc⟩ := Nat.dvd_of_mod_eq_zero h
      have hxp : 0 < x * 10 ^ k := Nat.mul_pos hx (p10_pos k)
      rw [hc, Nat.mul_div_cancel_left _ hy]
      exact Nat.pos_of_ne_zero fun e => by rw [e, Nat.mul_zero] at hc; omega
    have e3 : min U (ez (x * 10 ^ k / y * 10 ^ (U - k))) = U - k := by
      rw [ez_mul hq]
      rcases Nat.eq_zero_or_pos k with w | w
      · omega
      · rw [dv_min hx hy h hm w]; omega
    rw [e3, Nat.mul_div_cancel _ (p10_pos _)]
    congr 1
    omega
  · rw [if_neg (hm U (by omega))]
    refine (kp_big ?_).symm
    have e1 : sz (x * 10 ^ k) = sz x + k := sz_mul hx
    have := sz_quo_ge (N := x * 10 ^ k) (D := y) (Nat.mul_pos hx (p10_pos k)) hy (by omega)
    omega
theorem ex_no {i x y k : Nat} {neg : Bool} {t : Int} {A : AS} (hx : 0 < x) (hy : 0 < y) (bx : sz x ≤ 4096) (by' : sz y ≤ 4096) (hm : ∀ j, j ≤ k → x * 10 ^ j % y ≠ 0) (hk : 8200 ≤ k ∨ ¬ sz (x * 10 ^ k / y) ≤ 4096) : sExact i x y neg t A = (0, A) := by
  unfold sExact
  have sx := sz_pos hx
  have sy := sz_pos hy
  refine if_neg (hm _ ?_)
  rcases hk with w | w
  · omega
  · refine Nat.not_lt.mp fun w2 => w ?_
    have e1 : sz (x * 10 ^ k) = sz x + k := sz_mul hx
    by_cases hs : sz y ≤ sz (x * 10 ^ k) + 1
    · have := sz_quo_le (N := x * 10 ^ k) (D := y) hy hs
      omega
    · have e2 : x * 10 ^ k < y := by
        have h1 := sz_lt (x * 10 ^ k)
        have h2 := sz_ge hy
        exact Nat.lt_of_lt_of_le h1 (Nat.le_trans (p10_le (by omega)) h2)
      rw [Nat.div_eq_of_lt e2, sz_0]
      omega
/-- rounded where something is lost, else settled -/
def fin2 (d m lost how : Nat) (neg : Bool) (s t : Int) (p : Nat) (A : AS) : Int32 × AS := if lost = 0 then stA' d m neg s t p A else fnT d m lost how neg s p A
theorem isB_fin2 {d m lost how p : Nat} {n : Bool} {s t : Int} {A : AS} : isB (fin2 d m lost how n s t p A).1 = some () := by
  unfold fin2
  split
  · exact isB_stA
  · exact isB_fnT
def eR (x y p : Nat) : Int := if sz (nu x (p + sz y - sz x) / de y (p + sz y - sz x)) ≤ p then p + sz y - sz x else p + sz y - sz x - 1
def sRatio (A : AS) (d a b p how : Int32) : Int32 × AS := onR d A fun i => onR a A fun j => onR b A fun k => if (0 ≤ p ∧ p ≤ 4096) ∧ (0 ≤ how ∧ how < 8) ∧ 0 < A.1 k then (if A.1 j = 0 then kpA i 0 false (A.2.2 j - A.2.2 k) A else if p = 0 then sExact i (A.1 j) (A.1 k) (xor (A.2.1 j) (A.2.1 k)) (A.2.2 j - A.2.2 k) A else fin2 i (nu (A.1 j) (eR (A.1 j) (A.1 k) p.toNatClampNeg) / de (A.1 k) (eR (A.1 j) (A.1 k) p.toNatClampNeg)) (lostc (nu (A.1 j) (eR (A.1 j) (A.1 k) p.toNatClampNeg) % de (A.1 k) (eR (A.1 j) (A.1 k) p.toNatClampNeg)) (de (A.1 k) (eR (A.1 j) (A.1 k) p.toNatClampNeg)) false) how.toNatClampNeg (xor (A.2.1 j) (A.2.1 k)) (eR (A.1 j) (A.1 k) p.toNatClampNeg + (A.2.2 j - A.2.2 k)) (A.2.2 j - A.2.2 k) p.toNatClampNeg A) else (0, A)
section MRat
variable {σ : St} {o : Nat} {X : Nat → Nat → Int32} {A : AS}
theorem lt_tree {ρ : Type} {K : Int32 → ρ} {d : Nat} {b : Bool} {x z : Int32} (hd : d < 10) (hx : x = nI d) (hz : z = bI b) : (jn (fun (z43 : Int32) => K z43) fun k43 => jn (fun (z46 : Unit) => (k43 3)) fun k46 => if 5 < x then (k46 ()) else jn (fun (z47 : Unit) => (if x = 5 then (k43 2) else jn (fun (z48 : Unit) => (k43 1)) fun k48 => if 0 < x then (k48 ()) else if z = 0 then (k43 0) else k48 ())) fun k47 => if x = 5 then (if z = 0 then (k47 ()) else k46 ()) else k47 ()) = K (nI (lostc d 10 b)) := by
  subst hx hz
  refine q_jn (q_jn ?_)
  unfold lostc
  by_cases h1 : 5 < d
  · refine q_t (nI_lt (a := 5) h1 (by omega)) ?_
    rw [if_neg (by omega), if_neg (by omega)]; rfl
  · refine q_f (nI_nlt (a := 5) (b := d) (by omega) (by decide)) (q_jn ?_)
    by_cases h2 : d = 5
    · subst h2
      refine q_t rfl ?_
      cases b
      · refine q_t rfl ?_
        refine q_t rfl ?_
        rw [if_neg (by omega), if_pos ⟨rfl, rfl⟩]; rfl
      · refine q_f (by decide) ?_
        rw [if_neg (by omega), if_neg (by decide)]; rfl
    · have hne : ¬ nI d = 5 := fun w => h2 ((nI_eq (b := 5) (by omega) (by decide)).mp w)
      refine q_f hne ?_
      refine q_f hne (q_jn ?_)
      rw [if_pos (c := 2 * d < 10) (by omega)]
      by_cases h3 : 0 < d
      · refine q_t (nI_lt (a := 0) h3 (by omega)) ?_
        rw [if_neg (by omega)]; rfl
      · refine q_f (nI_nlt (a := 0) (b := d) (by omega) (by decide)) ?_
        cases b
        · refine q_t rfl ?_
          rw [if_pos ⟨by omega, rfl⟩]; rfl
        · refine q_f (by decide) ?_
          rw [if_neg (by simp)]; rfl
/-- one more digit of the quotient -/
theorem t_mdig {x y k : Nat} (hy : 0 < y) (r1 : Rw X 1 y) (r2 : Rw X 2 (x * 10 ^ k / y)) (r3 : Rw X 3 (x * 10 ^ k % y)) (b1 : sz y ≤ 4096) (b2 : sz (x * 10 ^ k / y) ≤ 16980) : ∃ X', Rw X' 2 (x * 10 ^ (k + 1) / y) ∧ Rw X' 3 (x * 10 ^ (k + 1) % y) ∧ Ot (fun q => q = 2 ∨ q = 3) X X' ∧ X' 0 = X 0 ∧ ∀ {ρ : Type} (K : St → Rs ρ) (v : ρ) (σ' : St), K (mst σ o X') = some (v, σ', 0, 0) → (bd (f_X6_step (mst σ o X) o 0) fun x6 σ7 => bd (f_X6_raise σ7 o 2 1) fun _ σ8 => (gR σ8 6 o 5).bind fun r9 => (ldI σ8 r9 2).bind fun x10 => jn (fun (z11 : St) => ((gR z11 6 o 5).bind fun r12 => (ldI z11 r12 2).bind fun x13 => jn (fun (z14 : St) => K z14) fun k14 => if x13 ≤ 0 then (k14 z11) else (gR z11 6 o 4).bind fun r16 => (stI z11 r16 34000 x6).bind fun σ17 => k14 σ17)) fun k11 => if x10 = 0 then (if x6 ≤ 0 then (k11 σ8) else (gR σ8 6 o 5).bind fun r18 => (stI σ8 r18 2 1).bind fun σ19 => k11 σ19) else k11 σ8) = some (v, σ', 0, 0) := by
  obtain ⟨e1, e2⟩ := dig_q x y k hy
  have hlt := Nat.mod_lt (x * 10 ^ k) hy
  have hs3 : sz (x * 10 ^ k % y) ≤ 4096 := sz_le.mpr (Nat.lt_trans hlt (sz_le.mp b1))
  obtain ⟨X1, a1, a2, a3, a4⟩ := t_step (σ := σ) (o := o) (d := 0) (dI := 0) r3 r1 hlt (by decide) rfl (by omega)
  obtain ⟨X2, c1, c2, c3, c4⟩ := t_mraise (σ := σ) (o := o) (r := 2) (y := 2) (z := 1) (k := 1) (by decide) (r2.ot a3 (by decide) (by decide)) rfl rfl (by omega)
  rw [Nat.pow_one] at c2
  have hd : (x * 10 ^ k % y * 10 + 0) / y < 10 := by
    rw [Nat.div_lt_iff_lt_mul hy]
    omega
  obtain ⟨X3, d1, d2, d3, d4⟩ := t_push (σ := σ) (o := o) (r := 2) (u := 2) (ix := 34000) (dI := nI ((x * 10 ^ k % y * 10 + 0) / y)) (by decide) c2 rfl rfl rfl hd b2
  refine ⟨X3, by rw [e1]; exact d1, by rw [e2]; exact (a2.ot c3 (by decide) (by decide)).ot d2 (by decide) (by decide), ((a3.mono (fun q w => Or.inr w)).trans c3 (fun q w => Or.inl w)).trans d2 (fun q w => Or.inl w), by rw [d3, c4, a4], fun K v σ' hK => ?_⟩
  refine q_bd0 a1 ?_
  refine q_bd0 c1 ?_
  exact (d4 K).trans hK
theorem t_mex_loop {x y : Nat} {i1 i2 : Int32} {j3 : Int64} (hx : 0 < x) (hy : 0 < y) (b0 : sz x ≤ 4096) (b1 : sz y ≤ 4096) : ∀ (f k : Nat) (X : Nat → Nat → Int32), 8201 - k < f → k ≤ 8200 → (∀ j, j < k → x * 10 ^ j % y ≠ 0) → Rw X 1 y → Rw X 2 (x * 10 ^ k / y) → Rw X 3 (x * 10 ^ k % y) → ∃ k' X', f_X6_exact_L7 f (mst σ o X) o i1 i2 j3 (nI k) = some (nI k', mst σ o X', 0, 0) ∧ k' ≤ 8200 ∧ Rw X' 2 (x * 10 ^ k' / y) ∧ Rw X' 3 (x * 10 ^ k' % y) ∧ Ot (fun q => q = 2 ∨ q = 3) X X' ∧ (∀ j, j < k' → x * 10 ^ j % y ≠ 0) ∧ (x * 10 ^ k' % y = 0 ∨ 8200 ≤ k' ∨ ¬ sz (x * 10 ^ k' / y) ≤ 4096) := by
  intro f
  induction f with
  | zero => intro k X h; omega
  | succ f ih =>
    intro k X hf hk hm r1 r2 r3
    show ∃ k' X', b_X6_exact_L7 (f_X6_exact_L7 f) _ o _ _ _ _ = _ ∧ _
    unfold b_X6_exact_L7
    have pre3 : ldI (mst σ o X) (o + 6) 3 = some (nI (sz (x * 10 ^ k % y))) := (ld6 (i := 3) rfl (by decide)).trans (by rw [r3.2.1])
    have pre2 : ldI (mst σ o X) (o + 6) 2 = some (nI (sz (x * 10 ^ k / y))) := (ld6 (i := 2) rfl (by decide)).trans (by rw [r2.2.1])
    have s2 := r2.1
    have s3 := r3.1
    by_cases h3 : x * 10 ^ k % y = 0
    · refine ⟨k, X, ?_, hk, r2, r3, Ot.rf, hm, Or.inl h3⟩
      refine q_b1 m_g5 (q_b1 pre3 ?_)
      exact q_t (by rw [h3]; decide) rfl
    · have h3' := sz_pos (show 0 < x * 10 ^ k % y by omega)
      by_cases h8 : 8200 ≤ k
      · refine ⟨k, X, ?_, hk, r2, r3, Ot.rf, hm, Or.inr (Or.inl h8)⟩
        refine q_b1 m_g5 (q_b1 pre3 ?_)
        refine q_f (nI_nle h3' (by omega)) ?_
        exact q_t (nI_le (a := 8200) h8 (by omega)) rfl
      · by_cases h4 : sz (x * 10 ^ k / y) ≤ 4096
        · obtain ⟨X1, p1, p2, p3, p4, p5⟩ := t_mdig (σ := σ) (o := o) hy r1 r2 r3 b1 (by omega)
          obtain ⟨k', X', q1, q2, q3, q4, q5, q6, q7⟩ := ih (k + 1) X1 (by omega) (by omega) (fun j hj => by
            by_cases hjk : j = k
            · subst hjk; exact h3
            · exact hm j (by omega)) (r1.ot p3 (by decide) (by decide)) p1 p2
          refine ⟨k', X', ?_, q2, q3, q4, p3.trans q5 (fun _ w => w), q6, q7⟩
          refine q_b1 m_g5 (q_b1 pre3 ?_)
          refine q_f (nI_nle h3' (by omega)) ?_
          refine q_f (nI_ge (b := 8200) (by omega) (by decide)) ?_
          refine q_b1 m_g5 (q_b1 pre2 ?_)
          refine q_f (nI_nlt (a := 4096) h4 (by decide)) ?_
          exact p5 (fun z14 => lt (nI k + 1) fun x15 => f_X6_exact_L7 f z14 o i1 i2 j3 x15) _ _ (q_le (nI_1 k) q1)
        · refine ⟨k, X, ?_, hk, r2, r3, Ot.rf, hm, Or.inr (Or.inr h4)⟩
          refine q_b1 m_g5 (q_b1 pre3 ?_)
          refine q_f (nI_nle h3' (by omega)) ?_
          refine q_f (nI_ge (b := 8200) (by omega) (by decide)) ?_
          refine q_b1 m_g5 (q_b1 pre2 ?_)
          exact q_t (nI_lt (a := 4096) (by omega) (by omega)) rfl
theorem t_mexact {i x y : Nat} {neg : Bool} {t : Int} {u z : Int32} {w : Int64} (hi : i < 8) (hu : u = nI i) (h : RG X A) (r0 : Rw X 0 x) (r1 : Rw X 1 y) (hx : 0 < x) (hy : 0 < y) (b0 : sz x ≤ 4096) (b1 : sz y ≤ 4096) (hz : z = if neg then -1 else 1) (hw : w = lZ t) (t1 : -1000000000000 ≤ t) (t2 : t < 1000000000000) : Mo σ o X (f_X6_exact (mst σ o X) o u z w) (sExact i x y neg t A) := by
  have hF := FU_ge
  unfold f_X6_exact
  refine mo_ob ?_
  obtain ⟨X1, a1, a2, a3, a4, a5⟩ := t_mquo (σ := σ) (o := o) r0 r1 hy (by omega)
  refine mo_bd a1 ?_
  have e0 : x * 10 ^ 0 = x := by rw [Nat.pow_zero, Nat.mul_one]
  obtain ⟨k', X', q1, q2, q3, q4, q5, q6, q7⟩ := t_mex_loop (σ := σ) (o := o) (i1 := u) (i2 := z) (j3 := w) hx hy b0 b1 FU 0 X1 (by omega) (by omega) (fun j hj => by omega) (r1.ot a4 (by decide) (by decide)) (by rw [e0]; exact a2) (by rw [e0]; exact a3)
  refine mo_bd q1 ?_
  have pre3 : ldI (mst σ o X') (o + 6) 3 = some (nI (sz (x * 10 ^ k' % y))) := (ld6 (i := 3) rfl (by decide)).trans (by rw [q4.2.1])
  have s3 := q4.1
  refine mo_b1 m_g5 (mo_b1 pre3 ?_)
  have h1 := (h.ot a4).ot q5
  have kt := a4.kt.trans q5.kt
  by_cases h3 : x * 10 ^ k' % y = 0
  · refine mo_R (ex_ok hx hy b0 h3 q6) ?_
    refine mo_t (by rw [h3]; rfl) ?_
    have e1 : w + (nI k').toInt64 = lZ (t + k') := by rw [hw, nI_l (by omega), lZ_n, lZ_add]
    obtain ⟨X2, d1, d2, d3, -⟩ := t_mstore (σ := σ) (o := o) (r := 2) (v := 2) (n := neg) (z := z) (s := t + k') (by decide) hi hu rfl h1 q3 (fun g => hz.trans (sg_pos g).symm) e1 (by omega) (by omega)
    refine ⟨X2, ?_, d2, kt.trans d3⟩
    refine q_bd0 d1 ?_
    unfold kpA
    split
    · exact q_f (show ¬ (1 : Int32) = 0 by decide) rfl
    · exact q_t rfl rfl
  · refine mo_R (ex_no hx hy b0 b1 (fun j hj => ?_) (q7.resolve_left h3)) ?_
    · by_cases hjk : j = k'
      · subst hjk; exact h3
      · exact q6 j (by omega)
    · exact mo_f (nI_ne0 (sz_pos (by omega)) (by omega)) ⟨X', rfl, h1, kt⟩
theorem t_mratio {d a b p how : Int32} (h : RG X A) : Mo σ o X (f_X6_ratio (mst σ o X) o d a b p how) (sRatio A d a b p how) := by
  unfold f_X6_ratio sRatio
  refine mo_ob ?_
  refine q_is (P := fun e => Mo σ o X e _) (fun hn => by rw [onR_n hn]; exact Mo.no h rfl) (fun i hi hx => ?_)
  subst hx
  rw [onR_y hi]
  refine q_is (P := fun e => Mo σ o X e _) (fun hn => by rw [onR_n hn]; exact Mo.no h rfl) (fun j hj hx => ?_)
  subst hx
  rw [onR_y hj]
  refine q_is (P := fun e => Mo σ o X e _) (fun hn => by rw [onR_n hn]; exact Mo.no h rfl) (fun k hk hx => ?_)
  subst hx
  rw [onR_y hk]
  rcases is_pr (σ := mst σ o X) p with ⟨q, hq, rfl, ep⟩ | ⟨ep, np⟩
  · refine mo_b1 ep (mo_f (by decide) ?_)
    rcases is_rn (σ := mst σ o X) how with ⟨w, hw, rfl, eh⟩ | ⟨eh, nh⟩
    · refine mo_b1 eh (mo_f (by decide) ?_)
      obtain ⟨c0, c1, c2, c3⟩ := h.1 j hj
      obtain ⟨k0, k1, k2, k3⟩ := h.1 k hk
      have yk : X 2 k = nI (sz (A.1 k)) := (h.2 k hk).1
      refine mo_b1 m_g1 (mo_b1 (ld2 rfl hk) ?_)
      rw [yk]
      rcases Nat.eq_zero_or_pos (A.1 k) with g | g
      · exact mo_R (if_neg (by omega)) (mo_t (by rw [g]; rfl) (Mo.no h rfl))
      · refine mo_f (nI_ne0 (sz_pos g) (by omega)) ?_
        refine mo_R (if_pos ⟨⟨nI_pos' (by omega), (nI_leI (b := 4096) (by omega) (by decide)).mpr hq⟩, ⟨nI_pos' (by omega), (nI_ltI (b := 8) (by omega) (by decide)).mpr hw⟩, g⟩) ?_
        rw [nI_clamp (by omega), nI_clamp (by omega)]
        refine mo_b1 m_g2 (mo_b1 (ld3 rfl hj) (mo_b1 m_g2 (mo_b1 (ld3 rfl hk) ?_)))
        refine mo_le (y := sg (A.1 j * A.1 k) (xor (A.2.1 j) (A.2.1 k))) (by rw [sgn_r h hj, sgn_r h hk, sg_mul]) ?_
        refine mo_b1 m_g3 (mo_b1 (ld4 rfl hj) (mo_b1 m_g3 (mo_b1 (ld4 rfl hk) ?_)))
        obtain ⟨t, ht⟩ : ∃ t, A.2.2 j - A.2.2 k = t := ⟨_, rfl⟩
        refine mo_le (y := lZ t) (by rw [scl_r h hj, scl_r h hk, lZ_sub, ht]) ?_
        rw [ht]
        obtain ⟨X1, a1, a2, a3, a4⟩ := t_mload (σ := σ) (o := o) (r := 0) (u := 0) (by decide) hj rfl rfl h
        obtain ⟨X2, b1, b2, b3, b4⟩ := t_mload (σ := σ) (o := o) (r := 1) (u := 1) (by decide) hk rfl rfl (h.ot a3)
        have h2 := (h.ot a3).ot b3
        have kt := a3.kt.trans b3.kt
        have r0 : Rw X2 0 (A.1 j) := a2.ot b3 (by decide) (by decide)
        refine mo_bd a1 (mo_bd b1 ?_)
        have pre : ldI (mst σ o X2) (o + 6) 0 = some (nI (sz (A.1 j))) := (ld6 (i := 0) rfl (by decide)).trans (by rw [r0.2.1])
        refine mo_b1 m_g5 (mo_b1 pre ?_)
        rcases Nat.eq_zero_or_pos (A.1 j) with g0 | g0
        · refine mo_R (if_pos g0) (mo_t (by rw [g0]; rfl) ?_)
          exact Mo.st (r := 0) (m := 0) (by decide) hi rfl rfl h2 kt (by rw [g0] at r0; exact r0) (fun w => by omega) rfl (by omega) (by omega)
        · refine mo_R (if_neg (by omega)) (mo_f (nI_ne0 (sz_pos g0) (by omega)) ?_)
          have sj := sz_pos g0
          have sk := sz_pos g
          have hsg : sg (A.1 j * A.1 k) (xor (A.2.1 j) (A.2.1 k)) = if xor (A.2.1 j) (A.2.1 k) then -1 else 1 := sg_pos (Nat.mul_pos g0 g)
          by_cases hq0 : q = 0
          · subst hq0
            refine mo_R (if_pos rfl) (mo_t rfl ?_)
            refine mo_rt kt (t_mexact hi rfl h2 r0 b2 g0 g c0 k0 hsg rfl (by omega) (by omega)) ?_
            unfold sExact
            split
            · exact isB_k
            · rfl
          · refine mo_R (if_neg (nI_ne0 (by omega) (by omega))) (mo_f (nI_ne0 (by omega) (by omega)) ?_)
            refine mo_b1 m_g1 (mo_b1 (ld2 rfl hk) (mo_b1 m_g1 (mo_b1 (ld2 rfl hj) ?_)))
            obtain ⟨e, he⟩ : ∃ e : Int, (q : Int) + sz (A.1 k) - sz (A.1 j) = e := ⟨_, rfl⟩
            refine mo_le (y := iZ e) (by rw [(h2.2 j hj).1, (h2.2 k hk).1, iZ_n, iZ_n, iZ_n, iZ_add, iZ_sub, he]) (mo_jn ?_)
            obtain ⟨X4, X5, p1, p2, p3, p4, p5, p6, p7⟩ := t_mrq (σ := σ) (o := o) (e := e) h2 r0 b2 g0 g (by omega) (by omega) (by omega)
            have nusz := nu_sz (e := e) g0
            have desz := de_sz (e := e) g
            have qge := sz_quo_ge (nu_pos (e := e) g0) (de_pos (e := e) g) (by omega)
            have qle := sz_quo_le (N := nu (A.1 j) e) (D := de (A.1 k) e) (de_pos g) (by omega)
            have heR : eR (A.1 j) (A.1 k) q = if sz (nu (A.1 j) e / de (A.1 k) e) ≤ q then e else e - 1 := by unfold eR; rw [he]
            have fin : ∀ X6 m lost (s : Int) (z : Int64), Kt X X6 → RG X6 A → Rw X6 2 m → 0 < m → sz m ≤ q → X6 0 0 = nI lost → lost < 4 → z = lZ s → -100000000000 ≤ s → s < 100000000000 → Mo σ o X ((gI (mst σ o X6) 6 o 6).bind fun x33 => if x33 ≤ 0 then (bd (f_X6_settle (mst σ o X6) o (nI i) (sg (A.1 j * A.1 k) (xor (A.2.1 j) (A.2.1 k))) z (lZ t) (nI q)) fun x34 σ35 => (isB x34).bind fun _ => some (x34, σ35, 0, 0)) else bd (f_X6_finishTo (mst σ o X6) o (nI i) 2 (sg (A.1 j * A.1 k) (xor (A.2.1 j) (A.2.1 k))) z (nI w) (nI q)) fun x36 σ37 => (isB x36).bind fun _ => some (x36, σ37, 0, 0)) (fin2 i m lost w (xor (A.2.1 j) (A.2.1 k)) s t q A) := by
              intro X6 m lost s z kt6 h6 r6 hm sm hl hl3 hz s1 s2
              refine mo_b1 m_i6 ?_
              rw [hl]
              unfold fin2
              by_cases hl0 : lost = 0
              · refine mo_R (if_pos hl0) (mo_t (by rw [hl0]; decide) ?_)
                obtain ⟨X7, d1, d2, d3⟩ := t_msettle (σ := σ) (o := o) (n := xor (A.2.1 j) (A.2.1 k)) (s := s) (t := t) (p := q) hi rfl h6 r6 hm sm hq rfl hsg hz rfl (by omega) (by omega) (by omega) (by omega)
                exact mo_rt kt6 ⟨X7, d1, d2, d3⟩ isB_stA
              · refine mo_R (if_neg hl0) (mo_f (nI_nle (by omega) (by omega)) ?_)
                obtain ⟨X7, d1, d2, d3⟩ := t_mfinishTo (σ := σ) (o := o) (r := 2) (v := 2) (n := xor (A.2.1 j) (A.2.1 k)) (s := s) (p := q) (by decide) hi rfl rfl h6 r6 sm hq rfl hl hl3 hw (fun _ => hsg) rfl hz (by omega) (by omega)
                exact mo_rt kt6 ⟨X7, d1, d2, d3⟩ isB_fnT
            have main : Mo σ o X (bd (f_X6_quotient (mst σ o X4) o) fun _ σ28 =>
      lt (((iZ e : Int32).toInt64) + lZ t) fun l29 =>
      (gR σ28 6 o 5).bind fun r30 =>
      (ldI σ28 r30 2).bind fun x31 =>
      jn (fun (z32 : Int64 × St) => (
        (gI z32.2 6 o 6).bind fun x33 =>
        if x33 ≤ 0 then (
          bd (f_X6_settle z32.2 o (nI i) (sg (A.1 j * A.1 k) (xor (A.2.1 j) (A.2.1 k))) z32.1 (lZ t) (nI q)) fun x34 σ35 =>
          (isB x34).bind fun _ => some (x34, σ35, 0, 0)
          ) else
        bd (f_X6_finishTo z32.2 o (nI i) 2 (sg (A.1 j * A.1 k) (xor (A.2.1 j) (A.2.1 k))) z32.1 (nI w) (nI q)) fun x36 σ37 =>
        (isB x36).bind fun _ => some (x36, σ37, 0, 0)
        )) fun k32 =>
      if x31 ≤ nI q then (
        k32 (l29, σ28)
        ) else
      (gR σ28 6 o 4).bind fun r38 =>
      (ldI σ28 r38 34000).bind fun x39 =>
      (gI σ28 6 o 6).bind fun x40 =>
      jn (fun (z41 : Int32) => (
        bd (f_X6_lower σ28 o 2 1) fun _ σ42 =>
        jn (fun (z43 : Int32) => (
          (pF σ42 6 o 6 (.int z43)).bind fun σ44 =>
          lt (l29 - 1) fun l45 =>
          k32 (l45, σ44)
          )) fun k43 =>
        jn (fun (z46 : Unit) => (
          k43 3
          )) fun k46 =>
        if 5 < x39 then (
          k46 ()
          ) else
        jn (fun (z47 : Unit) => (
          if x39 = 5 then (
            k43 2
            ) else
          jn (fun (z48 : Unit) => (
            k43 1
            )) fun k48 =>
          if 0 < x39 then (
            k48 ()
            ) else
          if z41 = 0 then (
            k43 0
            ) else
          k48 ()
          )) fun k47 =>
        if x39 = 5 then (
          if z41 = 0 then (
            k47 ()
            ) else
          k46 ()
          ) else
        k47 ()
        )) fun k41 =>
      if x40 ≤ 0 then (
        k41 0
        ) else
      k41 1) (fin2 i (nu (A.1 j) (eR (A.1 j) (A.1 k) q) / de (A.1 k) (eR (A.1 j) (A.1 k) q)) (lostc (nu (A.1 j) (eR (A.1 j) (A.1 k) q) % de (A.1 k) (eR (A.1 j) (A.1 k) q)) (de (A.1 k) (eR (A.1 j) (A.1 k) q)) false) w (xor (A.2.1 j) (A.2.1 k)) (eR (A.1 j) (A.1 k) q + t) t q A) := by
              refine mo_bd p2 ?_
              refine mo_le (y := lZ (e + t)) (by rw [iZ_l (by omega) (by omega), lZ_add]) ?_
              have preQ : ldI (mst σ o X5) (o + 6) 2 = some (nI (sz (nu (A.1 j) e / de (A.1 k) e))) := (ld6 (i := 2) rfl (by decide)).trans (by rw [p3.2.1])
              refine mo_b1 m_g5 (mo_b1 preQ (mo_jn ?_))
              have hQ0 : 0 < nu (A.1 j) e / de (A.1 k) e := Nat.pos_of_ne_zero fun z => by rw [z, sz_0] at qge; omega
              by_cases hsz : sz (nu (A.1 j) e / de (A.1 k) e) ≤ q
              · rw [heR, if_pos hsz]
                refine mo_t (nI_le hsz (by omega)) ?_
                exact fin X5 _ _ _ _ (kt.trans p6) p7 p3 hQ0 hsz p5 (lost_lt _ _ _) rfl (by omega) (by omega)
              · rw [heR, if_neg hsz]
                refine mo_f (nI_ge (by omega) (by omega)) ?_
                obtain ⟨e1, e2⟩ := nd_low (x := A.1 j) (y := A.1 k) (e := e) (k := 1) g (by decide)
                rw [Nat.pow_one] at e1 e2
                rw [show e - ((1 : Nat) : Int) = e - 1 from rfl] at e1 e2
                obtain ⟨Q, hQ⟩ : ∃ Q, nu (A.1 j) e / de (A.1 k) e = Q := ⟨_, rfl⟩
                rw [hQ] at p3 hQ0 hsz e1 e2 qge qle
                rw [← e1, ← e2]
                refine mo_b1 m_g4 (mo_b1 (ld5 (i := 34000) rfl (by decide)) ?_)
                have h39 : X5 5 34000 = nI (Q % 10) := by
                  have := p3.2.2 0 (sz_pos hQ0)
                  unfold dg at this
                  rw [Nat.pow_zero, Nat.div_one] at this
                  exact this
                rw [h39]
                refine mo_b1 m_i6 (mo_jn ?_)
                obtain ⟨X6, d1, d2, d3, d4⟩ := t_mlower (σ := σ) (o := o) (r := 2) (y := 2) (b := 1) (z := 1) (by decide) p3 rfl rfl (by decide) (by decide)
                rw [show (1 : Int).toNat = 1 from rfl, Nat.pow_one] at d2
                have go : ∀ (z : Int32) (mb : Bool), z = bI mb → mb = decide (nu (A.1 j) e % de (A.1 k) e ≠ 0) → Mo σ o X (bd (f_X6_lower (mst σ o X5) o 2 1) fun _ σ42 =>
        jn (fun (z43 : Int32) => (
          (pF σ42 6 o 6 (.int z43)).bind fun σ44 =>
          lt (lZ (e + t) - 1) fun l45 =>
          (gI σ44 6 o 6).bind fun x33 => if x33 ≤ 0 then (bd (f_X6_settle σ44 o (nI i) (sg (A.1 j * A.1 k) (xor (A.2.1 j) (A.2.1 k))) l45 (lZ t) (nI q)) fun x34 σ35 => (isB x34).bind fun _ => some (x34, σ35, 0, 0)) else bd (f_X6_finishTo σ44 o (nI i) 2 (sg (A.1 j * A.1 k) (xor (A.2.1 j) (A.2.1 k))) l45 (nI w) (nI q)) fun x36 σ37 => (isB x36).bind fun _ => some (x36, σ37, 0, 0)
          )) fun k43 =>
        jn (fun (z46 : Unit) => (
          k43 3
          )) fun k46 =>
        if 5 < nI (Q % 10) then (
          k46 ()
          ) else
        jn (fun (z47 : Unit) => (
          if nI (Q % 10) = 5 then (
            k43 2
            ) else
          jn (fun (z48 : Unit) => (
            k43 1
            )) fun k48 =>
          if 0 < nI (Q % 10) then (
            k48 ()
            ) else
          if z = 0 then (
            k43 0
            ) else
          k48 ()
          )) fun k47 =>
        if nI (Q % 10) = 5 then (
          if z = 0 then (
            k47 ()
            ) else
          k46 ()
          ) else
                                        k47 ()) (fin2 i (Q / 10) (lostc (Q % 10) 10 (decide (nu (A.1 j) e % de (A.1 k) e ≠ 0))) w (xor (A.2.1 j) (A.2.1 k)) (e - 1 + t) t q A) := by
                  intro z mb hz hmb
                  refine mo_bd d1 ?_
                  rw [lt_tree (Nat.mod_lt _ (by decide)) rfl hz]
                  refine mo_b1 m_p6 ?_
                  have O7 : Ot (fun _ => False) X6 (ups X6 0 (upd (X6 0) 0 (nI (lostc (Q % 10) 10 mb)))) := Ot.m0
                  refine mo_le (y := lZ (e - 1 + t)) (by rw [show (1 : Int64) = lZ 1 from rfl, lZ_sub]; congr 1; omega) ?_
                  rw [← hmb]
                  have e10 : sz (Q / 10) = sz Q - 1 := sz_div (c := 1)
                  refine fin _ _ _ _ _ (((kt.trans p6).trans d3.kt).trans O7.kt) ((p7.ot d3).ot O7) (d2.ot O7 (by decide) id) ?_ (by omega) (by rw [ups_s, pk_us]) (lost_lt _ _ _) rfl (by omega) (by omega)
                  refine Nat.pos_of_ne_zero fun z => ?_
                  rw [z, sz_0] at e10
                  omega
                rw [p5]
                by_cases hl0 : nu (A.1 j) e % de (A.1 k) e = 0
                · refine mo_t (by rw [hl0, lost_0 (de_pos g)]; decide) ?_
                  exact go 0 false rfl (by rw [hl0]; rfl)
                · have : lostc (nu (A.1 j) e % de (A.1 k) e) (de (A.1 k) e) false ≠ 0 := fun z => hl0 ((lost_z (de_pos g)).mp z).1
                  refine mo_f (nI_nle (by omega) (by have := lost_lt (nu (A.1 j) e % de (A.1 k) e) (de (A.1 k) e) false; omega)) ?_
                  exact go 1 true rfl (decide_eq_true hl0).symm
            by_cases he0 : 0 ≤ e
            · rw [if_pos he0] at p1
              refine mo_f (fun w => by have := (iZ_lt (b := 0) (by omega) (by omega) (by omega) (by omega)).mp w; omega) ?_
              exact mo_bd (by rw [iZ_nat he0]; exact p1) main
            · rw [if_neg he0] at p1
              refine mo_t ((iZ_lt (b := 0) (by omega) (by omega) (by omega) (by omega)).mpr (by omega)) ?_
              exact mo_bd (by rw [iZ_neg, iZ_nat (by omega)]; exact p1) main
    · refine mo_b1 eh (mo_t rfl ?_)
      exact mo_R (if_neg (fun w => nh w.2.1)) (Mo.no h rfl)
  · refine mo_b1 ep (mo_t rfl ?_)
    exact mo_R (if_neg (fun w => np w.1)) (Mo.no h rfl)
end MRat
