/-! ===== powers of the reference ===== -/
def sPower (A : AS) (d a n : Int32) : Int32 × AS := onR d A fun i => onR a A fun j => if 0 ≤ n then kpA i (A.1 j ^ n.toNatClampNeg) (A.2.1 j && decide (n.toNatClampNeg % 2 = 1)) (A.2.2 j * n.toNatClampNeg) A else (0, A)
theorem p2_big : (10 : Nat) ^ 4096 ≤ 2 ^ 13607 := by decide +kernel
theorem pw_big {x n k : Nat} (h : 2 ≤ x) (hk : k ≤ n) (h2 : ¬ sz (x ^ k) ≤ 4096) : ¬ sz (x ^ n) ≤ 4096 := by
  rw [sz_le] at h2 ⊢
  have := Nat.pow_le_pow_right (show 0 < x by omega) hk
  omega
theorem pw_sm {x k : Nat} (h : 2 ≤ x) (h2 : sz (x ^ k) ≤ 4096) : k < 13607 := by
  refine Nat.not_le.mp fun w => ?_
  rw [sz_le] at h2
  have h3 : x ^ 13607 ≤ x ^ k := Nat.pow_le_pow_right (by omega) w
  have h4 : 2 ^ 13607 ≤ x ^ 13607 := Nat.pow_le_pow_left h 13607
  exact absurd (Nat.lt_of_lt_of_le h2 (Nat.le_trans p2_big (Nat.le_trans h4 h3))) (Nat.lt_irrefl _)
section MPow
variable {σ : St} {o : Nat} {X : Nat → Nat → Int32} {A : AS}
theorem Rw.cp {r s x : Nat} {m : Nat → Int32} (h : Rw X s x) (hm : ∀ j, j < sz x → m (17000 * r + j) = X 5 (17000 * s + j)) (hf : ∀ q, (q < 17000 * r ∨ 17000 * (r + 1) ≤ q) → m q = X 5 q) : Rw (ups (ups X 5 m) 6 (upd (ups X 5 m 6) r (nI (sz x)))) r x ∧ Ot (fun q => q = r) X (ups (ups X 5 m) 6 (upd (ups X 5 m 6) r (nI (sz x)))) := by
  constructor
  · refine ⟨h.1, by rw [ups_s, pk_us], fun j hj => ?_⟩
    rw [ups_n (by decide), ups_s, hm j hj]
    exact h.2.2 j hj
  · exact (Ot.m5 hf).trans Ot.m6 (fun _ w => w)
theorem t_mpow_c {x : Nat} {i1 i2 i3 i6 i7 : Int32} {j4 : Int64} (h : Rw X 2 x) : ∀ (k j : Nat) (m : Nat → Int32), sz x - j < k → j ≤ sz x → (∀ t, t < j → m (17000 * 0 + t) = X 5 (17000 * 2 + t)) → (∀ q, (q < 17000 * 0 ∨ 17000 * (0 + 1) ≤ q) → m q = X 5 q) → ∃ m', f_X6_power_L145 k (mst σ o (ups X 5 m)) o i1 i2 i3 j4 i6 i7 (nI j) = some ((), mst σ o (ups X 5 m'), 0, 0) ∧ (∀ t, t < sz x → m' (17000 * 0 + t) = X 5 (17000 * 2 + t)) ∧ (∀ q, (q < 17000 * 0 ∨ 17000 * (0 + 1) ≤ q) → m' q = X 5 q) := by
  have h1 := h.1
  intro k
  induction k with
  | zero => intro j m h; omega
  | succ k ih =>
    intro j m hk hj a1 a2
    show ∃ m', b_X6_power_L145 (f_X6_power_L145 k) _ o _ _ _ _ _ _ _ = _ ∧ _
    unfold b_X6_power_L145
    have pre : ldI (mst σ o (ups X 5 m)) (o + 6) 2 = some (nI (sz x)) := (ld6 (i := 2) rfl (by decide)).trans (by rw [ups_n (by decide), h.2.1])
    by_cases he : j = sz x
    · refine ⟨m, ?_, fun t ht => a1 t (by omega), a2⟩
      refine q_b1 m_g5 (q_b1 pre ?_)
      exact q_t (nI_le (by omega) (by omega)) rfl
    · obtain ⟨m', b1, b2, b3⟩ := ih (j + 1) (upd m j (m (34000 + j))) (by omega) (by omega) (fun t ht => by
        by_cases htj : t = j
        · subst htj
          rw [show 17000 * 0 + t = t by omega, pk_us, a2 _ (by omega)]
        · rw [pk_un (by omega)]; exact a1 t (by omega)) (fun q hq => by rw [pk_un (by omega)]; exact a2 q hq)
      refine ⟨m', ?_, b2, b3⟩
      refine q_b1 m_g5 (q_b1 pre ?_)
      refine q_f (nI_ge (by omega) (by omega)) ?_
      refine q_b1 m_g4 (q_b1 m_g4 ?_)
      refine q_b1 (ld5 (i := 34000 + j) (by rw [show (34000 : Int32) = nI 34000 from rfl, nI_add]) (by omega)) ?_
      refine q_b1 (st5 rfl (by omega)) ?_
      rw [ups_ups, ups_s]
      exact q_le (nI_1 j) b1
theorem t_mpow_loop {x n : Nat} {i1 i2 : Int32} {j4 : Int64} (hx : 2 ≤ x) (hsx : sz x ≤ 4096) (hn : n < 2 ^ 31) : ∀ (f k : Nat) (X : Nat → Nat → Int32), 13607 - k < f → k ≤ n → sz (x ^ k) ≤ 4096 → Rw X 0 (x ^ k) → Rw X 1 x → (∃ X', f_X6_power_L113 f (mst σ o X) o i1 i2 (nI n) j4 0 (nI k) = some (.inr (), mst σ o X', 0, 0) ∧ Rw X' 0 (x ^ n) ∧ Ot (fun q => q = 0 ∨ q = 2) X X' ∧ sz (x ^ n) ≤ 4096) ∨ (∃ X', f_X6_power_L113 f (mst σ o X) o i1 i2 (nI n) j4 0 (nI k) = some (.inl (), mst σ o X', 0, 0) ∧ Ot (fun q => q = 0 ∨ q = 2) X X' ∧ ¬ sz (x ^ n) ≤ 4096) := by
  have hF := FU_ge
  intro f
  induction f with
  | zero => intro k X h; omega
  | succ f ih =>
    intro k X hf hk hs r0 r1
    have hkk := pw_sm hx hs
    show (∃ X', b_X6_power_L113 (f_X6_power_L113 f) _ o _ _ _ _ _ _ = _ ∧ _) ∨ (∃ X', b_X6_power_L113 (f_X6_power_L113 f) _ o _ _ _ _ _ _ = _ ∧ _)
    unfold b_X6_power_L113
    by_cases he : k = n
    · subst he
      exact Or.inl ⟨X, q_t (nI_le (Nat.le_refl _) (by omega)) rfl, r0, Ot.rf, hs⟩
    · obtain ⟨X1, a1, a2, a3, a4⟩ := t_mproduct (σ := σ) (o := o) r0 r1 (by omega)
      rw [← Nat.pow_succ] at a2
      have pre : ldI (mst σ o X1) (o + 6) 2 = some (nI (sz (x ^ (k + 1)))) := (ld6 (i := 2) rfl (by decide)).trans (by rw [a2.2.1])
      have a21 := a2.1
      by_cases hs2 : sz (x ^ (k + 1)) ≤ 4096
      · obtain ⟨m', b1, b2, b3⟩ := t_mpow_c (σ := σ) (o := o) (i1 := i1) (i2 := i2) (i3 := nI n) (j4 := j4) (i6 := 0) (i7 := nI k) a2 FU 0 (X1 5) (by omega) (Nat.zero_le _) (fun t ht => by omega) (fun _ _ => rfl)
        rw [ups_self] at b1
        obtain ⟨c1, c2⟩ := Rw.cp a2 b2 b3
        have pre2 : ldI (mst σ o (ups X1 5 m')) (o + 6) 2 = some (nI (sz (x ^ (k + 1)))) := (ld6 (i := 2) rfl (by decide)).trans (by rw [ups_n (by decide), a2.2.1])
        have step : ∀ v σ', f_X6_power_L113 f (mst σ o (ups (ups X1 5 m') 6 (upd (ups X1 5 m' 6) 0 (nI (sz (x ^ (k + 1))))))) o i1 i2 (nI n) j4 0 (nI (k + 1)) = some (v, σ', 0, 0) → (if nI n ≤ nI k then some (.inr (), mst σ o X, 0, 0) else if (0 : Int32) = 0 then (bd (f_X6_product (mst σ o X) o) fun _ σ17 => (gR σ17 6 o 5).bind fun r18 => (ldI σ17 r18 2).bind fun x19 => if x19 ≤ 4096 then (bd (f_X6_power_L145 FU σ17 o i1 i2 (nI n) j4 0 (nI k) 0) fun y27 σ28 => (gR σ28 6 o 5).bind fun r29 => (gR σ28 6 o 5).bind fun r30 => (ldI σ28 r30 2).bind fun x31 => (stI σ28 r29 0 x31).bind fun σ32 => lt (nI k + 1) fun x33 => f_X6_power_L113 f σ32 o i1 i2 (nI n) j4 0 x33) else some (.inl (), σ17, 0, 0)) else some (.inr (), mst σ o X, 0, 0)) = some (v, σ', 0, 0) := by
          intro v σ' he'
          refine q_f (nI_ge (by omega) (by omega)) ?_
          refine q_t rfl ?_
          refine q_bd0 a1 ?_
          refine q_b1 m_g5 (q_b1 pre ?_)
          refine q_t (nI_le (b := 4096) hs2 (by decide)) ?_
          refine q_bd0 b1 ?_
          refine q_b1 m_g5 (q_b1 m_g5 (q_b1 pre2 ?_))
          refine q_b1 (st6 (i := 0) rfl (by decide)) ?_
          exact q_le (nI_1 k) he'
        rcases ih (k + 1) _ (by omega) (by omega) hs2 c1 ((r1.ot a3 (by decide) (by decide)).ot c2 (by decide) (by decide)) with ⟨X', d1, d2, d3, d4⟩ | ⟨X', d1, d2, d3⟩
        · exact Or.inl ⟨X', step _ _ d1, d2, ((a3.mono (fun q w => Or.inr w)).trans c2 (fun q w => Or.inl w)).trans d3 (fun _ w => w), d4⟩
        · exact Or.inr ⟨X', step _ _ d1, ((a3.mono (fun q w => Or.inr w)).trans c2 (fun q w => Or.inl w)).trans d2 (fun _ w => w), d3⟩
      · refine Or.inr ⟨X1, ?_, a3.mono (fun q w => Or.inr w), pw_big hx (show k + 1 ≤ n by omega) hs2⟩
        refine q_f (nI_ge (by omega) (by omega)) ?_
        refine q_t rfl ?_
        refine q_bd0 a1 ?_
        refine q_b1 m_g5 (q_b1 pre ?_)
        exact q_f (nI_ge (a := 4096) (b := sz (x ^ (k + 1))) (by omega) (by have := a21; rw [Nat.succ_eq_add_one] at this; omega)) rfl
theorem mo_bdx {R : Int32 × AS} {τ : Type} {e : Rs τ} {f : τ → St → Rs Int32} {a : τ} {σ1 : St} (h : e = some (a, σ1, 0, 0)) (k : Mo σ o X (f a σ1) R) : Mo σ o X (bd e f) R := mo_bd h k
theorem t_mpower {d a n : Int32} (h : RG X A) : Mo σ o X (f_X6_power (mst σ o X) o d a n) (sPower A d a n) := by
  have hF := FU_ge
  unfold f_X6_power sPower
  refine mo_ob ?_
  refine q_is (P := fun e => Mo σ o X e _) (fun hn => by rw [onR_n hn]; exact Mo.no h rfl) (fun i hi hx => ?_)
  subst hx
  rw [onR_y hi]
  refine q_is (P := fun e => Mo σ o X e _) (fun hn => by rw [onR_n hn]; exact Mo.no h rfl) (fun j hj hx => ?_)
  subst hx
  rw [onR_y hj]
  by_cases hn : 0 ≤ n
  · obtain ⟨w, hw, rfl⟩ := nI_of (x := n) (Int32.not_lt.mpr hn)
    refine mo_R (if_pos hn) (mo_t hn ?_)
    rw [nI_clamp (by omega)]
    obtain ⟨c0, c1, c2, c3⟩ := h.1 j hj
    refine mo_b1 m_g3 (mo_b1 (ld4 rfl hj) (mo_le (y := lZ (A.2.2 j * w)) (by rw [scl_r h hj, nI_l (by omega), lZ_n, lZ_mul]) ?_))
    obtain ⟨X1, a1, a2, a3, a4⟩ := t_mload (σ := σ) (o := o) (r := 1) (u := 1) (by decide) hj rfl rfl h
    refine mo_bd a1 ?_
    refine mo_b1 m_g5 (mo_b1 (st6 (i := 0) rfl (by decide)) (mo_b1 m_g4 (mo_b1 (st5 (i := 0) rfl (by decide)) ?_)))
    have O2 : Ot (fun q => q = 0) X1 (ups X1 6 (upd (X1 6) 0 1)) := Ot.m6
    have O3 : Ot (fun q => q = 0) (ups X1 6 (upd (X1 6) 0 1)) (ups (ups X1 6 (upd (X1 6) 0 1)) 5 (upd (ups X1 6 (upd (X1 6) 0 1) 5) 0 1)) := Ot.m5 (fun q hq => pk_un (by omega))
    obtain ⟨X2, hX2⟩ : ∃ X2, ups (ups X1 6 (upd (X1 6) 0 1)) 5 (upd (ups X1 6 (upd (X1 6) 0 1) 5) 0 1) = X2 := ⟨_, rfl⟩
    rw [hX2] at O3 ⊢
    have O := O2.trans O3 (fun _ q => q)
    have h2 := (h.ot a3).ot O
    have kt := a3.kt.trans O.kt
    have rb : Rw X2 1 (A.1 j) := a2.ot O (by decide) (by decide)
    have ra : Rw X2 0 1 := by
      refine ⟨by decide, ?_, fun t ht => ?_⟩
      · rw [← hX2, ups_n (by decide), ups_s, pk_us]; rfl
      · rw [show sz 1 = 1 from rfl] at ht
        have : t = 0 := by omega
        subst this
        rw [← hX2, ups_s, show 17000 * 0 + 0 = 0 from rfl, pk_us]; rfl
    have pre : ldI (mst σ o X2) (o + 6) 1 = some (nI (sz (A.1 j))) := (ld6 (i := 1) rfl (by decide)).trans (by rw [rb.2.1])
    have sb1 : -9223372036854775808 ≤ A.2.2 j * w := by
      have : A.2.2 j * w ≥ -2147483648 * 2147483648 := by
        refine Int.le_trans (b := -2147483648 * (w : Int)) (by omega) (Int.mul_le_mul_of_nonneg_right c1 (by omega))
      omega
    have sb2 : A.2.2 j * w < 9223372036854775808 := by
      have : A.2.2 j * w ≤ 2147483647 * (w : Int) := Int.mul_le_mul_of_nonneg_right (by omega) (by omega)
      omega
    have fin : ∀ X3 m, Kt X X3 → RG X3 A → Rw X3 0 m → m = A.1 j ^ w → Mo σ o X ((rmI (nI w) 2).bind fun x38 => jn (fun (z39 : Int32) => (bd (f_X6_store (mst σ o X3) o (nI i) 0 z39 (lZ (A.2.2 j * w))) fun x40 σ41 => (isB x40).bind fun _ => some (x40, σ41, 0, 0))) fun k39 => if x38 = 0 then (k39 1) else (gR (mst σ o X3) 6 o 2).bind fun r42 => (ldI (mst σ o X3) r42 (nI j)).bind fun x43 => k39 x43) (kpA i (A.1 j ^ w) (A.2.1 j && decide (w % 2 = 1)) (A.2.2 j * w) A) := by
      intro X3 m kt3 h3 r3 hm
      subst hm
      refine mo_b1 (rmI_eq (b := 2) rfl rfl (by omega) (by decide) (by decide)) (mo_jn ?_)
      rcases Nat.mod_two_eq_zero_or_one w with q | q
      · refine mo_t (by rw [q]; rfl) ?_
        refine Mo.st (r := 0) (by decide) hi rfl rfl h3 kt3 r3 (fun g => ?_) rfl sb1 sb2
        rw [q, decide_eq_false (by decide), Bool.and_false, sg_pos g]; rfl
      · refine mo_f (by rw [q]; decide) ?_
        refine mo_b1 m_g2 (mo_b1 (ld3 rfl hj) ?_)
        refine Mo.st (r := 0) (by decide) hi rfl rfl h3 kt3 r3 (fun g => ?_) rfl sb1 sb2
        rw [q, decide_eq_true rfl, Bool.and_true, sgn_r h3 hj, sg_pos g, sg_pos (Nat.pos_of_ne_zero fun e => ?_)]
        rw [e, Nat.zero_pow (by omega)] at g
        omega
    have loop0 : ∀ X3 b, b ≠ (0 : Int32) ∨ w = 0 → f_X6_power_L113 FU (mst σ o X3) o (nI i) (nI j) (nI w) (lZ (A.2.2 j * w)) b 0 = some (.inr (), mst σ o X3, 0, 0) := by
      intro X3 b hb
      obtain ⟨F, hF'⟩ : ∃ F, FU = F + 1 := ⟨FU - 1, by omega⟩
      rw [hF']
      show b_X6_power_L113 _ _ o _ _ _ _ _ _ = _
      unfold b_X6_power_L113
      by_cases hw0 : w = 0
      · subst hw0
        exact q_t (by decide) rfl
      · refine q_f (by exact nI_nle (by omega) (by omega)) ?_
        exact q_f (hb.resolve_right hw0) rfl
    refine mo_b1 m_g5 (mo_b1 pre (mo_jn (mo_jn ?_)))
    rcases Nat.eq_zero_or_pos (A.1 j) with g | g
    · -- nothing
      refine mo_t (by rw [g]; rfl) ?_
      refine mo_b1 m_g5 (mo_b1 pre (mo_jn ?_))
      refine mo_t (by rw [g]; rfl) ?_
      by_cases hw0 : w = 0
      · refine mo_t (by rw [hw0]; decide) ?_
        refine mo_bd (loop0 X2 1 (Or.inl (by decide))) ?_
        exact fin X2 1 kt h2 ra (by rw [hw0, Nat.pow_zero])
      · refine mo_f (nI_nle (by omega) (by omega)) ?_
        refine mo_b1 m_g5 (mo_b1 (st6 (i := 0) rfl (by decide)) ?_)
        have O4 : Ot (fun q => q = 0) X2 (ups X2 6 (upd (X2 6) 0 0)) := Ot.m6
        refine mo_bd (loop0 _ 1 (Or.inl (by decide))) ?_
        refine fin _ 0 (kt.trans O4.kt) (h2.ot O4) ⟨by decide, by rw [ups_s, pk_us]; rfl, fun t ht => by rw [sz_0] at ht; omega⟩ (by rw [g, Nat.zero_pow (by omega)])
    · have hs := sz_pos g
      refine mo_f (nI_ne0 hs (by omega)) ?_
      refine mo_b1 m_g5 (mo_b1 pre (mo_jn ?_))
      by_cases h1 : A.1 j = 1
      · refine mo_t (by rw [h1]; rfl) ?_
        refine mo_b1 m_g4 (mo_b1 (ld5 (i := 17000) rfl (by decide)) ?_)
        refine mo_t (by have := rb.2.2 0 hs; rw [h1] at this; exact this) ?_
        refine mo_b1 m_g5 (mo_b1 pre (mo_jn ?_))
        refine mo_f (nI_ne0 hs (by omega)) ?_
        refine mo_bd (loop0 X2 1 (Or.inl (by decide))) ?_
        exact fin X2 1 kt h2 ra (by rw [h1, Nat.one_pow])
      · have big : Mo σ o X ((gR (mst σ o X2) 6 o 5).bind fun r14 =>
        (ldI (mst σ o X2) r14 1).bind fun x15 =>
        jn (fun (z16 : St) => (
          bd (f_X6_power_L113 FU z16 o (nI i) (nI j) (nI w) (lZ (A.2.2 j * w)) 0 0) fun y34 σ35 =>
          match y34 with
          | .inl z36 => (
            (isB 0).bind fun _ => some (0, σ35, 0, 0)
            )
          | .inr z37 => (
            (rmI (nI w) 2).bind fun x38 =>
            jn (fun (z39 : Int32) => (
              bd (f_X6_store σ35 o (nI i) 0 z39 (lZ (A.2.2 j * w))) fun x40 σ41 =>
              (isB x40).bind fun _ => some (x40, σ41, 0, 0)
              )) fun k39 =>
            if x38 = 0 then (
              k39 1
              ) else
            (gR σ35 6 o 2).bind fun r42 =>
            (ldI σ35 r42 (nI j)).bind fun x43 =>
            k39 x43
            )
          )) fun k16 =>
        if x15 = 0 then (
          if nI w ≤ 0 then (
            k16 (mst σ o X2)
            ) else
          (gR (mst σ o X2) 6 o 5).bind fun r44 =>
          (stI (mst σ o X2) r44 0 0).bind fun σ45 =>
          k16 σ45
          ) else
        k16 (mst σ o X2)) (kpA i (A.1 j ^ w) (A.2.1 j && decide (w % 2 = 1)) (A.2.2 j * w) A) := by
          refine mo_b1 m_g5 (mo_b1 pre (mo_jn ?_))
          refine mo_f (nI_ne0 hs (by omega)) ?_
          rcases t_mpow_loop (σ := σ) (o := o) (i1 := nI i) (i2 := nI j) (j4 := lZ (A.2.2 j * w)) (x := A.1 j) (n := w) (by omega) c0 (by omega) FU 0 X2 (by omega) (Nat.zero_le _) (by rw [Nat.pow_zero]; decide) (by rw [Nat.pow_zero]; exact ra) rb with ⟨X', d1, d2, d3, d4⟩ | ⟨X', d1, d2, d3⟩
          · refine mo_bd d1 ?_
            exact fin X' _ (kt.trans d3.kt) (h2.ot d3) d2 rfl
          · refine mo_bd d1 ?_
            refine mo_R (kp_big d3) ?_
            exact ⟨X', rfl, h2.ot d2, kt.trans d2.kt⟩
        by_cases hs1 : sz (A.1 j) = 1
        · refine mo_t (by rw [hs1]; rfl) ?_
          refine mo_b1 m_g4 (mo_b1 (ld5 (i := 17000) rfl (by decide)) ?_)
          refine mo_f (fun w2 => ?_) big
          have e0 := rb.2.2 0 hs
          have e1 : nI (dg (A.1 j) 0) = nI 1 := e0.symm.trans w2
          have e2 := (nI_eq (by have := dg_lt (A.1 j) 0; omega) (by decide)).mp e1
          have e3 := sz_lt (A.1 j)
          rw [hs1] at e3
          unfold dg at e2
          rw [Nat.pow_zero, Nat.div_one] at e2
          omega
        · exact mo_f (fun w2 => hs1 ((nI_eq (a := sz (A.1 j)) (b := 1) (by omega) (by decide)).mp w2)) big
  · exact mo_R (if_neg hn) (mo_f hn (Mo.no h rfl))
end MPow
