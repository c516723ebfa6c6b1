section MQ
variable {σ : St} {o r : Nat} {X : Nat → Nat → Int32}
/-- a row is raised by one digit, and d is put there -/
theorem t_push {x d : Nat} {u ix dI : Int32} (hr : r < 4) (h : Rw X r (x * 10)) (hu : u = nI r) (hix : ix = nI (17000 * r)) (hdI : dI = nI d) (hd : d < 10) (hb : sz x ≤ 16980) : ∃ X', Rw X' r (x * 10 + d) ∧ Ot (fun q => q = r) X X' ∧ X' 0 = X 0 ∧ ∀ {ρ : Type} (K : St → Option ρ), ((gR (mst σ o X) 6 o 5).bind fun r2 => (ldI (mst σ o X) r2 u).bind fun x3 => jn (fun (z4 : St) => ((gR z4 6 o 5).bind fun r5 => (ldI z4 r5 u).bind fun x6 => jn (fun (z7 : St) => K z7) fun k7 => if x6 ≤ 0 then k7 z4 else (gR z4 6 o 4).bind fun r13 => (stI z4 r13 ix dI).bind fun σ14 => k7 σ14)) fun k4 => if x3 = 0 then (if dI ≤ 0 then k4 (mst σ o X) else (gR (mst σ o X) 6 o 5).bind fun r15 => (stI (mst σ o X) r15 u 1).bind fun σ16 => k4 σ16) else k4 (mst σ o X)) = K (mst σ o X') := by
  subst hu hix hdI
  obtain ⟨h1, h2, h3⟩ := id h
  have p1 : ldI (mst σ o X) (o + 6) (nI r) = some (nI (sz (x * 10))) := by rw [ld6 rfl hr, h2]
  rcases Nat.eq_zero_or_pos x with hx | hx
  · subst hx
    rw [Nat.zero_mul] at h p1 h2
    rw [sz_0] at p1
    rcases Nat.eq_zero_or_pos d with hd0 | hd0
    · subst hd0
      refine ⟨X, by rw [Nat.zero_mul]; exact h, Ot.rf, rfl, fun K => ?_⟩
      refine q_b1 m_g5 (q_b1 p1 (q_jn ?_))
      refine q_t rfl (q_t (by decide) ?_)
      refine q_b1 m_g5 (q_b1 p1 (q_jn ?_))
      exact q_t (by decide) rfl
    · have hO := Ot.m6 (X := X) (r := r) (v := 1)
      have hO2 : Ot (fun q => q = r) (ups X 6 (upd (X 6) r 1)) (ups (ups X 6 (upd (X 6) r 1)) 5 (upd (ups X 6 (upd (X 6) r 1) 5) (17000 * r) (nI d))) := Ot.m5 (fun i hi => pk_un (by omega))
      refine ⟨_, ?_, hO.trans hO2 (fun _ w => w), by rw [ups_n (by decide), ups_n (by decide)], fun K => ?_⟩
      · have hv : 0 * 10 + d = vl 10 (fun _ => d) 1 := by simp [vl]
        rw [hv]
        refine Rw.of (by rw [ups_n (by decide), ups_s, pk_us]; rfl) (by decide) (fun j hj => ?_) (fun _ => hd0)
        rw [show j = 0 by omega, Nat.add_zero, ups_s, pk_us]
        exact ⟨rfl, hd⟩
      · refine q_b1 m_g5 (q_b1 p1 (q_jn ?_))
        refine q_t rfl (q_f (nI_nle hd0 (by omega)) ?_)
        refine q_b1 m_g5 (q_b1 (st6 rfl hr) ?_)
        refine q_b1 m_g5 (q_b1 (ld6 rfl hr) ?_)
        rw [ups_s, pk_us]
        refine q_jn (q_f (by decide) ?_)
        exact q_b1 m_g4 (q_b1 (st5 rfl (by omega)) rfl)
  · have hs := sz_pos hx
    have e1 : sz (x * 10) = sz x + 1 := sz_mul (k := 1) hx
    rw [e1] at p1 h1
    have hO2 : Ot (fun q => q = r) X (ups X 5 (upd (X 5) (17000 * r) (nI d))) := Ot.m5 (fun i hi => pk_un (by omega))
    have e2 : sz (x * 10 + d) = sz x + 1 := by
      refine sz_eq (by omega) ?_ ?_
      · have := sz_lt x
        rw [Nat.pow_succ]
        omega
      · have := sz_ge hx
        have e3 : 10 ^ sz x = 10 ^ (sz x - 1) * 10 := by rw [← Nat.pow_succ]; congr 1; omega
        rw [Nat.add_sub_cancel]
        omega
    refine ⟨_, ⟨by rw [e2]; omega, ?_, fun j hj => ?_⟩, hO2, by rw [ups_n (by decide)], fun K => ?_⟩
    · rw [ups_n (by decide), h2, e1, e2]
    · rw [e2] at hj
      rw [ups_s]
      rcases Nat.eq_zero_or_pos j with hj0 | hj0
      · subst hj0
        rw [Nat.add_zero, pk_us]
        congr 1
        unfold dg
        rw [Nat.pow_zero, Nat.div_one]
        omega
      · obtain ⟨e, rfl⟩ : ∃ e, j = e + 1 := ⟨j - 1, by omega⟩
        rw [pk_un (by omega), h3 (e + 1) (by omega)]
        congr 1
        unfold dg
        rw [Nat.pow_succ, Nat.mul_comm (10 ^ e) 10, ← Nat.div_div_eq_div_mul, ← Nat.div_div_eq_div_mul]
        congr 2
        omega
    · refine q_b1 m_g5 (q_b1 p1 (q_jn ?_))
      refine q_f (nI_ne0 (by omega) (by omega)) ?_
      refine q_b1 m_g5 (q_b1 p1 (q_jn ?_))
      refine q_f (nI_nle (by omega) (by omega)) ?_
      exact q_b1 m_g4 (q_b1 (st5 rfl (by omega)) rfl)
theorem t_step_loop {y : Nat} (hy : 0 < y) : ∀ (k x v : Nat) (X : Nat → Nat → Int32), x / y < k → Rw X 3 x → Rw X 1 y → ∃ X', f_X6_step_L45 k (mst σ o X) o (nI v) = some (nI (v + x / y), mst σ o X', 0, 0) ∧ Rw X' 3 (x % y) ∧ Ot (fun q => q = 3) X X' ∧ X' 0 = X 0 := by
  intro k
  induction k with
  | zero => intro x v X h; exact absurd h (Nat.not_lt_zero _)
  | succ k ih =>
    intro x v X hk h h'
    show ∃ X', b_X6_step_L45 (f_X6_step_L45 k) _ o _ = _ ∧ _
    unfold b_X6_step_L45
    have hc := t_mcmp (σ := σ) (o := o) (u := 3) (v := 1) (by decide) (by decide) h h' rfl rfl
    by_cases hlt : x < y
    · rw [if_pos hlt] at hc
      refine ⟨X, ?_, by rw [Nat.mod_eq_of_lt hlt]; exact h, Ot.rf, rfl⟩
      refine q_b1 hc ?_
      rw [Nat.div_eq_of_lt hlt]
      exact q_t (by decide) rfl
    · rw [if_neg hlt] at hc
      obtain ⟨X1, a1, a2, a3, a4⟩ := t_mless (σ := σ) (o := o) (u := 3) (v := 1) (by decide) (by decide) (by decide) h h' rfl rfl (by omega)
      have e1 : x / y = (x - y) / y + 1 := by
        conv => lhs; rw [show x = x - y + y by omega]
        exact Nat.add_div_right _ hy
      have e2 : x % y = (x - y) % y := (Nat.mod_eq_sub_mod (by omega))
      obtain ⟨X', b1, b2, b3, b4⟩ := ih (x - y) (v + 1) X1 (by omega) a2 (h'.ot a3 (by decide) (by decide))
      refine ⟨X', ?_, by rw [e2]; exact b2, a3.trans b3 (fun _ w => w), b4.trans a4⟩
      refine q_b1 hc ?_
      refine q_f ?_ ?_
      · by_cases hxy : x = y
        · rw [if_pos hxy]; decide
        · rw [if_neg hxy]; decide
      refine q_bd0 a1 ?_
      refine q_le (nI_1 v) ?_
      rw [e1, show v + ((x - y) / y + 1) = v + 1 + (x - y) / y by omega]
      exact b1
theorem t_step {x y d : Nat} {dI : Int32} (h : Rw X 3 x) (h' : Rw X 1 y) (hxy : x < y) (hd : d < 10) (hdI : dI = nI d) (hb : sz x ≤ 16980) : ∃ X', f_X6_step (mst σ o X) o dI = some (nI ((x * 10 + d) / y), mst σ o X', 0, 0) ∧ Rw X' 3 ((x * 10 + d) % y) ∧ Ot (fun q => q = 3) X X' ∧ X' 0 = X 0 := by
  have hF := FU_ge
  obtain ⟨X1, a1, a2, a3, a4⟩ := t_mraise (σ := σ) (o := o) (y := 3) (z := 1) (k := 1) (by decide) h rfl rfl (by omega)
  rw [Nat.pow_one] at a2
  obtain ⟨X2, b1, b2, b3, b4⟩ := t_push (σ := σ) (o := o) (u := 3) (ix := 51000) (dI := dI) (by decide) a2 rfl rfl hdI hd hb
  have hq : (x * 10 + d) / y < 10 := by
    rw [Nat.div_lt_iff_lt_mul (by omega)]
    omega
  have hO := a3.trans b2 (fun _ w => w)
  obtain ⟨X3, c1, c2, c3, c4⟩ := t_step_loop (σ := σ) (o := o) (show 0 < y by omega) FU (x * 10 + d) 0 X2 (by omega) b1 (h'.ot hO (by decide) (by decide))
  rw [Nat.zero_add] at c1
  refine ⟨X3, ?_, c2, hO.trans c3 (fun _ w => w), c4.trans (b3.trans a4)⟩
  unfold f_X6_step
  refine q_ob m_o ?_
  refine q_bd0 a1 ?_
  refine (b4 (fun z7 => bd (f_X6_step_L45 FU z7 o 0) fun y11 σ12 => some (y11, σ12, 0, 0))).trans ?_
  exact q_bd0 c1 rfl
/-! judge: what is left, against half of the divisor -/
theorem dbl_dg {x k : Nat} : (2 * dg x k + 2 * (x % 10 ^ k) / 10 ^ k) % 10 = dg (2 * x) k ∧ (2 * dg x k + 2 * (x % 10 ^ k) / 10 ^ k) / 10 = 2 * (x % 10 ^ (k + 1)) / 10 ^ (k + 1) := by
  have hp : 0 < 10 ^ k := Nat.pow_pos (by decide)
  have e1 : 2 * x / 10 ^ k = 2 * (x / 10 ^ k) + 2 * (x % 10 ^ k) / 10 ^ k := by
    conv => lhs; rw [← Nat.mod_add_div x (10 ^ k)]
    rw [Nat.mul_add, Nat.mul_left_comm, Nat.add_mul_div_left _ _ hp, Nat.add_comm]
  constructor
  · unfold dg
    rw [e1]
    omega
  · have e2 : x % 10 ^ (k + 1) = x % 10 ^ k + 10 ^ k * dg x k := Nat.mod_pow_succ
    have e3 : 2 * (x % 10 ^ (k + 1)) / 10 ^ k = 2 * (x % 10 ^ k) / 10 ^ k + 2 * dg x k := by
      rw [e2, Nat.mul_add, Nat.mul_left_comm, Nat.add_mul_div_left _ _ hp]
    have e4 : 2 * (x % 10 ^ (k + 1)) / 10 ^ (k + 1) = 2 * (x % 10 ^ (k + 1)) / 10 ^ k / 10 := by rw [Nat.div_div_eq_div_mul, ← Nat.pow_succ]
    rw [e4, e3, Nat.add_comm]
theorem t_judge_loop {x y N : Nat} (h : Rw X 3 x) (h' : Rw X 1 y) (hN : N = max (sz x) (sz y) + 1) : ∀ (k i : Nat) (w : Int32), N - i < k → i ≤ N → (0 < w ↔ y % 10 ^ i < 2 * x % 10 ^ i) → (w = 0 ↔ y % 10 ^ i = 2 * x % 10 ^ i) → ∃ w', f_X6_judge_L34 k (mst σ o X) o w (nI (2 * (x % 10 ^ i) / 10 ^ i)) (nI i) = some w' ∧ (0 < w' ↔ y < 2 * x) ∧ (w' = 0 ↔ y = 2 * x) := by
  obtain ⟨h1, h2, h3⟩ := h
  obtain ⟨k1, k2, k3⟩ := h'
  have hmx1 : sz x ≤ max (sz x) (sz y) := Nat.le_max_left _ _
  have hmx2 : sz y ≤ max (sz x) (sz y) := Nat.le_max_right _ _
  have hmb : max (sz x) (sz y) ≤ 16990 := Nat.max_le.mpr ⟨h1, k1⟩
  have hmd : sz x = max (sz x) (sz y) ∨ sz y = max (sz x) (sz y) := by omega
  intro k
  induction k with
  | zero => intro i w h; omega
  | succ k ih =>
    intro i w hk hi g1 g2
    show ∃ w', b_X6_judge_L34 (f_X6_judge_L34 k) _ o _ _ _ = _ ∧ _
    unfold b_X6_judge_L34
    have pre3 : ldI (mst σ o X) (o + 6) 3 = some (nI (sz x)) := (ld6 (i := 3) rfl (by decide)).trans (by rw [h2])
    have pre1 : ldI (mst σ o X) (o + 6) 1 = some (nI (sz y)) := (ld6 (i := 1) rfl (by decide)).trans (by rw [k2])
    by_cases he : i = N
    · have lx : 2 * x < 10 ^ i := by
        have : x < 10 ^ (N - 1) := sz_le.mp (by omega)
        have e : 10 ^ i = 10 ^ (N - 1) * 10 := by rw [← Nat.pow_succ]; congr 1; omega
        omega
      have ly : y < 10 ^ i := sz_le.mp (by omega)
      rw [Nat.mod_eq_of_lt lx, Nat.mod_eq_of_lt ly] at g1 g2
      refine ⟨w, ?_, g1, g2⟩
      refine q_b1 m_g5 (q_b1 pre1 (q_jn ?_))
      refine q_f (by rw [nI_1]; exact nI_nlt (by omega) (by omega)) ?_
      refine q_b1 m_g5 (q_b1 pre3 ?_)
      exact q_t (by rw [nI_1]; exact nI_le (by omega) (by omega)) rfl
    · have d1 := dg_lt x i
      have d2 := dg_lt y i
      have d3 := dg_lt (2 * x) i
      obtain ⟨e1, e2⟩ := dbl_dg (x := x) (k := i)
      have hcar : 2 * (x % 10 ^ i) / 10 ^ i < 2 := by
        rw [Nat.div_lt_iff_lt_mul (Nat.pow_pos (by decide))]
        have := Nat.mod_lt x (show 0 < 10 ^ i from Nat.pow_pos (by decide))
        omega
      obtain ⟨c, hc⟩ : ∃ c, 2 * (x % 10 ^ i) / 10 ^ i = c := ⟨_, rfl⟩
      rw [hc] at e1 e2 hcar ⊢
      have ey : y % 10 ^ (i + 1) = y % 10 ^ i + 10 ^ i * dg y i := Nat.mod_pow_succ
      have ex : 2 * x % 10 ^ (i + 1) = 2 * x % 10 ^ i + 10 ^ i * dg (2 * x) i := Nat.mod_pow_succ
      have ly := Nat.mod_lt y (show 0 < 10 ^ i from Nat.pow_pos (by decide))
      have lx := Nat.mod_lt (2 * x) (show 0 < 10 ^ i from Nat.pow_pos (by decide))
      have body : ∀ w2 : Int32, ((nI (dg (2 * x) i) - nI (dg y i) = 0 ∧ w2 = w) ∨ (nI (dg (2 * x) i) - nI (dg y i) ≠ 0 ∧ w2 = nI (dg (2 * x) i) - nI (dg y i))) → ∃ w', f_X6_judge_L34 k (mst σ o X) o w2 (nI (2 * (x % 10 ^ (i + 1)) / 10 ^ (i + 1))) (nI (i + 1)) = some w' ∧ (0 < w' ↔ y < 2 * x) ∧ (w' = 0 ↔ y = 2 * x) := by
        intro w2 hw2
        have hz : nI (dg (2 * x) i) - nI (dg y i) = 0 ↔ dg (2 * x) i = dg y i := by
          rw [iZ_n, iZ_n, iZ_sub]
          refine (iZ_eq (b := 0) (by omega) (by omega) (by omega) (by omega)).trans ?_
          omega
        have hp : 0 < nI (dg (2 * x) i) - nI (dg y i) ↔ dg y i < dg (2 * x) i := by
          rw [iZ_n, iZ_n, iZ_sub]
          refine (iZ_lt (a := 0) (by omega) (by omega) (by omega) (by omega)).trans ?_
          omega
        rcases Nat.lt_trichotomy (dg (2 * x) i) (dg y i) with q | q | q
        · have hne : ¬ nI (dg (2 * x) i) - nI (dg y i) = 0 := fun z => by have := hz.mp z; omega
          have hw : w2 = nI (dg (2 * x) i) - nI (dg y i) := (hw2.resolve_left (fun z => hne z.1)).2
          have hm : (dg (2 * x) i + 1) * 10 ^ i ≤ dg y i * 10 ^ i := Nat.mul_le_mul_right _ q
          rw [Nat.add_mul, Nat.one_mul, Nat.mul_comm _ (10 ^ i), Nat.mul_comm _ (10 ^ i)] at hm
          refine ih (i + 1) w2 (by omega) (by omega) ?_ ?_
          · rw [hw, hp, ey, ex]; omega
          · rw [hw, hz, ey, ex]; omega
        · have h0 := hz.mpr q
          have hw : w2 = w := (hw2.resolve_right (fun z => z.1 h0)).2
          refine ih (i + 1) w2 (by omega) (by omega) ?_ ?_
          · rw [hw, g1, ey, ex, q]; omega
          · rw [hw, g2, ey, ex, q]; omega
        · have hne : ¬ nI (dg (2 * x) i) - nI (dg y i) = 0 := fun z => by have := hz.mp z; omega
          have hw : w2 = nI (dg (2 * x) i) - nI (dg y i) := (hw2.resolve_left (fun z => hne z.1)).2
          have hm : (dg y i + 1) * 10 ^ i ≤ dg (2 * x) i * 10 ^ i := Nat.mul_le_mul_right _ q
          rw [Nat.add_mul, Nat.one_mul, Nat.mul_comm _ (10 ^ i), Nat.mul_comm _ (10 ^ i)] at hm
          refine ih (i + 1) w2 (by omega) (by omega) ?_ ?_
          · rw [hw, hp, ey, ex]; omega
          · rw [hw, hz, ey, ex]; omega
      obtain ⟨w2, hw2⟩ : ∃ w2, w2 = if nI (dg (2 * x) i) - nI (dg y i) = 0 then w else nI (dg (2 * x) i) - nI (dg y i) := ⟨_, rfl⟩
      obtain ⟨w', b1, b2⟩ := body w2 (by
        by_cases hz : nI (dg (2 * x) i) - nI (dg y i) = 0
        · rw [if_pos hz] at hw2; exact Or.inl ⟨hz, hw2⟩
        · rw [if_neg hz] at hw2; exact Or.inr ⟨hz, hw2⟩)
      refine ⟨w', ?_, b2⟩
      -- the code of one round
      have core : ((gR (mst σ o X) 6 o 5).bind fun r10 => (ldI (mst σ o X) r10 3).bind fun x11 => jn (fun (z12 : Int32) => (lt (z12 + nI c) fun x13 => (dvI x13 10).bind fun x14 => (rmI x13 10).bind fun x15 => (gR (mst σ o X) 6 o 5).bind fun r16 => (ldI (mst σ o X) r16 1).bind fun x17 => jn (fun (z18 : Int32) => (lt (x15 - z18) fun x19 => jn (fun (z20 : Int32) => (lt (nI i + 1) fun x21 => f_X6_judge_L34 k (mst σ o X) o z20 x14 x21)) fun k20 => if x19 = 0 then k20 w else k20 x19)) fun k18 => if x17 ≤ nI i then k18 0 else (gR (mst σ o X) 6 o 4).bind fun r22 => (ldI (mst σ o X) r22 (17000 + nI i)).bind fun x23 => k18 x23)) fun k12 => if x11 ≤ nI i then k12 0 else (gR (mst σ o X) 6 o 4).bind fun r24 => (ldI (mst σ o X) r24 (51000 + nI i)).bind fun x25 => k12 (2 * x25)) = some w' := by
        have tl : ∀ z12 : Int32, z12 = nI (2 * dg x i) → (lt (z12 + nI c) fun x13 => (dvI x13 10).bind fun x14 => (rmI x13 10).bind fun x15 => (gR (mst σ o X) 6 o 5).bind fun r16 => (ldI (mst σ o X) r16 1).bind fun x17 => jn (fun (z18 : Int32) => (lt (x15 - z18) fun x19 => jn (fun (z20 : Int32) => (lt (nI i + 1) fun x21 => f_X6_judge_L34 k (mst σ o X) o z20 x14 x21)) fun k20 => if x19 = 0 then k20 w else k20 x19)) fun k18 => if x17 ≤ nI i then k18 0 else (gR (mst σ o X) 6 o 4).bind fun r22 => (ldI (mst σ o X) r22 (17000 + nI i)).bind fun x23 => k18 x23) = some w' := by
          intro z12 hz12
          refine q_le (y := nI (2 * dg x i + c)) (by rw [hz12, nI_add]) ?_
          refine q_b1 (dvI_eq (b := 10) rfl rfl (by omega) (by decide) (by decide)) ?_
          refine q_b1 (rmI_eq (b := 10) rfl rfl (by omega) (by decide) (by decide)) ?_
          rw [e1, e2]
          refine q_b1 m_g5 (q_b1 pre1 (q_jn ?_))
          have tl2 : ∀ z18 : Int32, z18 = nI (dg y i) → (lt (nI (dg (2 * x) i) - z18) fun x19 => jn (fun (z20 : Int32) => (lt (nI i + 1) fun x21 => f_X6_judge_L34 k (mst σ o X) o z20 (nI (2 * (x % 10 ^ (i + 1)) / 10 ^ (i + 1))) x21)) fun k20 => if x19 = 0 then k20 w else k20 x19) = some w' := by
            intro z18 hz18
            subst hz18
            refine q_lt (q_jn ?_)
            by_cases hz : nI (dg (2 * x) i) - nI (dg y i) = 0
            · rw [if_pos hz] at hw2
              subst hw2
              refine q_t hz ?_
              exact q_le (nI_1 i) b1
            · rw [if_neg hz] at hw2
              subst hw2
              refine q_f hz ?_
              exact q_le (nI_1 i) b1
          by_cases hyi : sz y ≤ i
          · exact q_t (nI_le hyi (by omega)) (tl2 0 (by rw [dg_hi hyi]; rfl))
          · refine q_f (nI_ge (by omega) (by omega)) ?_
            refine q_b1 m_g4 (q_b1 (ld5 (i := 17000 * 1 + i) (nI_add 17000 i) (by omega)) ?_)
            exact tl2 _ (k3 i (by omega))
        refine q_b1 m_g5 (q_b1 pre3 (q_jn ?_))
        by_cases hxi : sz x ≤ i
        · exact q_t (nI_le hxi (by omega)) (tl 0 (by rw [dg_hi hxi]; rfl))
        · refine q_f (nI_ge (by omega) (by omega)) ?_
          refine q_b1 m_g4 (q_b1 (ld5 (i := 17000 * 3 + i) (nI_add 51000 i) (by omega)) ?_)
          exact tl _ (by rw [h3 i (by omega), show (2 : Int32) = nI 2 from rfl, pk_mul])
      refine q_b1 m_g5 (q_b1 pre1 (q_jn ?_))
      by_cases hyi : i < sz y + 1
      · exact q_t (by rw [nI_1]; exact nI_lt hyi (by omega)) core
      · refine q_f (by rw [nI_1]; exact nI_nlt (by omega) (by omega)) ?_
        refine q_b1 m_g5 (q_b1 pre3 ?_)
        exact q_f (by rw [nI_1]; exact nI_ge (by omega) (by omega)) core
theorem t_judge {x y : Nat} (h : Rw X 3 x) (h' : Rw X 1 y) (hxy : x < y) : ∃ X', f_X6_judge (mst σ o X) o = some ((), mst σ o X', 0, 0) ∧ (∀ S, Ot S X X') ∧ X' 0 0 = nI (lostc x y false) := by
  have hF := FU_ge
  obtain ⟨h1, h2, h3⟩ := id h
  obtain ⟨k1, k2, k3⟩ := id h'
  have pre3 : ∀ v : Int32, ldI (mst σ o (ups X 0 (upd (X 0) 0 v))) (o + 6) 3 = some (nI (sz x)) := fun v => (ld6 (i := 3) rfl (by decide)).trans (by rw [ups_n (by decide), h2])
  have pre3' : ldI (mst σ o X) (o + 6) 3 = some (nI (sz x)) := (ld6 (i := 3) rfl (by decide)).trans (by rw [h2])
  rcases Nat.eq_zero_or_pos x with hx | hx
  · subst hx
    rw [sz_0] at pre3 pre3'
    refine ⟨_, ?_, fun S => Ot.m0 (v := 0), ?_⟩
    · unfold f_X6_judge
      refine q_ob m_o ?_
      refine q_b1 m_g5 (q_b1 pre3' (q_jn ?_))
      refine q_t (by decide) ?_
      refine q_b1 m_p6 ?_
      refine q_b1 m_g5 (q_b1 (pre3 _) ?_)
      exact q_t rfl rfl
    · rw [ups_s, pk_us]
      unfold lostc
      rw [if_pos (by omega), if_pos ⟨rfl, rfl⟩]
      rfl
  · have hs := sz_pos hx
    have hO1 : Ot (fun _ => False) X (ups X 0 (upd (X 0) 0 1)) := Ot.m0
    have hmb : max (sz x) (sz y) ≤ 16990 := Nat.max_le.mpr ⟨h1, k1⟩
    obtain ⟨w, a1, a2, a3⟩ := t_judge_loop (σ := σ) (o := o) (h.ot hO1 (by decide) id) (h'.ot hO1 (by decide) id) rfl FU 0 0 (by omega) (Nat.zero_le _) (by rw [Nat.pow_zero, Nat.mod_one, Nat.mod_one]; exact ⟨fun z => absurd z (by decide), fun z => absurd z (by decide)⟩) (by rw [Nat.pow_zero, Nat.mod_one, Nat.mod_one]; exact ⟨fun _ => rfl, fun _ => rfl⟩)
    rw [Nat.pow_zero, Nat.mod_one] at a1
    have go : ∀ v : Nat, lostc x y false = v → (∀ kk : Int32 → Rs Unit, (if w ≤ 0 then (if w = 0 then kk 2 else kk 1) else kk 3) = kk (nI v)) → ∃ X', f_X6_judge (mst σ o X) o = some ((), mst σ o X', 0, 0) ∧ (∀ S, Ot S X X') ∧ X' 0 0 = nI (lostc x y false) := by
      intro v hv hk
      refine ⟨ups (ups X 0 (upd (X 0) 0 1)) 0 (upd (ups X 0 (upd (X 0) 0 1) 0) 0 (nI v)), ?_, fun S => Ot.trans Ot.m0 (Ot.m0 (S := S)) (fun _ w => w), by rw [ups_s, pk_us, hv]⟩
      unfold f_X6_judge
      refine q_ob m_o ?_
      refine q_b1 m_g5 (q_b1 pre3' (q_jn ?_))
      refine q_f (nI_nle hs (by omega)) ?_
      refine q_b1 m_p6 ?_
      refine q_b1 m_g5 (q_b1 (pre3 _) ?_)
      refine q_f (nI_ne0 hs (by omega)) ?_
      refine q_b1 a1 (q_jn ?_)
      refine (hk (fun z29 => (pF (mst σ o (ups X 0 (upd (X 0) 0 1))) 6 o 6 (.int z29)).bind fun σ30 => some ((), σ30, 0, 0))).trans ?_
      exact q_b1 m_p6 rfl
    rcases Nat.lt_trichotomy (2 * x) y with q | q | q
    · refine go 1 (by unfold lostc; rw [if_pos q, if_neg (by omega)]) (fun kk => ?_)
      have n1 : ¬ w = 0 := fun z => by have := a3.mp z; omega
      have n2 : w ≤ 0 := Int32.not_lt.mp fun z => by have := a2.mp z; omega
      exact q_t n2 (q_f n1 rfl)
    · refine go 2 (by unfold lostc; rw [if_neg (by omega), if_pos ⟨q, rfl⟩]) (fun kk => ?_)
      have n1 : w = 0 := a3.mpr q.symm
      exact q_t (by rw [n1]; decide) (q_t n1 rfl)
    · refine go 3 (by unfold lostc; rw [if_neg (by omega), if_neg (by omega)]) (fun kk => ?_)
      have n1 : 0 < w := a2.mpr q
      exact q_f (Int32.not_le.mpr n1) rfl
theorem t_quo_loop {x y : Nat} {X0 : Nat → Nat → Int32} (h0 : Rw X0 0 x) (h1 : Rw X0 1 y) (hy : 0 < y) (hb : sz y ≤ 16980) : ∀ (k i : Nat) (X : Nat → Nat → Int32) (g : Nat → Nat), i < k → i ≤ sz x → Ot (fun q => q = 2 ∨ q = 3) X0 X → X 0 = X0 0 → Rw X 3 (x / 10 ^ i % y) → (∀ j, i ≤ j → j < sz x → X 5 (34000 + j) = nI (g j) ∧ g j < 10) → vl 10 (fun j => g (i + j)) (sz x - i) = x / 10 ^ i / y →
    ∃ X' g', f_X6_quotient_L16 k (mst σ o X) o (nI i + (-1)) = some ((), mst σ o X', 0, 0) ∧ Ot (fun q => q = 2 ∨ q = 3) X0 X' ∧ X' 0 = X0 0 ∧ Rw X' 3 (x % y) ∧ (∀ j, j < sz x → X' 5 (34000 + j) = nI (g' j) ∧ g' j < 10) ∧ vl 10 g' (sz x) = x / y := by
  obtain ⟨a1, a2, a3⟩ := id h0
  intro k
  induction k with
  | zero => intro i X g h; omega
  | succ k ih =>
    intro i X g hk hi hO hl hR hg hv
    show ∃ X' g', b_X6_quotient_L16 (f_X6_quotient_L16 k) _ o _ = _ ∧ _
    unfold b_X6_quotient_L16
    rcases Nat.eq_zero_or_pos i with w | w
    · subst w
      rw [Nat.pow_zero, Nat.div_one] at hR hv
      have e1 : vl 10 (fun j => g (0 + j)) (sz x - 0) = vl 10 g (sz x) := vl_congr (fun j _ => by rw [Nat.zero_add])
      rw [e1] at hv
      exact ⟨X, g, q_t (by decide) rfl, hO, hl, hR, fun j hj => hg j (Nat.zero_le _) hj, hv⟩
    · obtain ⟨e, rfl⟩ : ∃ e, i = e + 1 := ⟨i - 1, by omega⟩
      rw [pk_m1]
      have hd := dg_lt x e
      have hml := Nat.mod_lt (x / 10 ^ (e + 1)) hy
      have hX1 : Rw X 1 y := h1.ot hO (by decide) (by decide)
      have hX0 : Rw X 0 x := h0.ot hO (by decide) (by decide)
      have hszR : sz (x / 10 ^ (e + 1) % y) ≤ 16980 := Nat.le_trans (sz_le.mpr (Nat.lt_trans hml (sz_lt y))) hb
      obtain ⟨X1, b1, b2, b3, b4⟩ := t_step (σ := σ) (o := o) (dI := nI (dg x e)) hR hX1 hml hd rfl hszR
      have ee : x / 10 ^ e = 10 * (x / 10 ^ (e + 1)) + dg x e := by
        unfold dg
        rw [Nat.pow_succ, ← Nat.div_div_eq_div_mul]
        omega
      have hdm := Nat.mod_add_div (x / 10 ^ (e + 1)) y
      have e1 : x / 10 ^ e = (x / 10 ^ (e + 1) % y * 10 + dg x e) + y * (10 * (x / 10 ^ (e + 1) / y)) := by
        rw [ee]
        conv => lhs; rw [← hdm]
        rw [Nat.mul_add, Nat.mul_left_comm]
        omega
      have e2 : x / 10 ^ e % y = (x / 10 ^ (e + 1) % y * 10 + dg x e) % y := by rw [e1, Nat.add_mul_mod_self_left]
      have e3 : x / 10 ^ e / y = (x / 10 ^ (e + 1) % y * 10 + dg x e) / y + 10 * (x / 10 ^ (e + 1) / y) := by rw [e1, Nat.add_mul_div_left _ _ hy]
      rw [← e2] at b2
      obtain ⟨q, hq⟩ : ∃ q, (x / 10 ^ (e + 1) % y * 10 + dg x e) / y = q := ⟨_, rfl⟩
      have hq10 : q < 10 := by
        rw [← hq, Nat.div_lt_iff_lt_mul hy]
        omega
      rw [hq] at b1 e3
      have hO1 : Ot (fun q => q = 2 ∨ q = 3) X0 X1 := hO.trans b3 (fun _ w => Or.inr w)
      have hO2 : Ot (fun q => q = 2) X1 (ups X1 5 (upd (X1 5) (34000 + e) (nI q))) := Ot.m5 (fun i hi => pk_un (by omega))
      obtain ⟨X', g', c1, c2, c3, c4, c5, c6⟩ := ih e (ups X1 5 (upd (X1 5) (34000 + e) (nI q))) (up1 g e q) (by omega) (by omega) (hO1.trans hO2 (fun _ w => Or.inl w)) (by rw [ups_n (by decide), b4, hl]) (b2.ot hO2 (by decide) (by decide)) (fun j q1 q2 => by
          rw [ups_s]
          unfold up1
          by_cases hj : j = e
          · subst hj; rw [if_pos rfl, pk_us]; exact ⟨rfl, hq10⟩
          · rw [if_neg hj, pk_un (by omega)]
            have := (b3.2.2 2 (by decide) (by decide)).2 j (by omega)
            rw [show 17000 * 2 + j = 34000 + j by omega] at this
            rw [this]
            exact hg j (by omega) q2) (by
          obtain ⟨t, ht⟩ : ∃ t, sz x = e + (1 + t) := ⟨sz x - e - 1, by omega⟩
          rw [ht, show e + (1 + t) - e = 1 + t by omega, vl_add]
          rw [ht, show e + (1 + t) - (e + 1) = t by omega] at hv
          have q1 : vl 10 (fun j => up1 g e q (e + j)) 1 = q := by simp [vl, up1]
          have q2 : vl 10 (fun j => up1 g e q (e + (1 + j))) t = vl 10 (fun j => g (e + 1 + j)) t := vl_congr (fun j _ => by unfold up1; rw [if_neg (by omega)]; congr 1; omega)
          rw [q1, q2, hv, e3, Nat.pow_one])
      refine ⟨X', g', ?_, c2, c3, c4, c5, c6⟩
      refine q_f (nI_pos (by omega)) ?_
      refine q_b1 m_g4 (q_b1 m_g4 ?_)
      refine q_b1 (ld5 (i := 17000 * 0 + e) (by rw [show (0 : Int32) = nI 0 from rfl, nI_add]) (by omega)) ?_
      rw [hX0.2.2 e (by omega)]
      refine q_bd0 b1 ?_
      refine q_b1 (st5 (nI_add 34000 e) (by omega)) ?_
      exact q_lt c1
/-- quotient: row 2 becomes row 0 by row 1, row 3 what is left -/
theorem t_mquo {x y : Nat} (h0 : Rw X 0 x) (h1 : Rw X 1 y) (hy : 0 < y) (hb : sz y ≤ 16980) : ∃ X', f_X6_quotient (mst σ o X) o = some ((), mst σ o X', 0, 0) ∧ Rw X' 2 (x / y) ∧ Rw X' 3 (x % y) ∧ Ot (fun q => q = 2 ∨ q = 3) X X' ∧ X' 0 0 = nI (lostc (x % y) y false) := by
  have hF := FU_ge
  obtain ⟨a1, a2, a3⟩ := id h0
  have hO0 : Ot (fun q => q = 3) X (ups X 6 (upd (X 6) 3 0)) := Ot.m6
  obtain ⟨X0, hX0⟩ : ∃ X0, ups X 6 (upd (X 6) 3 0) = X0 := ⟨_, rfl⟩
  rw [hX0] at hO0
  have h0' := h0.ot hO0 (by decide) (by decide)
  have h1' := h1.ot hO0 (by decide) (by decide)
  have hlt : x / 10 ^ sz x = 0 := Nat.div_eq_of_lt (sz_lt x)
  obtain ⟨X1, g, b1, b2, b3, b4, b5, b6⟩ := t_quo_loop (σ := σ) (o := o) h0' h1' hy hb FU (sz x) X0 (fun _ => 0) (by omega) (Nat.le_refl _) Ot.rf rfl (by
    rw [hlt, Nat.zero_mod]
    exact ⟨by rw [sz_0]; decide, by rw [← hX0, ups_s, pk_us]; rfl, fun j hj => by rw [sz_0] at hj; omega⟩) (fun j q1 q2 => by omega) (by rw [hlt, Nat.zero_div, Nat.sub_self]; rfl)
  obtain ⟨X2, c1, c2, c3, c4⟩ := t_mtrim (σ := σ) (o := o) (X := X1) (r := 2) (n := sz x) (g := g) (by decide) rfl rfl a1 (fun j hj => b5 j hj)
  rw [b6] at c2
  have hO2 : Ot (fun q => q = 2 ∨ q = 3) X X2 := ((hO0.mono (fun _ w => Or.inr w)).trans b2 (fun _ w => w)).trans c3 (fun _ w => Or.inl w)
  have h3' : Rw X2 3 (x % y) := b4.ot c3 (by decide) (by decide)
  obtain ⟨X3, d1, d2, d3⟩ := t_judge (σ := σ) (o := o) h3' (h1.ot hO2 (by decide) (by decide)) (Nat.mod_lt _ hy)
  refine ⟨X3, ?_, c2.ot (d2 (fun _ => False)) (by decide) id, h3'.ot (d2 (fun _ => False)) (by decide) id, hO2.trans (d2 (fun _ => False)) (fun _ w => w.elim), d3⟩
  unfold f_X6_quotient
  refine q_ob m_o ?_
  refine q_b1 m_g5 ?_
  refine q_b1 (st6 (i := 3) rfl (by decide)) ?_
  rw [hX0]
  refine q_b1 m_g5 ?_
  refine q_b1 ((ld6 (i := 0) rfl (by decide)).trans (by rw [h0'.2.1])) ?_
  refine q_le (y := nI (sz x) + (-1)) (Int32.sub_eq_add_neg ..) ?_
  refine q_bd0 b1 ?_
  refine q_b1 m_g5 ?_
  refine q_b1 ((ld6 (i := 0) rfl (by decide)).trans (by rw [(h0'.ot b2 (by decide) (by decide)).2.1])) ?_
  refine q_bd0 c1 ?_
  exact q_bd0 d1 rfl
end MQ
