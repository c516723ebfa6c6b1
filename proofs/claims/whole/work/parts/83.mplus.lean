section MC
variable {σ : St} {o r s : Nat} {X : Nat → Nat → Int32}
theorem vl_cmpB {B : Nat} {g g' : Nat → Nat} {n i : Nat} (hi : i < n) (hg : ∀ j, j < n → g j < B) (he : ∀ j, i < j → j < n → g j = g' j) (hl : g i < g' i) : vl B g n < vl B g' n := by
  obtain ⟨d, rfl⟩ : ∃ d, n = i + 1 + d := ⟨n - i - 1, by omega⟩
  rw [vl_add, vl_add (g := g')]
  have e1 : vl B (fun j => g (i + 1 + j)) d = vl B (fun j => g' (i + 1 + j)) d := vl_congr (fun j hj => he (i + 1 + j) (by omega) (by omega))
  rw [e1]
  have h1 : vl B g i < B ^ i := vl_lt (fun j hj => hg j (by omega))
  show vl B g i + g i * B ^ i + _ < vl B g' i + g' i * B ^ i + _
  have h2 : (g i + 1) * B ^ i ≤ g' i * B ^ i := Nat.mul_le_mul_right _ hl
  rw [Nat.add_mul, Nat.one_mul] at h2
  omega
theorem cmp_sz {x y : Nat} (h : sz x < sz y) : x < y := by
  refine Nat.not_le.mp fun w => ?_
  have : sz y ≤ sz x := sz_le.mpr (Nat.lt_of_le_of_lt w (sz_lt x))
  omega
theorem cmp_dg {x y i : Nat} (h : sz x = sz y) (hi : i < sz x) (he : ∀ j, i < j → j < sz x → dg x j = dg y j) (hl : dg x i < dg y i) : x < y := by
  have := vl_cmpB (B := 10) (g := dg x) (g' := dg y) hi (fun j _ => dg_lt x j) he hl
  rw [vl_sz, h, vl_sz] at this
  exact this
theorem t_mcmp_loop {x y : Nat} (hr : r < 4) (hs : s < 4) (h : Rw X r x) (h' : Rw X s y) (he : sz x = sz y) : ∀ (k m : Nat), m < k → m ≤ sz x → (∃ i, i < m ∧ dg x i ≠ dg y i ∧ (∀ j, i < j → j < m → dg x j = dg y j) ∧ f_X6_compareRows_L45 k (mst σ o X) o (nI r) (nI s) (nI m + (-1)) = some (nI i)) ∨ ((∀ j, j < m → dg x j = dg y j) ∧ f_X6_compareRows_L45 k (mst σ o X) o (nI r) (nI s) (nI m + (-1)) = some (-1)) := by
  obtain ⟨h1, h2, h3⟩ := h
  obtain ⟨k1, k2, k3⟩ := h'
  intro k
  induction k with
  | zero => intro m h; omega
  | succ k ih =>
    intro m hk hm
    show (∃ i, i < m ∧ dg x i ≠ dg y i ∧ _ ∧ b_X6_compareRows_L45 (f_X6_compareRows_L45 k) _ o _ _ _ = _) ∨ (_ ∧ b_X6_compareRows_L45 (f_X6_compareRows_L45 k) _ o _ _ _ = _)
    unfold b_X6_compareRows_L45
    rcases Nat.eq_zero_or_pos m with w | w
    · subst w
      exact Or.inr ⟨fun j hj => by omega, q_t (by decide) rfl⟩
    · obtain ⟨i, rfl⟩ : ∃ i, m = i + 1 := ⟨m - 1, by omega⟩
      rw [pk_m1]
      have d1 := dg_lt x i
      have d2 := dg_lt y i
      by_cases heq : dg x i = dg y i
      · have pre : ∀ Z, (f_X6_compareRows_L45 k (mst σ o X) o (nI r) (nI s) (nI i + (-1)) = some Z) → (if nI i < 0 then some (nI i) else (gR (mst σ o X) 6 o 4).bind fun r8 => (ldI (mst σ o X) r8 ((17000 * nI r) + nI i)).bind fun x9 => (gR (mst σ o X) 6 o 4).bind fun r10 => (ldI (mst σ o X) r10 ((17000 * nI s) + nI i)).bind fun x11 => if x9 = x11 then (lt (nI i + (-1)) fun x12 => f_X6_compareRows_L45 k (mst σ o X) o (nI r) (nI s) x12) else some (nI i)) = some Z := by
          intro Z hZ
          refine q_f (nI_pos (by omega)) ?_
          refine q_b1 m_g4 ?_
          refine q_b1 (ld5 nI_r (by omega)) ?_
          refine q_b1 m_g4 ?_
          refine q_b1 (ld5 nI_r (by omega)) ?_
          refine q_t (by rw [h3 i (by omega), k3 i (by omega), heq]) ?_
          exact q_lt hZ
        rcases ih i (by omega) (by omega) with ⟨t, t1, t2, t3, t4⟩ | ⟨t1, t2⟩
        · refine Or.inl ⟨t, by omega, t2, fun j hj1 hj2 => ?_, pre _ t4⟩
          by_cases hj : j = i
          · rw [hj]; exact heq
          · exact t3 j hj1 (by omega)
        · refine Or.inr ⟨fun j hj => ?_, pre _ t2⟩
          by_cases hj2 : j = i
          · rw [hj2]; exact heq
          · exact t1 j (by omega)
      · refine Or.inl ⟨i, by omega, heq, fun j _ _ => by omega, ?_⟩
        refine q_f (nI_pos (by omega)) ?_
        refine q_b1 m_g4 ?_
        refine q_b1 (ld5 nI_r (by omega)) ?_
        refine q_b1 m_g4 ?_
        refine q_b1 (ld5 nI_r (by omega)) ?_
        refine q_f ?_ rfl
        rw [h3 i (by omega), k3 i (by omega)]
        exact fun z => heq ((nI_eq (by omega) (by omega)).mp z)
theorem t_mcmp {x y : Nat} {u v : Int32} (hr : r < 4) (hs : s < 4) (h : Rw X r x) (h' : Rw X s y) (hu : u = nI r) (hv : v = nI s) : f_X6_compareRows (mst σ o X) o u v = some (if x < y then -1 else if x = y then 0 else 1) := by
  subst hu hv
  have hF := FU_ge
  obtain ⟨h1, h2, h3⟩ := id h
  obtain ⟨k1, k2, k3⟩ := id h'
  have p1 : ldI (mst σ o X) (o + 6) (nI r) = some (nI (sz x)) := by rw [ld6 rfl hr, h2]
  have p2 : ldI (mst σ o X) (o + 6) (nI s) = some (nI (sz y)) := by rw [ld6 rfl hs, k2]
  unfold f_X6_compareRows
  refine q_ob m_o ?_
  refine q_b1 m_g5 ?_
  refine q_b1 p1 ?_
  refine q_b1 m_g5 ?_
  refine q_b1 p2 ?_
  by_cases he : sz x = sz y
  · refine q_t (by rw [he]) ?_
    refine q_b1 m_g5 ?_
    refine q_b1 p1 ?_
    refine q_le (y := nI (sz x) + (-1)) (Int32.sub_eq_add_neg ..) ?_
    rcases t_mcmp_loop (σ := σ) (o := o) hr hs h h' he FU (sz x) (by omega) (Nat.le_refl _) with ⟨i, t1, t2, t3, t4⟩ | ⟨t1, t2⟩
    · refine q_b1 t4 ?_
      have d1 := dg_lt x i
      have d2 := dg_lt y i
      refine q_t (nI_pos' (by omega)) ?_
      refine q_b1 m_g4 ?_
      refine q_b1 (ld5 nI_r (by omega)) ?_
      refine q_b1 m_g4 ?_
      refine q_b1 (ld5 nI_r (by omega)) ?_
      rw [h3 i (by omega), k3 i (by omega)]
      rcases Nat.lt_trichotomy (dg x i) (dg y i) with w | w | w
      · rw [if_pos (cmp_dg he t1 t3 w)]
        exact q_f (nI_ge w (by omega)) rfl
      · exact absurd w t2
      · have hxy := cmp_dg he.symm (by omega) (fun j a b => (t3 j a (by omega)).symm) w
        rw [if_neg (c := x < y) (by omega), if_neg (c := x = y) (by omega)]
        exact q_t (nI_le (by omega) (by omega)) rfl
    · refine q_b1 t2 ?_
      have hxy : x = y := by rw [← vl_sz x, ← vl_sz y, ← he]; exact vl_congr t1
      rw [if_neg (c := x < y) (by omega), if_pos hxy]
      exact q_f (by decide) rfl
  · refine q_f (fun z => he ((nI_eq (by omega) (by omega)).mp z)) ?_
    refine q_b1 m_g5 ?_
    refine q_b1 p1 ?_
    refine q_b1 m_g5 ?_
    refine q_b1 p2 ?_
    by_cases hlt : sz x < sz y
    · rw [if_pos (cmp_sz hlt)]
      exact q_f (nI_ge hlt (by omega)) rfl
    · have hxy := cmp_sz (show sz y < sz x by omega)
      rw [if_neg (c := x < y) (by omega), if_neg (c := x = y) (by omega)]
      exact q_t (nI_le (by omega) (by omega)) rfl
/-- a digit of a row, or 0 above it -/
theorem ld_pad {x k : Nat} {m : Nat → Int32} (hr : r < 4) (hk : k < 17000) (hm : k < sz x → m (17000 * r + k) = nI (dg x k)) (hs : sz x ≤ 16990) {ρ : Type} {K : Int32 → Option ρ} {Z : Option ρ} (hZ : K (nI (dg x k)) = Z) : (if nI (sz x) ≤ nI k then K 0 else (gR (mst σ o (ups X 5 m)) 6 o 4).bind fun r20 => (ldI (mst σ o (ups X 5 m)) r20 ((17000 * nI r) + nI k)).bind fun x21 => K x21) = Z := by
  by_cases h : sz x ≤ k
  · rw [dg_hi h] at hZ
    exact q_t (nI_le h (by omega)) hZ
  · refine q_f (nI_ge (by omega) (by omega)) ?_
    refine q_b1 m_g4 ?_
    refine q_b1 (ld5 nI_r (by omega)) ?_
    rw [ups_s, hm (by omega)]
    exact hZ
theorem t_mplus_loop {x y N : Nat} (hr : r < 4) (hs : s < 4) (hrs : r ≠ s) (h : Rw X r x) (h' : Rw X s y) (hN : N ≤ 16980) : ∀ (k i c : Nat) (m : Nat → Int32) (g : Nat → Nat), N + 1 - i < k → i ≤ N + 1 → c ≤ 1 → (∀ j, j < i → m (17000 * r + j) = nI (g j) ∧ g j < 10) → (∀ j, i ≤ j → j < sz x → m (17000 * r + j) = nI (dg x j)) → (∀ q, (q < 17000 * r ∨ 17000 * (r + 1) ≤ q) → m q = X 5 q) → vl 10 g i + c * 10 ^ i = x % 10 ^ i + y % 10 ^ i →
    ∃ m' g' c', f_X6_plus_L37 k (mst σ o (ups X 5 m)) o (nI r) (nI s) (nI N) (nI c) (nI i) = some ((), mst σ o (ups X 5 m'), 0, 0) ∧ (∀ j, j < N + 1 → m' (17000 * r + j) = nI (g' j) ∧ g' j < 10) ∧ (∀ q, (q < 17000 * r ∨ 17000 * (r + 1) ≤ q) → m' q = X 5 q) ∧ vl 10 g' (N + 1) + c' * 10 ^ (N + 1) = x % 10 ^ (N + 1) + y % 10 ^ (N + 1) := by
  obtain ⟨h1, h2, h3⟩ := h
  obtain ⟨k1, k2, k3⟩ := h'
  intro k
  induction k with
  | zero => intro i c m g h; omega
  | succ k ih =>
    intro i c m g hk hi hc a1 a2 a3 a4
    show ∃ m' g' c', b_X6_plus_L37 (f_X6_plus_L37 k) _ o _ _ _ _ _ = _ ∧ _
    unfold b_X6_plus_L37
    by_cases he : i = N + 1
    · subst he
      exact ⟨m, g, c, q_t (nI_lt (by omega) (by omega)) rfl, a1, a3, a4⟩
    · have d1 := dg_lt x i
      have d2 := dg_lt y i
      have ex : x % 10 ^ (i + 1) = x % 10 ^ i + 10 ^ i * dg x i := Nat.mod_pow_succ
      have ey : y % 10 ^ (i + 1) = y % 10 ^ i + 10 ^ i * dg y i := Nat.mod_pow_succ
      obtain ⟨v, hv⟩ : ∃ v, dg x i + dg y i + c = v := ⟨_, rfl⟩
      obtain ⟨m', g', c', i1, i2, i3, i4⟩ := ih (i + 1) (v / 10) (upd m (17000 * r + i) (nI (v % 10))) (up1 g i (v % 10)) (by omega) (by omega) (by omega) (fun j hj => by
          unfold up1
          by_cases hji : j = i
          · subst hji; rw [if_pos rfl, pk_us]; exact ⟨rfl, by omega⟩
          · rw [if_neg hji, pk_un (by omega)]; exact a1 j (by omega)) (fun j hj hj2 => by rw [pk_un (by omega)]; exact a2 j (by omega) hj2) (fun q hq => by rw [pk_un (by omega)]; exact a3 q hq) (by
          show vl 10 (up1 g i (v % 10)) i + up1 g i (v % 10) i * 10 ^ i + v / 10 * 10 ^ (i + 1) = _
          have e1 : vl 10 (up1 g i (v % 10)) i = vl 10 g i := vl_congr (fun j hj => by unfold up1; rw [if_neg (by omega)])
          have e2 : up1 g i (v % 10) i = v % 10 := by unfold up1; rw [if_pos rfl]
          rw [e1, e2, ex, ey, Nat.pow_succ]
          have e3 : v % 10 * 10 ^ i + v / 10 * (10 ^ i * 10) = v * 10 ^ i := by
            have := Nat.mod_add_div v 10
            conv => rhs; rw [← this, Nat.add_mul]
            rw [Nat.mul_comm (10 ^ i) 10, ← Nat.mul_assoc, Nat.mul_comm (v / 10) 10]
          have e4 : v * 10 ^ i = dg x i * 10 ^ i + dg y i * 10 ^ i + c * 10 ^ i := by rw [← hv, Nat.add_mul, Nat.add_mul]
          rw [Nat.mul_comm (10 ^ i) (dg x i), Nat.mul_comm (10 ^ i) (dg y i)]
          omega)
      refine ⟨m', g', c', ?_, i2, i3, i4⟩
      refine q_f (nI_nlt (by omega) (by omega)) ?_
      refine q_b1 m_g5 ?_
      refine q_b1 (ld6 rfl hr) ?_
      rw [ups_n (by decide), h2]
      refine q_jn ?_
      refine ld_pad (K := fun z8 => (gR (mst σ o (ups X 5 m)) 6 o 5).bind fun r9 => (ldI (mst σ o (ups X 5 m)) r9 (nI s)).bind fun x10 => jn (fun (z11 : Int32) => (lt ((z8 + z11) + nI c) fun x12 => (gR (mst σ o (ups X 5 m)) 6 o 4).bind fun r13 => (rmI x12 10).bind fun x14 => (stI (mst σ o (ups X 5 m)) r13 ((17000 * nI r) + nI i) x14).bind fun σ15 => (dvI x12 10).bind fun x16 => lt (nI i + 1) fun x17 => f_X6_plus_L37 k σ15 o (nI r) (nI s) (nI N) x16 x17)) fun k11 => if x10 ≤ nI i then k11 0 else (gR (mst σ o (ups X 5 m)) 6 o 4).bind fun r18 => (ldI (mst σ o (ups X 5 m)) r18 ((17000 * nI s) + nI i)).bind fun x19 => k11 x19) hr (by omega) (fun w => a2 i (Nat.le_refl _) w) h1 ?_
      refine q_b1 m_g5 ?_
      refine q_b1 (ld6 rfl hs) ?_
      rw [ups_n (by decide), k2]
      refine q_jn ?_
      refine ld_pad (K := fun z11 => lt ((nI (dg x i) + z11) + nI c) fun x12 => (gR (mst σ o (ups X 5 m)) 6 o 4).bind fun r13 => (rmI x12 10).bind fun x14 => (stI (mst σ o (ups X 5 m)) r13 ((17000 * nI r) + nI i) x14).bind fun σ15 => (dvI x12 10).bind fun x16 => lt (nI i + 1) fun x17 => f_X6_plus_L37 k σ15 o (nI r) (nI s) (nI N) x16 x17) hs (by omega) (fun w => by rw [a3 _ (by omega)]; exact k3 i w) k1 ?_
      refine q_le (y := nI v) (by rw [nI_add, nI_add, hv]) ?_
      refine q_b1 m_g4 ?_
      refine q_b1 (rmI_eq (b := 10) rfl rfl (by omega) (by decide) (by decide)) ?_
      refine q_b1 (st5 nI_r (by omega)) ?_
      refine q_b1 (dvI_eq (b := 10) rfl rfl (by omega) (by decide) (by decide)) ?_
      rw [ups_ups, ups_s]
      exact q_le (nI_1 i) i1
theorem t_mplus {x y : Nat} {u v : Int32} (hr : r < 4) (hs : s < 4) (hrs : r ≠ s) (h : Rw X r x) (h' : Rw X s y) (hu : u = nI r) (hv : v = nI s) (b1 : sz x ≤ 16980) (b2 : sz y ≤ 16980) : ∃ X', f_X6_plus (mst σ o X) o u v = some ((), mst σ o X', 0, 0) ∧ Rw X' r (x + y) ∧ Ot (fun q => q = r) X X' ∧ X' 0 = X 0 := by
  subst hu hv
  have hF := FU_ge
  obtain ⟨h1, h2, h3⟩ := id h
  obtain ⟨k1, k2, k3⟩ := id h'
  have p1 : ldI (mst σ o X) (o + 6) (nI r) = some (nI (sz x)) := by rw [ld6 rfl hr, h2]
  have p2 : ldI (mst σ o X) (o + 6) (nI s) = some (nI (sz y)) := by rw [ld6 rfl hs, k2]
  have main : ∀ N : Nat, sz x ≤ N → sz y ≤ N → N ≤ 16980 → ∃ X', (bd (f_X6_plus_L37 FU (mst σ o X) o (nI r) (nI s) (nI N) 0 0) fun y22 σ23 => bd (f_X6_trim σ23 o (nI r) (nI N + 1)) fun _ σ24 => some ((), σ24, 0, 0)) = some ((), mst σ o X', 0, 0) ∧ Rw X' r (x + y) ∧ Ot (fun q => q = r) X X' ∧ X' 0 = X 0 := by
    intro N n1 n2 n3
    obtain ⟨m', g', c', i1, i2, i3, i4⟩ := t_mplus_loop (σ := σ) (o := o) hr hs hrs h h' n3 FU 0 0 (X 5) (fun _ => 0) (by omega) (by omega) (by omega) (fun j hj => by omega) (fun j _ hj => h3 j hj) (fun _ _ => rfl) (by rw [Nat.pow_zero, Nat.mod_one, Nat.mod_one]; rfl)
    rw [ups_self] at i1
    have lx : x < 10 ^ N := sz_le.mp n1
    have ly : y < 10 ^ N := sz_le.mp n2
    have eP : 10 ^ (N + 1) = 10 ^ N * 10 := Nat.pow_succ ..
    rw [Nat.mod_eq_of_lt (by omega), Nat.mod_eq_of_lt (by omega)] at i4
    have hc : c' = 0 := by
      rcases Nat.eq_zero_or_pos c' with w | w
      · exact w
      · have : 1 * 10 ^ (N + 1) ≤ c' * 10 ^ (N + 1) := Nat.mul_le_mul_right _ w
        omega
    subst hc
    rw [Nat.zero_mul, Nat.add_zero] at i4
    have hO : Ot (fun q => q = r) X (ups X 5 m') := Ot.m5 i3
    obtain ⟨X', t1, t2, t3, t4⟩ := t_mtrim (σ := σ) (o := o) (X := ups X 5 m') (n := N + 1) (g := g') hr rfl (nI_1 N) (by omega) (fun j hj => by rw [ups_s]; exact i2 j hj)
    rw [i4] at t2
    refine ⟨X', ?_, t2, hO.trans t3 (fun _ w => w), by rw [t4, ups_n (by decide)]⟩
    refine q_bd0 i1 ?_
    exact q_bd0 t1 rfl
  unfold f_X6_plus
  by_cases hxy : sz x ≤ sz y
  · obtain ⟨X', c1, c2⟩ := main (sz y) hxy (Nat.le_refl _) b2
    refine ⟨X', ?_, c2⟩
    refine q_ob m_o ?_
    refine q_b1 m_g5 ?_
    refine q_b1 p1 ?_
    refine q_b1 m_g5 ?_
    refine q_b1 p2 ?_
    refine q_jn ?_
    refine q_t (nI_le hxy (by omega)) ?_
    refine q_b1 m_g5 ?_
    refine q_b1 p2 ?_
    exact c1
  · obtain ⟨X', c1, c2⟩ := main (sz x) (Nat.le_refl _) (by omega) b1
    refine ⟨X', ?_, c2⟩
    refine q_ob m_o ?_
    refine q_b1 m_g5 ?_
    refine q_b1 p1 ?_
    refine q_b1 m_g5 ?_
    refine q_b1 p2 ?_
    refine q_jn ?_
    refine q_f (nI_ge (by omega) (by omega)) ?_
    refine q_b1 m_g5 ?_
    refine q_b1 p1 ?_
    exact c1
theorem t_mless_loop {x y : Nat} (hr : r < 4) (hs : s < 4) (hrs : r ≠ s) (h : Rw X r x) (h' : Rw X s y) : ∀ (k i c : Nat) (m : Nat → Int32) (g : Nat → Nat), sz x - i < k → i ≤ sz x → c ≤ 1 → (∀ j, j < i → m (17000 * r + j) = nI (g j) ∧ g j < 10) → (∀ j, i ≤ j → j < sz x → m (17000 * r + j) = nI (dg x j)) → (∀ q, (q < 17000 * r ∨ 17000 * (r + 1) ≤ q) → m q = X 5 q) → vl 10 g i + y % 10 ^ i = x % 10 ^ i + c * 10 ^ i →
    ∃ m' g' c', f_X6_less_L5 k (mst σ o (ups X 5 m)) o (nI r) (nI s) (nI c) (nI i) = some ((), mst σ o (ups X 5 m'), 0, 0) ∧ c' ≤ 1 ∧ (∀ j, j < sz x → m' (17000 * r + j) = nI (g' j) ∧ g' j < 10) ∧ (∀ q, (q < 17000 * r ∨ 17000 * (r + 1) ≤ q) → m' q = X 5 q) ∧ vl 10 g' (sz x) + y % 10 ^ sz x = x % 10 ^ sz x + c' * 10 ^ sz x := by
  obtain ⟨h1, h2, h3⟩ := h
  obtain ⟨k1, k2, k3⟩ := h'
  intro k
  induction k with
  | zero => intro i c m g h; omega
  | succ k ih =>
    intro i c m g hk hi hc a1 a2 a3 a4
    show ∃ m' g' c', b_X6_less_L5 (f_X6_less_L5 k) _ o _ _ _ _ = _ ∧ _
    unfold b_X6_less_L5
    have pre : ldI (mst σ o (ups X 5 m)) (o + 6) (nI r) = some (nI (sz x)) := by rw [ld6 rfl hr, ups_n (by decide), h2]
    by_cases he : i = sz x
    · subst he
      refine ⟨m, g, c, ?_, hc, a1, a3, a4⟩
      refine q_b1 m_g5 ?_
      refine q_b1 pre ?_
      exact q_t (nI_le (Nat.le_refl _) (by omega)) rfl
    · have d1 := dg_lt x i
      have d2 := dg_lt y i
      have ex : x % 10 ^ (i + 1) = x % 10 ^ i + 10 ^ i * dg x i := Nat.mod_pow_succ
      have ey : y % 10 ^ (i + 1) = y % 10 ^ i + 10 ^ i * dg y i := Nat.mod_pow_succ
      have next : ∀ t c2 : Nat, t < 10 → c2 ≤ 1 → t + dg y i + c = dg x i + 10 * c2 → ∃ m' g' c', f_X6_less_L5 k (mst σ o (ups X 5 (upd m (17000 * r + i) (nI t)))) o (nI r) (nI s) (nI c2) (nI (i + 1)) = some ((), mst σ o (ups X 5 m'), 0, 0) ∧ c' ≤ 1 ∧ (∀ j, j < sz x → m' (17000 * r + j) = nI (g' j) ∧ g' j < 10) ∧ (∀ q, (q < 17000 * r ∨ 17000 * (r + 1) ≤ q) → m' q = X 5 q) ∧ vl 10 g' (sz x) + y % 10 ^ sz x = x % 10 ^ sz x + c' * 10 ^ sz x := by
        intro t c2 ht hc2 heq
        refine ih (i + 1) c2 (upd m (17000 * r + i) (nI t)) (up1 g i t) (by omega) (by omega) hc2 (fun j hj => by
          unfold up1
          by_cases hji : j = i
          · subst hji; rw [if_pos rfl, pk_us]; exact ⟨rfl, ht⟩
          · rw [if_neg hji, pk_un (by omega)]; exact a1 j (by omega)) (fun j hj hj2 => by rw [pk_un (by omega)]; exact a2 j (by omega) hj2) (fun q hq => by rw [pk_un (by omega)]; exact a3 q hq) ?_
        show vl 10 (up1 g i t) i + up1 g i t i * 10 ^ i + y % 10 ^ (i + 1) = x % 10 ^ (i + 1) + c2 * 10 ^ (i + 1)
        have e1 : vl 10 (up1 g i t) i = vl 10 g i := vl_congr (fun j hj => by unfold up1; rw [if_neg (by omega)])
        have e2 : up1 g i t i = t := by unfold up1; rw [if_pos rfl]
        have e3 : (t + dg y i + c) * 10 ^ i = (dg x i + 10 * c2) * 10 ^ i := by rw [heq]
        rw [Nat.add_mul, Nat.add_mul, Nat.add_mul] at e3
        have e4 : 10 * c2 * 10 ^ i = c2 * (10 ^ i * 10) := by rw [Nat.mul_comm 10 c2, Nat.mul_assoc, Nat.mul_comm 10]
        rw [e1, e2, ex, ey, Nat.pow_succ, Nat.mul_comm (10 ^ i) (dg x i), Nat.mul_comm (10 ^ i) (dg y i)]
        omega
      have fin : ∀ t c2 : Nat, t < 10 → c2 ≤ 1 → t + dg y i + c = dg x i + 10 * c2 → ∃ m' g' c', b_X6_less_L5 (f_X6_less_L5 k) (mst σ o (ups X 5 m)) o (nI r) (nI s) (nI c) (nI i) = some ((), mst σ o (ups X 5 m'), 0, 0) ∧ c' ≤ 1 ∧ (∀ j, j < sz x → m' (17000 * r + j) = nI (g' j) ∧ g' j < 10) ∧ (∀ q, (q < 17000 * r ∨ 17000 * (r + 1) ≤ q) → m' q = X 5 q) ∧ vl 10 g' (sz x) + y % 10 ^ sz x = x % 10 ^ sz x + c' * 10 ^ sz x := by
        intro t c2 ht hc2 heq
        obtain ⟨m', g', c', i1, i2⟩ := next t c2 ht hc2 heq
        refine ⟨m', g', c', ?_, i2⟩
        unfold b_X6_less_L5
        refine q_b1 m_g5 ?_
        refine q_b1 pre ?_
        refine q_f (nI_ge (by omega) (by omega)) ?_
        refine q_b1 m_g4 ?_
        refine q_b1 (ld5 nI_r (by omega)) ?_
        rw [ups_s, a2 i (Nat.le_refl _) (by omega)]
        refine q_b1 m_g5 ?_
        refine q_b1 (ld6 rfl hs) ?_
        rw [ups_n (by decide), k2]
        refine q_jn ?_
        refine ld_pad (K := fun z7 => lt ((nI (dg x i) - z7) - nI c) fun x8 => jn (fun (z9 : Int32) => ((gR (mst σ o (ups X 5 m)) 6 o 4).bind fun r10 => jn (fun (z11 : Int32) => ((stI (mst σ o (ups X 5 m)) r10 ((17000 * nI r) + nI i) z11).bind fun σ12 => lt (nI i + 1) fun x13 => f_X6_less_L5 k σ12 o (nI r) (nI s) z9 x13)) fun k11 => if 0 ≤ x8 then k11 x8 else k11 (x8 + 10))) fun k9 => if 0 ≤ x8 then k9 0 else k9 1) hs (by omega) (fun w => by rw [a3 _ (by omega)]; exact k3 i w) k1 ?_
        refine q_le (y := nI (dg x i) - nI (dg y i + c)) (by rw [i32_ssa, nI_add]) (q_jn ?_)
        rcases Nat.eq_zero_or_pos c2 with w | w
        · subst w
          have hle : dg y i + c ≤ dg x i := by omega
          rw [pk_sub hle, show dg x i - (dg y i + c) = t by omega]
          refine q_t (nI_pos' (by omega)) ?_
          refine q_b1 m_g4 (q_jn ?_)
          refine q_t (nI_pos' (by omega)) ?_
          refine q_b1 (st5 nI_r (by omega)) ?_
          rw [ups_ups, ups_s]
          exact q_le (nI_1 i) i1
        · have hc21 : c2 = 1 := by omega
          subst hc21
          have hlt : dg x i < dg y i + c := by omega
          refine q_f (dif_lt hlt (by omega)) ?_
          refine q_b1 m_g4 (q_jn ?_)
          refine q_f (dif_lt hlt (by omega)) ?_
          refine q_b1 (st5 nI_r (by omega)) ?_
          rw [ups_ups, ups_s, show nI (dg x i) - nI (dg y i + c) + 10 = nI t by rw [i32_sac, show (10 : Int32) = nI 10 from rfl, nI_add, pk_sub (by omega)]; congr 1; omega]
          exact q_le (nI_1 i) i1
      by_cases hge : dg y i + c ≤ dg x i
      · exact fin (dg x i - (dg y i + c)) 0 (by omega) (by omega) (by omega)
      · exact fin (dg x i + 10 - (dg y i + c)) 1 (by omega) (by omega) (by omega)
theorem t_mless {x y : Nat} {u v : Int32} (hr : r < 4) (hs : s < 4) (hrs : r ≠ s) (h : Rw X r x) (h' : Rw X s y) (hu : u = nI r) (hv : v = nI s) (hyx : y ≤ x) : ∃ X', f_X6_less (mst σ o X) o u v = some ((), mst σ o X', 0, 0) ∧ Rw X' r (x - y) ∧ Ot (fun q => q = r) X X' ∧ X' 0 = X 0 := by
  subst hu hv
  have hF := FU_ge
  obtain ⟨h1, h2, h3⟩ := id h
  obtain ⟨m', g', c', i1, i0, i2, i3, i4⟩ := t_mless_loop (σ := σ) (o := o) hr hs hrs h h' FU 0 0 (X 5) (fun _ => 0) (by omega) (by omega) (by omega) (fun j hj => by omega) (fun j _ hj => h3 j hj) (fun _ _ => rfl) (by rw [Nat.pow_zero, Nat.mod_one, Nat.mod_one]; rfl)
  rw [ups_self] at i1
  have lx := sz_lt x
  rw [Nat.mod_eq_of_lt lx, Nat.mod_eq_of_lt (by omega)] at i4
  have hv := vl_lt (B := 10) (g := g') (n := sz x) (fun j hj => (i2 j hj).2)
  have hc : c' = 0 := by
    rcases Nat.eq_zero_or_pos c' with w | w
    · exact w
    · have : 1 * 10 ^ sz x ≤ c' * 10 ^ sz x := Nat.mul_le_mul_right _ w
      omega
  subst hc
  have hO : Ot (fun q => q = r) X (ups X 5 m') := Ot.m5 i3
  obtain ⟨X', t1, t2, t3, t4⟩ := t_mtrim (σ := σ) (o := o) (X := ups X 5 m') (n := sz x) (g := g') hr rfl rfl (by omega) (fun j hj => by rw [ups_s]; exact i2 j hj)
  rw [show vl 10 g' (sz x) = x - y by omega] at t2
  refine ⟨X', ?_, t2, hO.trans t3 (fun _ w => w), by rw [t4, ups_n (by decide)]⟩
  unfold f_X6_less
  refine q_ob m_o ?_
  refine q_bd0 i1 ?_
  refine q_b1 m_g5 ?_
  refine q_b1 (ld6 rfl hr) ?_
  rw [ups_n (by decide), h2]
  exact q_bd0 t1 rfl
end MC
