section MO
variable {σ : St} {o r : Nat} {X : Nat → Nat → Int32}
theorem vl_9s : ∀ i : Nat, vl 10 (fun _ => 9) i + 1 = 10 ^ i
  | 0 => rfl
  | i + 1 => by
    show vl 10 (fun _ => 9) i + 9 * 10 ^ i + 1 = 10 ^ (i + 1)
    have := vl_9s i
    rw [Nat.pow_succ]
    omega
theorem t_mone_loop {x : Nat} (hr : r < 4) (h : Rw X r x) : ∀ (k i : Nat) (m : Nat → Int32), sz x - i < k → i ≤ sz x → (∀ j, j < i → m (17000 * r + j) = 0 ∧ dg x j = 9) → (∀ j, i ≤ j → m (17000 * r + j) = X 5 (17000 * r + j)) → (∀ q, (q < 17000 * r ∨ 17000 * (r + 1) ≤ q) → m q = X 5 q) →
    ∃ m' i', f_X6_one_L2 k (mst σ o (ups X 5 m)) o (nI r) (nI i) = some (nI i', mst σ o (ups X 5 m'), 0, 0) ∧ i' ≤ sz x ∧ (i' < sz x → dg x i' ≠ 9) ∧ (∀ j, j < i' → m' (17000 * r + j) = 0 ∧ dg x j = 9) ∧ (∀ j, i' ≤ j → m' (17000 * r + j) = X 5 (17000 * r + j)) ∧ (∀ q, (q < 17000 * r ∨ 17000 * (r + 1) ≤ q) → m' q = X 5 q) := by
  obtain ⟨h1, h2, h3⟩ := h
  intro k
  induction k with
  | zero => intro i m h; omega
  | succ k ih =>
    intro i m hk hi a1 a2 a3
    show ∃ m' i', b_X6_one_L2 (f_X6_one_L2 k) _ o _ _ = _ ∧ _
    unfold b_X6_one_L2
    have pre : ldI (mst σ o (ups X 5 m)) (o + 6) (nI r) = some (nI (sz x)) := by rw [ld6 rfl hr, ups_n (by decide), h2]
    by_cases he : i = sz x
    · refine ⟨m, i, ?_, by omega, fun w => by omega, a1, a2, a3⟩
      refine q_b1 m_g5 ?_
      refine q_b1 pre ?_
      exact q_t (nI_le (by omega) (by omega)) rfl
    · have hlt : i < sz x := by omega
      have hd := dg_lt x i
      have ec : ups X 5 m 5 (17000 * r + i) = nI (dg x i) := by rw [ups_s, a2 i (Nat.le_refl _), h3 i hlt]
      by_cases h9 : dg x i = 9
      · obtain ⟨m', i', b1, b2, b3, b4, b5, b6⟩ := ih (i + 1) (upd m (17000 * r + i) 0) (by omega) (by omega) (fun j hj => by
          by_cases hji : j = i
          · subst hji; exact ⟨pk_us, h9⟩
          · rw [pk_un (by omega)]; exact a1 j (by omega)) (fun j hj => by rw [pk_un (by omega)]; exact a2 j (by omega)) (fun q hq => by rw [pk_un (by omega)]; exact a3 q hq)
        refine ⟨m', i', ?_, b2, b3, b4, b5, b6⟩
        refine q_b1 m_g5 ?_
        refine q_b1 pre ?_
        refine q_f (nI_ge hlt (by omega)) ?_
        refine q_b1 m_g4 ?_
        refine q_b1 (ld5 nI_r (by omega)) ?_
        refine q_t (by rw [ec, h9]; rfl) ?_
        refine q_b1 m_g4 ?_
        refine q_b1 (st5 nI_r (by omega)) ?_
        rw [ups_ups, ups_s]
        exact q_le (nI_1 i) b1
      · refine ⟨m, i, ?_, by omega, fun _ => h9, a1, a2, a3⟩
        refine q_b1 m_g5 ?_
        refine q_b1 pre ?_
        refine q_f (nI_ge hlt (by omega)) ?_
        refine q_b1 m_g4 ?_
        refine q_b1 (ld5 nI_r (by omega)) ?_
        refine q_f ?_ rfl
        rw [ec]
        exact fun w => h9 ((nI_eq (by omega) (by decide)).mp (show nI (dg x i) = nI 9 from w))
theorem t_mone {x : Nat} {u : Int32} (hr : r < 4) (h : Rw X r x) (hu : u = nI r) (hb : sz x ≤ 16980) : ∃ X', f_X6_one (mst σ o X) o u = some ((), mst σ o X', 0, 0) ∧ Rw X' r (x + 1) ∧ Ot (fun q => q = r) X X' ∧ X' 0 = X 0 := by
  subst hu
  have hF := FU_ge
  obtain ⟨h1, h2, h3⟩ := id h
  obtain ⟨m, i, b1, b2, b3, b4, b5, b6⟩ := t_mone_loop (σ := σ) (o := o) hr h FU 0 (X 5) (by omega) (Nat.zero_le _) (fun j hj => by omega) (fun _ _ => rfl) (fun _ _ => rfl)
  rw [ups_self] at b1
  have pre : ∀ m, ldI (mst σ o (ups X 5 m)) (o + 6) (nI r) = some (nI (sz x)) := fun m => by rw [ld6 rfl hr, ups_n (by decide), h2]
  have e9 : x % 10 ^ i + 1 = 10 ^ i := by
    rw [← vl_dg, ← vl_9s i]
    congr 1
    exact vl_congr (fun j hj => (b4 j hj).2)
  by_cases he : i = sz x
  · have hx : x + 1 = 10 ^ i := by rw [← e9, he, Nat.mod_eq_of_lt (sz_lt x)]
    have hO : Ot (fun q => q = r) X (ups X 5 (upd m (17000 * r + i) 1)) := Ot.m5 (fun q hq => by rw [pk_un (by omega)]; exact b6 q hq)
    have hO2 := Ot.m6 (X := ups X 5 (upd m (17000 * r + i) 1)) (r := r) (v := nI (i + 1))
    refine ⟨_, ?_, ?_, hO.trans hO2 (fun _ w => w), by rw [ups_n (by decide), ups_n (by decide)]⟩
    · unfold f_X6_one
      refine q_ob m_o ?_
      refine q_bd0 b1 ?_
      refine q_b1 m_g4 ?_
      refine q_b1 m_g5 ?_
      refine q_b1 (pre _) ?_
      refine q_jn ?_
      refine q_t (nI_le (by omega) (by omega)) ?_
      refine q_b1 (st5 nI_r (by omega)) ?_
      rw [ups_ups, ups_s]
      refine q_b1 m_g5 ?_
      refine q_b1 m_g5 ?_
      refine q_b1 (pre _) ?_
      refine q_jn ?_
      refine q_t (nI_le (by omega) (by omega)) ?_
      refine q_b1 m_g5 ?_
      refine q_b1 (pre _) ?_
      rw [nI_1, ← he]
      exact q_b1 (st6 rfl hr) rfl
    · rw [hx]
      have hv : vl 10 (fun j => if j = i then 1 else 0) (i + 1) = 10 ^ i := by
        show vl 10 (fun j => if j = i then 1 else 0) i + (if i = i then 1 else 0) * 10 ^ i = _
        rw [vl_zero (fun j hj => if_neg (by omega)), if_pos rfl]
        omega
      rw [← hv]
      refine Rw.of (by rw [ups_s, pk_us]) (by omega) (fun j hj => ?_) (fun _ => by rw [Nat.add_sub_cancel, if_pos rfl]; decide)
      rw [ups_n (by decide), ups_s]
      by_cases hji : j = i
      · subst hji; rw [pk_us, if_pos rfl]; exact ⟨rfl, by decide⟩
      · rw [pk_un (by omega), if_neg hji]; exact ⟨(b4 j (by omega)).1, by decide⟩
  · have hlt : i < sz x := by omega
    have h9 := b3 hlt
    have hd := dg_lt x i
    have hO : Ot (fun q => q = r) X (ups X 5 (upd m (17000 * r + i) (nI (dg x i + 1)))) := Ot.m5 (fun q hq => by rw [pk_un (by omega)]; exact b6 q hq)
    have hO2 := Ot.m6 (X := ups X 5 (upd m (17000 * r + i) (nI (dg x i + 1)))) (r := r) (v := nI (sz x))
    refine ⟨_, ?_, ?_, hO.trans hO2 (fun _ w => w), by rw [ups_n (by decide), ups_n (by decide)]⟩
    · unfold f_X6_one
      refine q_ob m_o ?_
      refine q_bd0 b1 ?_
      refine q_b1 m_g4 ?_
      refine q_b1 m_g5 ?_
      refine q_b1 (pre _) ?_
      refine q_jn ?_
      refine q_f (nI_ge hlt (by omega)) ?_
      refine q_b1 m_g4 ?_
      refine q_b1 (ld5 nI_r (by omega)) ?_
      rw [ups_s, b5 i (Nat.le_refl _), h3 i hlt, nI_1]
      refine q_b1 (st5 nI_r (by omega)) ?_
      rw [ups_ups, ups_s]
      refine q_b1 m_g5 ?_
      refine q_b1 m_g5 ?_
      refine q_b1 (pre _) ?_
      refine q_jn ?_
      refine q_f (nI_ge hlt (by omega)) ?_
      refine q_b1 m_g5 ?_
      refine q_b1 (pre _) ?_
      exact q_b1 (st6 rfl hr) rfl
    · have hv : vl 10 (fun j => if j < i then 0 else if j = i then dg x i + 1 else dg x j) (sz x) = x + 1 := by
        obtain ⟨e, he2⟩ : ∃ e, sz x = i + 1 + e := ⟨sz x - i - 1, by omega⟩
        have hx := vl_sz x
        rw [he2, vl_add] at hx
        rw [he2, vl_add]
        have q1 : vl 10 (fun j => if j < i then 0 else if j = i then dg x i + 1 else dg x j) i = 0 := vl_zero (fun j hj => if_pos hj)
        have q2 : vl 10 (fun j => if i + 1 + j < i then 0 else if i + 1 + j = i then dg x i + 1 else dg x (i + 1 + j)) e = vl 10 (fun j => dg x (i + 1 + j)) e := vl_congr (fun j _ => by rw [if_neg (by omega), if_neg (by omega)])
        have q3 : vl 10 (fun j => if j < i then 0 else if j = i then dg x i + 1 else dg x j) (i + 1) = (dg x i + 1) * 10 ^ i := by
          show vl 10 (fun j => if j < i then 0 else if j = i then dg x i + 1 else dg x j) i + (if i < i then 0 else if i = i then dg x i + 1 else dg x i) * 10 ^ i = _
          rw [q1, if_neg (by omega), if_pos rfl, Nat.zero_add]
        have q4 : vl 10 (dg x) (i + 1) = x % 10 ^ i + dg x i * 10 ^ i := by
          show vl 10 (dg x) i + dg x i * 10 ^ i = _
          rw [vl_dg]
        rw [q2, q3, Nat.add_mul, Nat.one_mul]
        rw [q4] at hx
        omega
      rw [← hv]
      refine Rw.of (by rw [ups_s, pk_us]) (by omega) (fun j hj => ?_) (fun hp => ?_)
      · rw [ups_n (by decide), ups_s]
        by_cases hji : j < i
        · rw [if_pos hji, pk_un (by omega)]; exact ⟨(b4 j hji).1, by decide⟩
        · rw [if_neg hji]
          by_cases hji2 : j = i
          · subst hji2; rw [pk_us, if_pos rfl]; exact ⟨rfl, by omega⟩
          · rw [if_neg hji2, pk_un (by omega), b5 j (by omega)]; exact ⟨h3 j hj, dg_lt x j⟩
      · rw [if_neg (by omega)]
        by_cases hji2 : sz x - 1 = i
        · rw [if_pos hji2]; omega
        · rw [if_neg hji2]
          exact dg_top (Nat.pos_of_ne_zero fun w => by subst w; rw [sz_0] at hp; omega)
/-- product: row 2 becomes row 0 times row 1 -/
theorem t_mp_loop0 {N : Nat} (hN : N ≤ 16990) : ∀ (k i : Nat) (m : Nat → Int32), N - i < k → i ≤ N → (∀ j, j < i → m (34000 + j) = 0) → (∀ q, (q < 34000 ∨ 51000 ≤ q) → m q = X 5 q) →
    ∃ m', f_X6_product_L16 k (mst σ o (ups X 5 m)) o (nI N) (nI i) = some ((), mst σ o (ups X 5 m'), 0, 0) ∧ (∀ j, j < N → m' (34000 + j) = 0) ∧ (∀ q, (q < 34000 ∨ 51000 ≤ q) → m' q = X 5 q) := by
  intro k
  induction k with
  | zero => intro i m h; omega
  | succ k ih =>
    intro i m hk hi a1 a2
    show ∃ m', b_X6_product_L16 (f_X6_product_L16 k) _ o _ _ = _ ∧ _
    unfold b_X6_product_L16
    by_cases he : i = N
    · subst he
      exact ⟨m, q_t (nI_le (Nat.le_refl _) (by omega)) rfl, a1, a2⟩
    · obtain ⟨m', b1, b2, b3⟩ := ih (i + 1) (upd m (34000 + i) 0) (by omega) (by omega) (fun j hj => by
        by_cases hji : j = i
        · subst hji; exact pk_us
        · rw [pk_un (by omega)]; exact a1 j (by omega)) (fun q hq => by rw [pk_un (by omega)]; exact a2 q hq)
      refine ⟨m', ?_, b2, b3⟩
      refine q_f (nI_ge (by omega) (by omega)) ?_
      refine q_b1 m_g4 ?_
      refine q_b1 (st5 (nI_add 34000 i) (by omega)) ?_
      rw [ups_ups, ups_s]
      exact q_le (nI_1 i) b1
/-- the row's digits f, with c to be carried -/
theorem t_mp_loop1 {y d e N A : Nat} {u : Int32} (h' : Rw X 1 y) (hd : d < 10) (hN : e + sz y ≤ N) (hN2 : N ≤ 16990) (hd0 : 0 < d) : ∀ (k i c : Nat) (m : Nat → Int32) (G : Nat → Nat), sz y - i < k → i ≤ sz y → c < 10 → (∀ j, j < N → m (34000 + j) = nI (G j) ∧ G j < 10) → (∀ j, e + i ≤ j → j < N → j < e + sz y ∨ G j = 0) → (∀ q, (q < 34000 ∨ 51000 ≤ q) → m q = X 5 q) → vl 10 G N + c * 10 ^ (e + i) = A + d * (y % 10 ^ i) * 10 ^ e →
    ∃ m' G' c', f_X6_product_L64 k (mst σ o (ups X 5 m)) o u (nI e) (nI d) (nI c) (nI i) = some (nI c', mst σ o (ups X 5 m'), 0, 0) ∧ c' < 10 ∧ (∀ j, j < N → m' (34000 + j) = nI (G' j) ∧ G' j < 10) ∧ (∀ j, e + sz y ≤ j → j < N → G' j = 0) ∧ (∀ q, (q < 34000 ∨ 51000 ≤ q) → m' q = X 5 q) ∧ vl 10 G' N + c' * 10 ^ (e + sz y) = A + d * y * 10 ^ e := by
  obtain ⟨h1, h2, h3⟩ := h'
  intro k
  induction k with
  | zero => intro i c m G h; omega
  | succ k ih =>
    intro i c m G hk hi hc a1 a0 a2 a3
    show ∃ m' G' c', b_X6_product_L64 (f_X6_product_L64 k) _ o _ _ _ _ _ = _ ∧ _
    unfold b_X6_product_L64
    have pre : ldI (mst σ o (ups X 5 m)) (o + 6) 1 = some (nI (sz y)) := (ld6 (i := 1) rfl (by decide)).trans (by rw [ups_n (by decide), h2])
    by_cases he : i = sz y
    · subst he
      rw [Nat.mod_eq_of_lt (sz_lt y)] at a3
      refine ⟨m, G, c, ?_, hc, a1, fun j q1 q2 => (a0 j q1 q2).resolve_left (by omega), a2, a3⟩
      refine q_b1 m_g5 ?_
      refine q_b1 pre ?_
      exact q_t (nI_le (Nat.le_refl _) (by omega)) rfl
    · have hlt : i < sz y := by omega
      have hg := dg_lt y i
      obtain ⟨c1, c2⟩ := a1 (e + i) (by omega)
      obtain ⟨v, hv⟩ : ∃ v, G (e + i) + d * dg y i + c = v := ⟨_, rfl⟩
      have hvb : v < 100 := by
        have : d * dg y i ≤ 9 * 9 := Nat.mul_le_mul (by omega) (by omega)
        omega
      have ey : y % 10 ^ (i + 1) = y % 10 ^ i + 10 ^ i * dg y i := Nat.mod_pow_succ
      obtain ⟨m', G', c', i1, i2, i3, i4, i5, i6⟩ := ih (i + 1) (v / 10) (upd m (34000 + (e + i)) (nI (v % 10))) (up1 G (e + i) (v % 10)) (by omega) (by omega) (by omega) (fun j hj => by
          unfold up1
          by_cases hji : j = e + i
          · subst hji; rw [if_pos rfl, pk_us]; exact ⟨rfl, by omega⟩
          · rw [if_neg hji, pk_un (by omega)]; exact a1 j hj) (fun j q1 q2 => by unfold up1; rw [if_neg (by omega)]; exact a0 j (by omega) q2) (fun q hq => by rw [pk_un (by omega)]; exact a2 q hq) (by
          have e1 := vl_upd (B := 10) (G := G) (p := e + i) (d := v % 10) N (by omega)
          have e2 : v % 10 * 10 ^ (e + i) + v / 10 * 10 ^ (e + (i + 1)) = v * 10 ^ (e + i) := by
            rw [← Nat.add_assoc, Nat.pow_succ]
            have := Nat.mod_add_div v 10
            conv => rhs; rw [← this, Nat.add_mul]
            rw [Nat.mul_comm (10 ^ (e + i)) 10, ← Nat.mul_assoc, Nat.mul_comm (v / 10) 10]
          have e3 : v * 10 ^ (e + i) = G (e + i) * 10 ^ (e + i) + d * dg y i * 10 ^ (e + i) + c * 10 ^ (e + i) := by rw [← hv, Nat.add_mul, Nat.add_mul]
          have e4 : d * (y % 10 ^ (i + 1)) * 10 ^ e = d * (y % 10 ^ i) * 10 ^ e + d * dg y i * 10 ^ (e + i) := by
            rw [ey, Nat.mul_add, Nat.add_mul, Nat.pow_add]
            congr 1
            rw [Nat.mul_comm (10 ^ i) (dg y i), ← Nat.mul_assoc, Nat.mul_assoc, Nat.mul_comm (10 ^ i)]
          rw [e4]
          omega)
      refine ⟨m', G', c', ?_, i2, i3, i4, i5, i6⟩
      refine q_b1 m_g5 ?_
      refine q_b1 pre ?_
      refine q_f (nI_ge hlt (by omega)) ?_
      refine q_f (nI_nle hd0 (by omega)) ?_
      refine q_b1 m_g4 ?_
      have ix : (34000 : Int32) + nI e + nI i = nI (34000 + (e + i)) := by rw [show (34000 : Int32) = nI 34000 from rfl, nI_add, nI_add, Nat.add_assoc]
      refine q_b1 (ld5 ix (by omega)) ?_
      refine q_b1 m_g4 ?_
      refine q_b1 (ld5 (i := 17000 * 1 + i) (nI_add 17000 i) (by omega)) ?_
      rw [ups_s, c1, a2 _ (by omega), h3 i hlt]
      refine q_le (y := nI v) (by rw [pk_mul, nI_add, nI_add, hv]) ?_
      refine q_b1 m_g4 ?_
      refine q_b1 (rmI_eq (b := 10) rfl rfl (by omega) (by decide) (by decide)) ?_
      refine q_b1 (st5 ix (by omega)) ?_
      refine q_b1 (dvI_eq (b := 10) rfl rfl (by omega) (by decide) (by decide)) ?_
      rw [ups_ups, ups_s]
      exact q_le (nI_1 i) i1
theorem t_mp_loop2 {x y N : Nat} (h : Rw X 0 x) (h' : Rw X 1 y) (hN : N = sz x + sz y) (hN2 : N ≤ 16990) : ∀ (k i : Nat) (m : Nat → Int32) (G : Nat → Nat), sz x - i < k → i ≤ sz x → (∀ j, j < N → m (34000 + j) = nI (G j) ∧ G j < 10) → (∀ j, i + sz y ≤ j → j < N → G j = 0) → (∀ q, (q < 34000 ∨ 51000 ≤ q) → m q = X 5 q) → vl 10 G N = x % 10 ^ i * y →
    ∃ m' G', f_X6_product_L39 k (mst σ o (ups X 5 m)) o (nI N) (nI i) = some ((), mst σ o (ups X 5 m'), 0, 0) ∧ (∀ j, j < N → m' (34000 + j) = nI (G' j) ∧ G' j < 10) ∧ (∀ q, (q < 34000 ∨ 51000 ≤ q) → m' q = X 5 q) ∧ vl 10 G' N = x * y := by
  have hF := FU_ge
  obtain ⟨h1, h2, h3⟩ := h
  obtain ⟨k1, k2, k3⟩ := id h'
  intro k
  induction k with
  | zero => intro i m G h; omega
  | succ k ih =>
    intro i m G hk hi a1 a0 a2 a3
    show ∃ m' G', b_X6_product_L39 (f_X6_product_L39 k) _ o _ _ = _ ∧ _
    unfold b_X6_product_L39
    have pre : ∀ m, ldI (mst σ o (ups X 5 m)) (o + 6) 0 = some (nI (sz x)) := fun m => (ld6 (i := 0) rfl (by decide)).trans (by rw [ups_n (by decide), h2])
    have pre1 : ∀ m, ldI (mst σ o (ups X 5 m)) (o + 6) 1 = some (nI (sz y)) := fun m => (ld6 (i := 1) rfl (by decide)).trans (by rw [ups_n (by decide), k2])
    by_cases he : i = sz x
    · subst he
      rw [Nat.mod_eq_of_lt (sz_lt x)] at a3
      refine ⟨m, G, ?_, a1, a2, a3⟩
      refine q_b1 m_g5 ?_
      refine q_b1 (pre _) ?_
      exact q_t (nI_le (Nat.le_refl _) (by omega)) rfl
    · have hlt : i < sz x := by omega
      have hg := dg_lt x i
      have ex : x % 10 ^ (i + 1) * y = x % 10 ^ i * y + dg x i * y * 10 ^ i := by
        rw [Nat.mod_pow_succ, Nat.add_mul]
        congr 1
        show 10 ^ i * dg x i * y = _
        rw [Nat.mul_assoc, Nat.mul_comm]
      have ix : (34000 : Int32) + nI i + nI (sz y) = nI (34000 + (i + sz y)) := by rw [show (34000 : Int32) = nI 34000 from rfl, nI_add, nI_add, Nat.add_assoc]
      have go : ∀ (m1 : Nat → Int32) (G1 : Nat → Nat) (c : Nat), c < 10 → f_X6_product_L64 FU (mst σ o (ups X 5 m)) o (nI N) (nI i) (nI (dg x i)) 0 0 = some (nI c, mst σ o (ups X 5 m1), 0, 0) → (∀ j, j < N → m1 (34000 + j) = nI (G1 j) ∧ G1 j < 10) → (∀ j, i + sz y ≤ j → j < N → G1 j = 0) → (∀ q, (q < 34000 ∨ 51000 ≤ q) → m1 q = X 5 q) → vl 10 G1 N + c * 10 ^ (i + sz y) = vl 10 G N + dg x i * y * 10 ^ i → ∃ m' G', b_X6_product_L39 (f_X6_product_L39 k) (mst σ o (ups X 5 m)) o (nI N) (nI i) = some ((), mst σ o (ups X 5 m'), 0, 0) ∧ (∀ j, j < N → m' (34000 + j) = nI (G' j) ∧ G' j < 10) ∧ (∀ q, (q < 34000 ∨ 51000 ≤ q) → m' q = X 5 q) ∧ vl 10 G' N = x * y := by
        intro m1 G1 c hc hL e1 e2 e3 e4
        have hz := e2 (i + sz y) (Nat.le_refl _) (by omega)
        have eu := vl_upd (B := 10) (G := G1) (p := i + sz y) (d := c) N (by omega)
        rw [hz, Nat.zero_mul, Nat.add_zero] at eu
        obtain ⟨m', G', i1, i2, i3, i4⟩ := ih (i + 1) (upd m1 (34000 + (i + sz y)) (nI c)) (up1 G1 (i + sz y) c) (by omega) (by omega) (fun j hj => by
            unfold up1
            by_cases hji : j = i + sz y
            · subst hji; rw [if_pos rfl, pk_us]; exact ⟨rfl, hc⟩
            · rw [if_neg hji, pk_un (by omega)]; exact e1 j hj) (fun j q1 q2 => by unfold up1; rw [if_neg (by omega)]; exact e2 j (by omega) q2) (fun q hq => by rw [pk_un (by omega)]; exact e3 q hq) (by rw [eu, e4, a3, ex])
        refine ⟨m', G', ?_, i2, i3, i4⟩
        unfold b_X6_product_L39
        refine q_b1 m_g5 ?_
        refine q_b1 (pre _) ?_
        refine q_f (nI_ge hlt (by omega)) ?_
        refine q_b1 m_g4 ?_
        refine q_b1 (ld5 (i := 17000 * 0 + i) (by rw [show (0 : Int32) = nI 0 from rfl, nI_add]) (by omega)) ?_
        rw [ups_s, a2 _ (by omega), h3 i hlt]
        refine q_bd0 hL ?_
        refine q_b1 m_g4 ?_
        refine q_b1 m_g5 ?_
        refine q_b1 (pre1 _) ?_
        refine q_b1 (ld5 ix (by omega)) ?_
        rw [ups_s, (e1 (i + sz y) (by omega)).1, hz, nI_add, Nat.zero_add]
        refine q_b1 (st5 ix (by omega)) ?_
        rw [ups_ups, ups_s]
        exact q_le (nI_1 i) i1
      rcases Nat.eq_zero_or_pos (dg x i) with w | w
      · refine go m G 0 (by decide) ?_ a1 a0 a2 (by rw [w, Nat.zero_mul, Nat.zero_mul, Nat.zero_mul])
        rw [w]
        obtain ⟨fu, hfu⟩ : ∃ fu, FU = fu + 1 := ⟨FU - 1, by omega⟩
        rw [hfu]
        show b_X6_product_L64 (f_X6_product_L64 fu) _ o _ _ _ _ _ = _
        unfold b_X6_product_L64
        refine q_b1 m_g5 ?_
        refine q_b1 (pre1 _) ?_
        by_cases hy0 : nI (sz y) ≤ 0
        · exact q_t hy0 rfl
        · refine q_f hy0 ?_
          exact q_t (by decide) rfl
      · obtain ⟨m1, G1, c, j1, j2, j3, j4, j5, j6⟩ := t_mp_loop1 (σ := σ) (o := o) (u := nI N) (e := i) (N := N) (A := vl 10 G N) h' hg (by omega) hN2 w FU 0 0 m G (by omega) (Nat.zero_le _) (by decide) a1 (fun j q1 q2 => by
          by_cases hj : j < i + sz y
          · exact Or.inl hj
          · exact Or.inr (a0 j (by omega) q2)) a2 (by rw [Nat.pow_zero, Nat.mod_one, Nat.mul_zero, Nat.zero_mul, Nat.zero_mul])
        exact go m1 G1 c j2 j1 j3 j4 j5 j6
theorem t_mproduct {x y : Nat} (h : Rw X 0 x) (h' : Rw X 1 y) (hb : sz x + sz y ≤ 16990) : ∃ X', f_X6_product (mst σ o X) o = some ((), mst σ o X', 0, 0) ∧ Rw X' 2 (x * y) ∧ Ot (fun q => q = 2) X X' ∧ X' 0 = X 0 := by
  have hF := FU_ge
  obtain ⟨h1, h2, h3⟩ := id h
  obtain ⟨k1, k2, k3⟩ := id h'
  obtain ⟨m0, a1, a2, a3⟩ := t_mp_loop0 (σ := σ) (o := o) (X := X) hb FU 0 (X 5) (by omega) (Nat.zero_le _) (fun j hj => by omega) (fun _ _ => rfl)
  rw [ups_self] at a1
  obtain ⟨m', G', i1, i2, i3, i4⟩ := t_mp_loop2 (σ := σ) (o := o) h h' rfl hb FU 0 m0 (fun _ => 0) (by omega) (Nat.zero_le _) (fun j hj => ⟨a2 j hj, by decide⟩) (fun _ _ _ => rfl) a3 (by rw [vl_zero (fun _ _ => rfl), Nat.pow_zero, Nat.mod_one, Nat.zero_mul])
  have hO : Ot (fun q => q = 2) X (ups X 5 m') := Ot.m5 (fun q hq => i3 q (by omega))
  obtain ⟨X', t1, t2, t3, t4⟩ := t_mtrim (σ := σ) (o := o) (X := ups X 5 m') (r := 2) (n := sz x + sz y) (g := G') (by decide) rfl rfl hb (fun j hj => by rw [ups_s]; exact i2 j hj)
  rw [i4] at t2
  refine ⟨X', ?_, t2, hO.trans t3 (fun _ w => w), by rw [t4, ups_n (by decide)]⟩
  unfold f_X6_product
  refine q_ob m_o ?_
  refine q_b1 m_g5 ?_
  refine q_b1 (ld6 (i := 0) rfl (by decide)) ?_
  refine q_b1 m_g5 ?_
  refine q_b1 (ld6 (i := 1) rfl (by decide)) ?_
  refine q_le (y := nI (sz x + sz y)) (by rw [h2, k2, nI_add]) ?_
  refine q_bd0 a1 ?_
  refine q_bd0 i1 ?_
  exact q_bd0 t1 rfl
end MO
