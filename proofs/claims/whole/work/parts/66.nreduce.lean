theorem stH_comm {σ : St} {a b : Nat} {e e' : Cel} (h : a ≠ b) : stH (stH σ a e) b e' = stH (stH σ b e') a e := by
  unfold stH
  congr 1
  funext q
  show (if q = b then some e' else if q = a then some e else σ.1 q) = if q = a then some e else if q = b then some e' else σ.1 q
  by_cases h1 : q = b
  · by_cases h2 : q = a
    · exact absurd (h2.symm.trans h1) h
    · rw [if_pos h1, if_neg h2, if_pos h1]
  · rw [if_neg h1, if_neg h1]
theorem pF1 {σ : St} {a L n m : Nat} {v : Int32} (h : σ.1 a = some (OO L n)) (hv : v = nI m) : pF σ 2 a 1 (.int v) = some (stH σ a (OO L m)) := by
  subst hv
  exact pF_eq h (Nat.le_of_ble_eq_true rfl)
section RE2
variable {σ : St} {a b d L Lb Ld c cb cd x y z : Nat} {gd : Nat → Nat}
theorem step_eq {x W D q r Q0 P : Nat} (h : x = W + D * Q0) (hq : W = r + D * P * q) : x = r + D * (q * P + Q0) := by
  rw [h, hq, Nat.mul_add, Nat.mul_comm q P, Nat.mul_assoc]
  omega
theorem t_red_loop {σ1 : St} {e m N : Nat} {f0 fq fd : Nat → Int32} {nq k0 : Nat} {u : Int32} (ha : σ1.1 a = some (OO L k0)) (hL : σ1.1 L = some (AA c f0)) (hb : σ1.1 b = some (OO Lb nq)) (hLb : σ1.1 Lb = some (AA cb fq)) (hd : σ1.1 d = some (OO Ld (e + 2))) (hLd : σ1.1 Ld = some (AA cd fd)) (n1 : L ≠ Lb) (n2 : L ≠ Ld) (n3 : Lb ≠ Ld) (d3 : ∀ j, j < e + 2 → fd j = nI (gd j)) (d4 : e + 2 ≤ cd) (d5 : cd ≤ 4000) (d6 : ∀ j, j < e + 2 → gd j < BS) (d7 : 0 < gd (e + 1)) (hN : m + e + 2 ≤ N) (hc : N ≤ c) (hc4 : c ≤ 4000) (hcb : m ≤ cb) (hcb4 : cb ≤ 4000) :
    ∀ (k s : Nat) (F FQ : Nat → Int32) (G Q : Nat → Nat), s < k → s ≤ m → (∀ j, j < N → F j = nI (G j) ∧ G j < BS) → (∀ j, s ≤ j → j < m → FQ j = nI (Q j) ∧ Q j < BS) → vl BS G N < vl BS gd (e + 2) * BS ^ s → x = vl BS G N + vl BS gd (e + 2) * (BS ^ s * vl BS (fun j => Q (s + j)) (m - s)) →
      ∃ F' FQ' G' Q', f_X2_reduce_L82 k (stH (stH σ1 L (AA c F)) Lb (AA cb FQ)) a b d (nI (e + 2)) u (nI s + (-1)) = some ((), stH (stH σ1 L (AA c F')) Lb (AA cb FQ'), 0, 0) ∧ (∀ j, j < N → F' j = nI (G' j) ∧ G' j < BS) ∧ (∀ j, j < m → FQ' j = nI (Q' j) ∧ Q' j < BS) ∧ vl BS G' N < vl BS gd (e + 2) ∧ x = vl BS G' N + vl BS gd (e + 2) * vl BS Q' m := by
  intro k
  induction k with
  | zero => intro s F FQ G Q h; omega
  | succ k ih =>
    intro s F FQ G Q hk hs g1 g2 hW hx
    show ∃ F' FQ' G' Q', b_X2_reduce_L82 (f_X2_reduce_L82 k) _ a b d _ _ _ = _ ∧ _
    unfold b_X2_reduce_L82
    have eB : BS = 1000000000 := rfl
    rcases Nat.eq_zero_or_pos s with w | w
    · subst w
      rw [Nat.pow_zero, Nat.mul_one] at hW
      have e1 : vl BS (fun j => Q (0 + j)) (m - 0) = vl BS Q m := vl_congr (fun j _ => by rw [Nat.zero_add])
      rw [Nat.pow_zero, Nat.one_mul, e1] at hx
      exact ⟨F, FQ, G, Q, q_t (by decide) rfl, g1, fun j hj => g2 j (Nat.zero_le _) hj, hW, hx⟩
    · obtain ⟨i, rfl⟩ : ∃ i, s = i + 1 := ⟨s - 1, by omega⟩
      rw [pk_m1]
      have hW' : vl BS G N < vl BS gd (e + 2) * BS ^ i * BS := by rw [Nat.mul_assoc, ← Nat.pow_succ]; exact hW
      have hd0 : 0 < vl BS gd (e + 2) := Nat.lt_of_lt_of_le (Nat.pow_pos (by decide)) (vl_ge (B := BS) (g := gd) (n := e + 1) d7)
      have eS : stH (stH σ1 L (AA c F)) Lb (AA cb FQ) = stH (stH σ1 Lb (AA cb FQ)) L (AA c F) :=
         stH_comm n1
      have pa : (stH σ1 Lb (AA cb FQ)).1 a = some (OO L k0) := by rw [stH_n (ne_OA hLb ha)]; exact ha
      have pL : (stH σ1 Lb (AA cb FQ)).1 L = some (AA c f0) := by rw [stH_n n1]; exact hL
      have pd : (stH σ1 Lb (AA cb FQ)).1 Ld = some (AA cd fd) := by rw [stH_n n3.symm]; exact hLd
      obtain ⟨t, r1, r2, r3, r4⟩ := t_guess (σ := stH σ1 Lb (AA cb FQ)) (at' := i) (N := N) (G := G) (F := F) pa pL pd n2 d3 d4 d5 d6 d7 (by omega) hc hc4 g1 hW'
      obtain ⟨F', G', s1, s2, s3⟩ := t_take (σ := stH σ1 Lb (AA cb FQ)) (at' := i) (N := N) (G := G) (F := F) pa pL pd n2 d3 d4 d5 d6 hd0 (by omega) hc hc4 g1 hW' r2 r3 r4
      obtain ⟨q, hq⟩ : ∃ q, vl BS G N / (vl BS gd (e + 2) * BS ^ i) = q := ⟨_, rfl⟩
      have hdm := Nat.mod_add_div (vl BS G N) (vl BS gd (e + 2) * BS ^ i)
      have hD0 : 0 < vl BS gd (e + 2) * BS ^ i := Nat.mul_pos hd0 (Nat.pow_pos (by decide))
      have hml := Nat.mod_lt (vl BS G N) hD0
      rw [← s3] at hdm hml
      rw [hq] at s1 hdm r3
      have hqB : q < BS := Nat.lt_of_le_of_lt r3 r2
      obtain ⟨F2, FQ2, G2, Q2, i1, i2, i3, i4, i5⟩ := ih i F' (upd FQ i (nI q)) G' (up1 Q i q) (by omega) (by omega) s2 (fun j q1 q2 => by
        by_cases hj : j = i
        · subst hj; unfold up1; rw [if_pos rfl]; exact ⟨pk_us, hqB⟩
        · unfold up1; rw [if_neg hj, pk_un hj]; exact g2 j (by omega) q2) hml (by
        rw [vl_head (show i < m by omega)]
        have e3 : vl BS (fun j => up1 Q i q (i + 1 + j)) (m - (i + 1)) = vl BS (fun j => Q (i + 1 + j)) (m - (i + 1)) := vl_congr (fun j _ => by unfold up1; rw [if_neg (by omega)])
        have e4 : up1 Q i q i = q := by unfold up1; rw [if_pos rfl]
        rw [e3, e4, Nat.mul_add, ← Nat.mul_assoc (BS ^ i) BS, ← Nat.pow_succ, Nat.mul_comm (BS ^ i) q]
        exact step_eq hx hdm.symm)
      refine ⟨F2, FQ2, G2, Q2, ?_, i2, i3, i4, i5⟩
      have qd : (stH (stH σ1 L (AA c F)) Lb (AA cb FQ)).1 d = some (OO Ld (e + 2)) := by rw [stH_n (ne_OA hLb hd), stH_n (ne_OA hL hd)]; exact hd
      have qb : (stH (stH σ1 L (AA c F)) Lb (AA cb FQ)).1 b = some (OO Lb nq) := by rw [stH_n (ne_OA hLb hb), stH_n (ne_OA hL hb)]; exact hb
      refine q_f (nI_pos (by omega)) ?_
      refine q_b1 (gR_eq qd rfl) ?_
      rw [nI_add, eS]
      refine q_b1 r1 ?_
      rw [← eS]
      refine q_b1 (gR_eq qb rfl) ?_
      refine q_b1 (gR_eq qd rfl) ?_
      rw [eS]
      refine q_bd0 s1 ?_
      refine q_b1 (stI_eq (i := i) (f := FQ) (n := cb) (by rw [stH_n n1.symm, stH_s]) rfl (by omega) (by omega)) ?_
      have eS2 : stH (stH (stH σ1 Lb (AA cb FQ)) L (AA c F')) Lb (AA cb (upd FQ i (nI q))) = stH (stH σ1 L (AA c F')) Lb (AA cb (upd FQ i (nI q))) := by
        rw [stH_comm n1, stH_stH]
        exact (stH_comm n1).symm
      rw [eS2]
      exact q_lt i1
/-- reduce: a becomes what is left, b the quotient -/
theorem t_reduce (hD : Dm σ) (h : NV σ a L c x) (hb : NV σ b Lb cb z) (hd : NV σ d Ld cd y) (nab : a ≠ b) (nad : a ≠ d) (nbd : b ≠ d) (n1 : L ≠ Lb) (n2 : L ≠ Ld) (n3 : Lb ≠ Ld) (hx : x < 10 ^ Em) (hy : 0 < y) : Ye (f_X2_reduce σ a b d) (P2 σ a L c b Lb cb (x % y) (x / y)) := by
  obtain ⟨n, g, f, h1, h2, h3, h4, h5, h6, h7, h8⟩ := h.split
  obtain ⟨nb, gb, fb, k1, k2, k3, k4, k5, k6, k7, k8⟩ := hb.split
  obtain ⟨o, gd, fd, o1, o2, o3, o4, o5, o6, o7, o8⟩ := hd.split
  have hFU := FU_ge
  have hn : n ≤ 1889 := by
    rcases Nat.eq_zero_or_pos n with w | w
    · omega
    · have := limbs_le h7 h8 w hx
      have e : Em = 17000 := rfl
      clear hx
      omega
  have ho : 0 < o := Nat.pos_of_ne_zero fun e => by
    have := (nm_zero o7).mp e
    omega
  unfold f_X2_reduce
  refine e_ob h1 ?_
  refine e_b1 (pF1 k1 (m := 0) rfl) ?_
  have f1 : Fr (fun q => q = b) σ (stH σ b (OO Lb 0)) := Fr.st k1 rfl
  have D1 : Dm (stH σ b (OO Lb 0)) := f1.2.2.2 hD
  have a1 : (stH σ b (OO Lb 0)).1 a = some (OO L n) := by rw [stH_n nab]; exact h1
  have a2 : (stH σ b (OO Lb 0)).1 L = some (AA c f) := by rw [stH_n (ne_AO h2 k1)]; exact h2
  have b1 : (stH σ b (OO Lb 0)).1 b = some (OO Lb 0) := stH_s
  have b2 : (stH σ b (OO Lb 0)).1 Lb = some (AA cb fb) := by rw [stH_n (ne_AO k2 k1)]; exact k2
  have d1 : (stH σ b (OO Lb 0)).1 d = some (OO Ld o) := by rw [stH_n nbd.symm]; exact o1
  have d2 : (stH σ b (OO Lb 0)).1 Ld = some (AA cd fd) := by rw [stH_n (ne_AO o2 k1)]; exact o2
  have A1 : NV (stH σ b (OO Lb 0)) a L c x := NV.mk a1 a2 h3 h4 h5 h6 h7 h8
  have B1 : NV (stH σ b (OO Lb 0)) b Lb cb 0 := NV.mk (n := 0) (g := gb) b1 b2 (fun j hj => absurd hj (Nat.not_lt_zero _)) (Nat.zero_le _) k5 (fun j hj => absurd hj (Nat.not_lt_zero _)) (fun hj => absurd hj (Nat.not_lt_zero _)) rfl
  have fS : Fr (fun q => q = a ∨ q = L ∨ q = b ∨ q = Lb) σ (stH σ b (OO Lb 0)) := f1.mono (fun q _ w => Or.inr (Or.inr (Or.inl w)))
  refine e_b1 (gI_eq d1 rfl) ?_
  refine e_f (nI_ne0 ho (by omega)) ?_
  refine e_b1 (gI_eq a1 rfl) ?_
  by_cases hno : o ≤ n
  · refine e_t (nI_le hno (by omega)) ?_
    by_cases ho1 : o = 1
    · subst ho1
      refine e_t rfl ?_
      refine e_b1 (gR_eq d1 rfl) ?_
      refine e_b1 (ldI_eq (i := 0) d2 rfl (by omega) (by omega)) ?_
      have ey : gd 0 = y := by rw [← o8]; simp [vl]
      have hx0 : 0 < x := by
        have := nm_pos h7 (by omega : 0 < n)
        have hp := Nat.pow_pos (n := n - 1) (show 0 < BS by decide)
        rw [h8] at this
        exact Nat.lt_of_lt_of_le hp this
      refine e_bd (t_reduceByLimb (σ := stH σ b (OO Lb 0)) (d := y) D1 A1 B1 nab n1 (by rw [o3 0 (by omega), ey]) hy (by rw [← ey]; exact o6 0 (by omega)) hx hx0) ?_
      rintro _ σ2 kc sc ⟨L', c', Lb', cb', p1, p2, p3, p4, p5, p6, p7, p8, p9, p10⟩
      exact e_ret ⟨L', c', Lb', cb', p1, p2, p3, p4, p5, fS.trans p6 (fun q _ w => w), p7, p8, p9, p10⟩
    · refine e_f (fun w => ho1 ((nI_eq (by omega) (by decide)).mp (show nI o = nI 1 from w))) ?_
      obtain ⟨e, rfl⟩ : ∃ e, o = e + 2 := ⟨o - 2, by omega⟩
      clear hx
      refine e_b1 (gI_eq a1 rfl) ?_
      refine e_le (x := nI (n - (e + 2) + 1)) (by rw [pk_sub hno, nI_1]) ?_
      refine e_b1 (gI_eq a1 rfl) ?_
      refine e_bd (t_makeRoom (m := n + 1) D1 a1 a2 (nI_1 n) (by omega) (by omega)) ?_
      rintro _ σ2 kc sc ⟨L', c', f', m1, m2, m3, m4, m5, m6, m7, m8, m9, m10, -⟩
      have hc' : c' ≤ 4000 := by have h9 : max c (2 * (n + 1)) ≤ 4000 := Nat.max_le.mpr ⟨h5, by omega⟩; omega
      refine e_b1 (gR_eq m1 rfl) ?_
      refine e_b1 (gI_eq m1 rfl) ?_
      refine e_b1 (stI_eq (i := n) m2 rfl (by omega) (by omega)) ?_
      have D2 : Dm σ2 := m8.2.2.2 D1
      have b3 : σ2.1 b = some (OO Lb 0) := m8.at D1 b1 (fun w => nab w.symm)
      have b4 : σ2.1 Lb = some (AA cb fb) := m8.at D1 b2 (fun w => ne_AO b2 a1 w)
      have d3 : σ2.1 d = some (OO Ld (e + 2)) := m8.at D1 d1 (fun w => nad w.symm)
      have d4 : σ2.1 Ld = some (AA cd fd) := m8.at D1 d2 (fun w => ne_AO d2 a1 w)
      have nL1 : L' ≠ Lb := by
        rcases m7 with w | w
        · rw [w]; exact n1
        · have := D1.lt b2; omega
      have nL2 : L' ≠ Ld := by
        rcases m7 with w | w
        · rw [w]; exact n2
        · have := D1.lt d2; omega
      have f3 : Fr (fun q => q = L') σ2 (stH σ2 L' (AA c' (upd f' n 0))) := Fr.st m2 rfl
      have D3 : Dm (stH σ2 L' (AA c' (upd f' n 0))) := f3.2.2.2 D2
      have a5 : (stH σ2 L' (AA c' (upd f' n 0))).1 a = some (OO L' n) := by rw [stH_n (ne_OA m2 m1)]; exact m1
      have a6 : (stH σ2 L' (AA c' (upd f' n 0))).1 L' = some (AA c' (upd f' n 0)) := stH_s
      have b5 : (stH σ2 L' (AA c' (upd f' n 0))).1 b = some (OO Lb 0) := by rw [stH_n (ne_OA m2 b3)]; exact b3
      have b6 : (stH σ2 L' (AA c' (upd f' n 0))).1 Lb = some (AA cb fb) := by rw [stH_n nL1.symm]; exact b4
      have d5 : (stH σ2 L' (AA c' (upd f' n 0))).1 d = some (OO Ld (e + 2)) := by rw [stH_n (ne_OA m2 d3)]; exact d3
      have d6 : (stH σ2 L' (AA c' (upd f' n 0))).1 Ld = some (AA cd fd) := by rw [stH_n nL2.symm]; exact d4
      refine e_bd (t_makeRoom (m := n - (e + 2) + 1) D3 b5 b6 rfl (by omega) (by omega)) ?_
      rintro _ σ4 kc2 sc2 ⟨Lb', cb', fb', q1, q2, q3, q4, q5, q6, q7, q8, q9, q10, -⟩
      have hcb' : cb' ≤ 4000 := by have h9 : max cb (2 * (n - (e + 2) + 1)) ≤ 4000 := Nat.max_le.mpr ⟨k5, by omega⟩; omega
      have a7 : σ4.1 a = some (OO L' n) := q8.at D3 a5 nab
      have a8 : σ4.1 L' = some (AA c' (upd f' n 0)) := q8.at D3 a6 (fun w => ne_AO a6 b5 w)
      have d7 : σ4.1 d = some (OO Ld (e + 2)) := q8.at D3 d5 nbd.symm
      have d8 : σ4.1 Ld = some (AA cd fd) := q8.at D3 d6 (fun w => ne_AO d6 b5 w)
      have nL3 : L' ≠ Lb' := by
        rcases q7 with w | w
        · rw [w]; exact nL1
        · exact Nat.ne_of_lt (Nat.lt_of_lt_of_le (D3.lt a6) w)
      have nL4 : Lb' ≠ Ld := by
        rcases q7 with w | w
        · rw [w]; exact n3
        · exact Nat.ne_of_gt (Nat.lt_of_lt_of_le (D3.lt d6) w)
      refine e_le (x := nI (n - (e + 2) + 1) + (-1)) (Int32.sub_eq_add_neg ..) ?_
      have hdpos : BS ^ (e + 1) ≤ vl BS gd (e + 2) := nm_pos o7 ho
      have evx : vl BS (pad n g) (n + 1) = x := by rw [pad_vl (by omega)]; exact h8
      obtain ⟨F', FQ', G', Q', s1, s2, s3, s4, s5⟩ := t_red_loop (σ1 := σ4) (x := x) (m := n - (e + 2) + 1) (N := n + 1) (gd := gd) (u := nI (n - (e + 2) + 1)) a7 a8 q1 q2 d7 d8 nL3 nL2 nL4 o3 o4 o5 o6 (o7 ho) (by omega) m3 hc' q3 hcb' FU (n - (e + 2) + 1) (upd f' n 0) fb' (pad n g) (fun _ => 0) (by omega) (Nat.le_refl _) (fun j hj => by
          refine ⟨?_, pad_lt h6 j⟩
          unfold pad
          by_cases hjn : j = n
          · subst hjn; rw [pk_us, if_neg (by omega)]; rfl
          · rw [pk_un hjn, if_pos (by omega), m6 j (by omega), h3 j (by omega)]) (fun j q1 q2 => by omega) (by
          rw [evx, ← h8]
          refine Nat.lt_of_lt_of_le (vl_lt h6) ?_
          have : BS ^ (e + 1) * BS ^ (n - (e + 2) + 1) ≤ vl BS gd (e + 2) * BS ^ (n - (e + 2) + 1) := Nat.mul_le_mul_right _ hdpos
          rw [← Nat.pow_add, show e + 1 + (n - (e + 2) + 1) = n by omega] at this
          exact this) (by rw [evx, Nat.sub_self]; show x = x + vl BS gd (e + 2) * (BS ^ (n - (e + 2) + 1) * 0); rw [Nat.mul_zero, Nat.mul_zero, Nat.add_zero])
      rw [stH_self a8, stH_self q2] at s1
      refine e_bd0 s1 ?_
      have e1 : (stH (stH σ4 L' (AA c' F')) Lb' (AA cb' FQ')).1 b = some (OO Lb' 0) := by rw [stH_n (ne_OA q2 q1), stH_n (ne_OA a8 q1)]; exact q1
      have e2 : (stH (stH σ4 L' (AA c' F')) Lb' (AA cb' FQ')).1 a = some (OO L' n) := by rw [stH_n (ne_OA q2 a7), stH_n (ne_OA a8 a7)]; exact a7
      refine e_b1 (pF1 e1 rfl) ?_
      obtain ⟨n', t1, t2, t3⟩ := t_trimV (σ := stH (stH (stH σ4 L' (AA c' F')) Lb' (AA cb' FQ')) b (OO Lb' (n - (e + 2) + 1))) (a := b) (L := Lb') (c := cb') (n := n - (e + 2) + 1) (g := Q') stH_s (by rw [stH_n (ne_AO q2 q1), stH_s]) (fun j hj => (s3 j hj).1) q3 hcb' (fun j hj => (s3 j hj).2)
      refine e_bd0 t2 ?_
      rw [stH_stH] at t3 ⊢
      have e3 : (stH (stH (stH σ4 L' (AA c' F')) Lb' (AA cb' FQ')) b (OO Lb' n')).1 a = some (OO L' n) := by rw [stH_n nab]; exact e2
      have e4 : (stH (stH (stH σ4 L' (AA c' F')) Lb' (AA cb' FQ')) b (OO Lb' n')).1 L' = some (AA c' F') := by rw [stH_n (ne_AO a8 q1), stH_n nL3, stH_s]
      refine e_b1 (pF1 e3 rfl) ?_
      have hvlow : vl BS G' (n + 1) = vl BS G' (e + 2) := vl_pad (by omega) (vl_top0 (by decide) (fun j hj => (s2 j hj).2) (Nat.lt_trans s4 (vl_lt o6)))
      obtain ⟨n2, u1, u2, u3⟩ := t_trimV (σ := stH (stH (stH (stH σ4 L' (AA c' F')) Lb' (AA cb' FQ')) b (OO Lb' n')) a (OO L' (e + 2))) (a := a) (L := L') (c := c') (n := e + 2) (g := G') stH_s (by rw [stH_n (ne_AO a8 a7)]; exact e4) (fun j hj => (s2 j (by omega)).1) (by omega) hc' (fun j hj => (s2 j (by omega)).2)
      refine e_bd0 u2 ?_
      rw [stH_stH] at u3 ⊢
      have g2 : Fr (fun q => q = a ∨ q = L ∨ q = b ∨ q = Lb) σ σ2 := fS.trans m8 (fun q _ w => Or.inl w)
      have g3 := g2.trans f3 (fun q hq w => by
        rcases m7 with w2 | w2
        · exact Or.inr (Or.inl (w.trans w2))
        · have : (stH σ b (OO Lb 0)).2.1 = σ.2.1 := rfl
          omega)
      have g4 := g3.trans q8 (fun q _ w => Or.inr (Or.inr (Or.inl w)))
      have g5 := g4.trans (Fr.st (S := fun q => q = L') (e := AA c' F') a8 rfl) (fun q hq w => by
        rcases m7 with w2 | w2
        · exact Or.inr (Or.inl (w.trans w2))
        · have : (stH σ b (OO Lb 0)).2.1 = σ.2.1 := rfl
          omega)
      have hb4 : (stH σ4 L' (AA c' F')).1 Lb' = some (AA cb' fb') := by rw [stH_n nL3.symm]; exact q2
      have hle : σ.2.1 ≤ σ2.2.1 := g2.2.1
      have g6 := g5.trans (Fr.st (S := fun q => q = Lb') (e := AA cb' FQ') hb4 rfl) (fun q hq w => by
        rcases q7 with w2 | w2
        · exact Or.inr (Or.inr (Or.inr (w.trans w2)))
        · have w3 : σ2.2.1 ≤ Lb' := w2
          omega)
      have g7 := g6.trans (Fr.st (S := fun q => q = b) (e := OO Lb' n') e1 rfl) (fun q _ w => Or.inr (Or.inr (Or.inl w)))
      have g8 := g7.trans (Fr.st (S := fun q => q = a) (e := OO L' n2) e3 rfl) (fun q _ w => Or.inl w)
      have hdr : x / y = vl BS Q' (n - (e + 2) + 1) ∧ x % y = vl BS G' (n + 1) := by
        rw [s5, ← o8]
        have hp : 0 < vl BS gd (e + 2) := by rw [o8]; exact hy
        constructor
        · rw [Nat.add_mul_div_left _ _ hp, Nat.div_eq_of_lt s4, Nat.zero_add]
        · rw [Nat.add_mul_mod_self_left, Nat.mod_eq_of_lt s4]
      refine e_ret ⟨L', c', Lb', cb', ?_, ?_, m7, ?_, nL3, g8, m4, q4, by omega, by omega⟩
      · rw [hdr.2, hvlow]; exact u3
      · rw [hdr.1]
        refine NV.fr (S := fun q => q = a) t3 (g7.2.2.2 hD) (Fr.st e3 rfl) (fun w => nab w.symm) (fun w => ne_AO q2 a7 w)
      · rcases q7 with w | w
        · exact Or.inl w
        · have w3 : σ2.2.1 ≤ Lb' := w
          exact Or.inr (Nat.le_trans hle w3)
  · refine e_f (nI_ge (by omega) (by omega)) ?_
    have hlt : x < y := by
      rw [← h8, ← o8]
      refine Nat.lt_of_lt_of_le (vl_lt h6) (Nat.le_trans ?_ (nm_pos o7 ho))
      exact Nat.pow_le_pow_right (by decide) (by omega)
    refine e_ret ⟨L, c, Lb, cb, ?_, ?_, Or.inl rfl, Or.inl rfl, n1, fS, Nat.le_refl _, Nat.le_refl _, Nat.le_refl _, by omega⟩
    · rw [Nat.mod_eq_of_lt hlt]; exact A1
    · rw [Nat.div_eq_of_lt hlt]; exact B1
end RE2
