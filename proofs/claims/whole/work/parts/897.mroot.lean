/-! ===== roots of the reference ===== -/
theorem dviZ {a b : Int} {x y : Int32} (hx : x = iZ a) (hy : y = iZ b) (a1 : -2147483648 ≤ a) (a2 : a < 2147483648) (b1 : 0 < b) (b2 : b < 2147483648) : dvI x y = some (iZ (a.tdiv b)) := by
  subst hx hy
  have hb0 : iZ b ≠ 0 := fun h => by
    have := (iZ_eq (b := 0) (by omega) b2 (by omega) (by omega)).mp h
    omega
  unfold dvI
  rw [if_neg hb0]
  congr 1
  refine Int32.toInt_inj.mp ?_
  have h1 := Int.natAbs_tdiv a b
  have h2 : (a.tdiv b).natAbs ≤ a.natAbs := by rw [h1]; exact Nat.div_le_self _ _
  have h3 : a.tdiv b ≠ 2147483648 := fun h => by
    have : 0 ≤ a := by
      refine Int.not_lt.mp fun w => ?_
      have : a.tdiv b ≤ 0 := by
        have e : a = -(-a) := by omega
        rw [e, Int.neg_tdiv]
        have := Int.tdiv_nonneg (a := -a) (b := b) (by omega) (by omega)
        omega
      omega
    omega
  rw [Int32.toInt_div, iZ_t a1 a2, iZ_t (by omega) b2, iZ_t (by omega) (by omega)]
  rw [Int.bmod_eq_of_le (by omega) (by omega)]
def rN (m : Nat) (e : Int) : Nat := nu m e / de 1 e
def rM (m : Nat) (e : Int) : Bool := decide (nu m e % de 1 e ≠ 0) || decide (rN m e - sqt (rN m e) * sqt (rN m e) ≠ 0)
def rS (m p : Nat) (s : Int) : Int := p - ((sz m : Int) - 1 - s) / 2
def sRoot (A : AS) (d a p how : Int32) : Int32 × AS := onR d A fun i => onR a A fun j => if (0 < p ∧ p ≤ 4096) ∧ (0 ≤ how ∧ how < 8) ∧ A.2.1 j = false then (if A.1 j = 0 then kpA i 0 false ((A.2.2 j).tdiv 2) A else fin2 i (sqt (rN (A.1 j) (2 * rS (A.1 j) p.toNatClampNeg (A.2.2 j) - A.2.2 j)) / 10) (lostc (sqt (rN (A.1 j) (2 * rS (A.1 j) p.toNatClampNeg (A.2.2 j) - A.2.2 j)) % 10) 10 (rM (A.1 j) (2 * rS (A.1 j) p.toNatClampNeg (A.2.2 j) - A.2.2 j))) how.toNatClampNeg false (rS (A.1 j) p.toNatClampNeg (A.2.2 j) - 1) ((A.2.2 j).tdiv 2) p.toNatClampNeg A) else (0, A)
section MRoot
variable {σ : St} {o : Nat} {X : Nat → Nat → Int32} {A : AS}
theorem t_mbring {x d : Nat} {dI : Int32} (h : Rw X 3 x) (hd : d < 10) (hdI : dI = nI d) (hb : sz x ≤ 16980) : ∃ X', f_X6_bring (mst σ o X) o dI = some ((), mst σ o X', 0, 0) ∧ Rw X' 3 (x * 10 + d) ∧ Ot (fun q => q = 3) X X' ∧ X' 0 = X 0 := by
  obtain ⟨X1, a1, a2, a3, a4⟩ := t_mraise (σ := σ) (o := o) (r := 3) (y := 3) (z := 1) (k := 1) (by decide) h rfl rfl (by omega)
  rw [Nat.pow_one] at a2
  obtain ⟨X2, b1, b2, b3, b4⟩ := t_push (σ := σ) (o := o) (r := 3) (u := 3) (ix := 51000) (dI := dI) (by decide) a2 rfl rfl hdI hd hb
  refine ⟨X2, ?_, b1, a3.trans b2 (fun _ w => w), b3.trans a4⟩
  unfold f_X6_bring
  refine q_ob m_o ?_
  refine q_bd0 a1 ?_
  exact b4 (fun z => some ((), z, 0, 0))
theorem t_mxc {x : Nat} {i1 : Int32} (h : Rw X 2 x) : ∀ (k j : Nat) (m : Nat → Int32), sz x - j < k → j ≤ sz x → (∀ t, t < j → m (17000 * 1 + t) = X 5 (17000 * 2 + t)) → (∀ q, (q < 17000 * 1 ∨ 17000 * (1 + 1) ≤ q) → m q = X 5 q) → ∃ m', f_X6_extract_L93 k (mst σ o (ups X 5 m)) o i1 (nI j) = some ((), mst σ o (ups X 5 m'), 0, 0) ∧ (∀ t, t < sz x → m' (17000 * 1 + t) = X 5 (17000 * 2 + t)) ∧ (∀ q, (q < 17000 * 1 ∨ 17000 * (1 + 1) ≤ q) → m' q = X 5 q) := by
  have h1 := h.1
  intro k
  induction k with
  | zero => intro j m h; omega
  | succ k ih =>
    intro j m hk hj a1 a2
    show ∃ m', b_X6_extract_L93 (f_X6_extract_L93 k) _ o _ _ = _ ∧ _
    unfold b_X6_extract_L93
    have pre : ldI (mst σ o (ups X 5 m)) (o + 6) 2 = some (nI (sz x)) := (ld6 (i := 2) rfl (by decide)).trans (by rw [ups_n (by decide), h.2.1])
    by_cases he : j = sz x
    · refine ⟨m, ?_, fun t ht => a1 t (by omega), a2⟩
      refine q_b1 m_g5 (q_b1 pre ?_)
      exact q_t (nI_le (by omega) (by omega)) rfl
    · obtain ⟨m', b1, b2, b3⟩ := ih (j + 1) (upd m (17000 * 1 + j) (m (17000 * 2 + j))) (by omega) (by omega) (fun t ht => by
        by_cases htj : t = j
        · subst htj
          rw [pk_us, a2 _ (by omega)]
        · rw [pk_un (by omega)]; exact a1 t (by omega)) (fun q hq => by rw [pk_un (by omega)]; exact a2 q hq)
      refine ⟨m', ?_, b2, b3⟩
      refine q_b1 m_g5 (q_b1 pre ?_)
      refine q_f (nI_ge (by omega) (by omega)) ?_
      refine q_b1 m_g4 (q_b1 m_g4 ?_)
      refine q_b1 (ld5 (i := 17000 * 2 + j) (by rw [show (34000 : Int32) = nI 34000 from rfl, nI_add]) (by omega)) ?_
      refine q_b1 (st5 (i := 17000 * 1 + j) (by rw [show (17000 : Int32) = nI 17000 from rfl, nI_add]) (by omega)) ?_
      rw [ups_ups, ups_s]
      exact q_le (nI_1 j) b1
/-- the next digit of the root -/
theorem t_mxd {Q P : Nat} {i1 : Int32} (hP : P < (10 * Q + 10) * (10 * Q + 10)) (hs : sz P ≤ 9000) : ∀ (f v : Nat) (X : Nat → Nat → Int32), 10 - v < f → v ≤ 9 → (10 * Q + v) * (10 * Q + v) ≤ P → Rw X 3 (P - (10 * Q + v) * (10 * Q + v)) → Rw X 1 (20 * Q + 2 * v + 1) → ∃ v' X', f_X6_extract_L147 f (mst σ o X) o i1 (nI v) = some (nI v', mst σ o X', 0, 0) ∧ v' ≤ 9 ∧ sqt P = 10 * Q + v' ∧ Rw X' 3 (P - sqt P * sqt P) ∧ Ot (fun q => q = 1 ∨ q = 3) X X' := by
  intro f
  induction f with
  | zero => intro v X h; omega
  | succ f ih =>
    intro v X hf hv hle r3 r1
    show ∃ v' X', b_X6_extract_L147 (f_X6_extract_L147 f) _ o _ _ = _ ∧ _
    unfold b_X6_extract_L147
    have hc := t_mcmp (σ := σ) (o := o) (r := 3) (s := 1) (u := 3) (v := 1) (by decide) (by decide) r3 r1 rfl rfl
    have e1 : (10 * Q + v + 1) * (10 * Q + v + 1) = (10 * Q + v) * (10 * Q + v) + (20 * Q + 2 * v + 1) := by grind
    by_cases hlt : P - (10 * Q + v) * (10 * Q + v) < 20 * Q + 2 * v + 1
    · have hsq : sqt P = 10 * Q + v := sqt_eq hle (by rw [e1]; omega)
      refine ⟨v, X, ?_, hv, hsq, by rw [hsq]; exact r3, Ot.rf⟩
      refine q_b1 hc ?_
      exact q_t (by rw [if_pos hlt]; decide) rfl
    · have hle2 : (10 * Q + v + 1) * (10 * Q + v + 1) ≤ P := by rw [e1]; omega
      have hv9 : v + 1 ≤ 9 := by
        refine Nat.not_lt.mp fun w => ?_
        have : v = 9 := by omega
        subst this
        rw [show 10 * Q + 9 + 1 = 10 * Q + 10 from rfl] at hle2
        omega
      have sP := sz_le.mp hs
      have hB : 20 * Q + 2 * v + 1 ≤ P := by omega
      have sB : sz (20 * Q + 2 * v + 1) ≤ 9000 := sz_le.mpr (Nat.lt_of_le_of_lt hB sP)
      obtain ⟨X1, a1, a2, a3, a4⟩ := t_mless (σ := σ) (o := o) (r := 3) (s := 1) (u := 3) (v := 1) (by decide) (by decide) (by decide) r3 r1 rfl rfl (by omega)
      obtain ⟨X2, b1, b2, b3, b4⟩ := t_mone (σ := σ) (o := o) (r := 1) (u := 1) (by decide) (r1.ot a3 (by decide) (by decide)) rfl (by omega)
      have sB2 : sz (20 * Q + 2 * v + 1 + 1) ≤ 9001 := by
        rw [sz_le]
        have : (10 : Nat) ^ 9001 = 10 ^ 9000 * 10 := by rw [show 9001 = 9000 + 1 from rfl, Nat.pow_succ]
        have h2 := sz_le.mp sB
        omega
      obtain ⟨X3, c1, c2, c3, c4⟩ := t_mone (σ := σ) (o := o) (r := 1) (u := 1) (by decide) b2 rfl (by omega)
      obtain ⟨v', X', d1, d2, d3, d4, d5⟩ := ih (v + 1) X3 (by omega) hv9 hle2 (by
        have : P - (10 * Q + (v + 1)) * (10 * Q + (v + 1)) = P - (10 * Q + v) * (10 * Q + v) - (20 * Q + 2 * v + 1) := by
          rw [← Nat.add_assoc, e1]; omega
        rw [this]
        exact (a2.ot b3 (by decide) (by decide)).ot c3 (by decide) (by decide)) (by
        have : 20 * Q + 2 * (v + 1) + 1 = 20 * Q + 2 * v + 1 + 1 + 1 := by omega
        rw [this]; exact c2)
      refine ⟨v', X', ?_, d2, d3, d4, (((a3.mono (fun q w => Or.inr w)).trans b3 (fun q w => Or.inl w)).trans c3 (fun q w => Or.inl w)).trans d5 (fun _ w => w)⟩
      refine q_b1 hc ?_
      refine q_f (by rw [if_neg hlt]; split <;> decide) ?_
      refine q_bd0 a1 (q_bd0 b1 (q_bd0 c1 ?_))
      exact q_le (nI_1 v) d1
theorem t_mex_o {N : Nat} (hs : sz N ≤ 9000) : ∀ (f i : Nat) (X : Nat → Nat → Int32), i < f → i ≤ 5000 → 2 * i ≤ sz N + 1 → Rw X 0 N → Rw X 2 (sqt (N / 10 ^ (2 * i))) → Rw X 3 (N / 10 ^ (2 * i) - sqt (N / 10 ^ (2 * i)) * sqt (N / 10 ^ (2 * i))) → ∃ X', f_X6_extract_L27 f (mst σ o X) o (nI i + (-1)) = some ((), mst σ o X', 0, 0) ∧ Rw X' 2 (sqt N) ∧ Rw X' 3 (N - sqt N * sqt N) ∧ Ot (fun q => q = 1 ∨ q = 2 ∨ q = 3) X X' := by
  have hF := FU_ge
  intro f
  induction f with
  | zero => intro i X h; omega
  | succ f ih =>
    intro i X hf hi hiN r0 r2 r3
    show ∃ X', b_X6_extract_L27 (f_X6_extract_L27 f) _ o _ = _ ∧ _
    unfold b_X6_extract_L27
    rcases Nat.eq_zero_or_pos i with h0 | h0
    · subst h0
      rw [Nat.mul_zero, Nat.pow_zero, Nat.div_one] at r2 r3
      exact ⟨X, q_t (by decide) rfl, r2, r3, Ot.rf⟩
    · obtain ⟨j, rfl⟩ : ∃ j, i = j + 1 := ⟨i - 1, by omega⟩
      have ej : nI (j + 1) + (-1) = nI j := by rw [← Int32.sub_eq_add_neg]; exact nI_pred j
      rw [ej]
      obtain ⟨P, hP⟩ : ∃ P, N / 10 ^ (2 * (j + 1)) = P := ⟨_, rfl⟩
      obtain ⟨P', hP'⟩ : ∃ P', N / 10 ^ (2 * j) = P' := ⟨_, rfl⟩
      rw [hP] at r2 r3
      have d1 : dg N (2 * j + 1) = P' / 10 % 10 := by
        unfold dg
        rw [Nat.pow_succ, ← Nat.div_div_eq_div_mul, hP']
      have d0 : dg N (2 * j) = P' % 10 := by unfold dg; rw [hP']
      have ePP : P = P' / 100 := by
        rw [← hP, show 2 * (j + 1) = 2 * j + 2 by omega, Nat.pow_add, ← Nat.div_div_eq_div_mul, hP']
      have sN := sz_le.mp hs
      have sP : sz P' ≤ 9000 := sz_le.mpr (Nat.lt_of_le_of_lt (by rw [← hP']; exact Nat.div_le_self _ _) sN)
      have hl := sqt_le P
      have hu := sqt_lt P
      obtain ⟨Q, hQ⟩ : ∃ Q, sqt P = Q := ⟨_, rfl⟩
      rw [hQ] at r2 r3 hl hu
      have hPP : P ≤ P' := by omega
      have sR : sz (P - Q * Q) ≤ 9000 := sz_le.mpr (Nat.lt_of_le_of_lt (Nat.sub_le _ _) (Nat.lt_of_le_of_lt hPP (sz_le.mp sP)))
      have hQP : Q ≤ P := Nat.le_trans (Nat.le_mul_self Q) hl
      have sQ : sz Q ≤ 9000 := sz_le.mpr (Nat.lt_of_le_of_lt hQP (Nat.lt_of_le_of_lt hPP (sz_le.mp sP)))
      obtain ⟨X1, a1, a2, a3, a4⟩ := t_mbring (σ := σ) (o := o) (d := dg N (2 * j + 1)) r3 (dg_lt _ _) rfl (by omega)
      have sR1 : sz ((P - Q * Q) * 10 + dg N (2 * j + 1)) ≤ 9001 := by
        have := sz_le.mp sR
        have h2 := dg_lt N (2 * j + 1)
        rw [sz_le, Nat.pow_succ]
        omega
      obtain ⟨X2, b1, b2, b3, b4⟩ := t_mbring (σ := σ) (o := o) (d := dg N (2 * j)) a2 (dg_lt _ _) rfl (by omega)
      have O2 := a3.trans b3 (fun _ w => w)
      have r22 := r2.ot O2 (by decide) (by decide)
      have r20 := r0.ot O2 (by decide) (by decide)
      -- row 1
      obtain ⟨m', c1, c2, c3⟩ := t_mxc (σ := σ) (o := o) (i1 := nI j) (X := ups X2 6 (upd (X2 6) 1 (nI (sz Q)))) (x := Q) ⟨r22.1, by rw [ups_s, pk_un (by decide)]; exact r22.2.1, fun t ht => by rw [ups_n (by decide)]; exact r22.2.2 t ht⟩ FU 0 (X2 5) (by omega) (Nat.zero_le _) (fun t ht => by omega) (fun _ _ => by rw [ups_n (by decide)])
      have e65 : ups (ups X2 6 (upd (X2 6) 1 (nI (sz Q)))) 5 (X2 5) = ups X2 6 (upd (X2 6) 1 (nI (sz Q))) := by
        have := ups_self (X := ups X2 6 (upd (X2 6) 1 (nI (sz Q)))) (k := 5)
        rwa [show ups X2 6 (upd (X2 6) 1 (nI (sz Q))) 5 = X2 5 from ups_n (by decide)] at this
      rw [e65] at c1
      obtain ⟨X3, hX3⟩ : ∃ X3, ups (ups X2 6 (upd (X2 6) 1 (nI (sz Q)))) 5 m' = X3 := ⟨_, rfl⟩
      rw [hX3] at c1
      have O3 : Ot (fun q => q = 1) X2 X3 := by
        rw [← hX3]
        exact Ot.m6.trans (Ot.m5 (fun q hq => by rw [c3 q hq])) (fun _ w => w)
      have r31 : Rw X3 1 Q := by
        refine ⟨r22.1, ?_, fun t ht => ?_⟩
        · rw [← hX3, ups_n (by decide), ups_s, pk_us]
        · rw [← hX3, ups_s, c2 t ht, ups_n (by decide)]
          exact r22.2.2 t ht
      have r32 := r22.ot O3 (by decide) (by decide)
      obtain ⟨X4, g1, g2, g3, g4⟩ := t_mplus (σ := σ) (o := o) (r := 1) (s := 2) (u := 1) (v := 2) (by decide) (by decide) (by decide) r31 r32 rfl rfl (by omega) (by omega)
      have sQ2 : sz (Q + Q) ≤ 9001 := by
        have := sz_le.mp sQ
        rw [sz_le, Nat.pow_succ]
        omega
      obtain ⟨X5, k1, k2, k3, k4⟩ := t_mraise (σ := σ) (o := o) (r := 1) (y := 1) (z := 1) (k := 1) (by decide) g2 rfl rfl (by omega)
      rw [Nat.pow_one] at k2
      have sQ3 : sz ((Q + Q) * 10) ≤ 9002 := by
        have := sz_le.mp sQ2
        rw [sz_le, Nat.pow_succ]
        omega
      obtain ⟨X6, l1, l2, l3, l4⟩ := t_mone (σ := σ) (o := o) (r := 1) (u := 1) (by decide) k2 rfl (by omega)
      have O6 := ((O3.trans g3 (fun _ w => w)).trans k3 (fun _ w => w)).trans l3 (fun _ w => w)
      have ePd : P' = 100 * P + (10 * dg N (2 * j + 1) + dg N (2 * j)) := by rw [ePP, d1, d0]; omega
      have dl1 := dg_lt N (2 * j + 1)
      have dl0 := dg_lt N (2 * j)
      have sq10 : (10 * Q) * (10 * Q) = 100 * (Q * Q) := by grind
      have sq11 : (10 * Q + 10) * (10 * Q + 10) = 100 * ((Q + 1) * (Q + 1)) := by grind
      have eR3 : ((P - Q * Q) * 10 + dg N (2 * j + 1)) * 10 + dg N (2 * j) = P' - (10 * Q + 0) * (10 * Q + 0) := by
        show _ = P' - (10 * Q) * (10 * Q)
        rw [sq10, ePd]; omega
      obtain ⟨v, X7, n1, n2, n3, n4, n5⟩ := t_mxd (σ := σ) (o := o) (i1 := nI j) (Q := Q) (P := P') (by rw [sq11, ePd]; omega) sP FU 0 X6 (by omega) (by omega) (by show (10 * Q) * (10 * Q) ≤ P'; rw [sq10, ePd]; omega) (by rw [← eR3]; exact b2.ot O6 (by decide) (by decide)) (by
        have : 20 * Q + 2 * 0 + 1 = (Q + Q) * 10 + 1 := by omega
        rw [this]; exact l2)
      have r72 : Rw X7 2 Q := (r22.ot O6 (by decide) (by decide)).ot n5 (by decide) (by decide)
      obtain ⟨X8, p1, p2, p3, p4⟩ := t_mraise (σ := σ) (o := o) (r := 2) (y := 2) (z := 1) (k := 1) (by decide) r72 rfl rfl (by omega)
      rw [Nat.pow_one] at p2
      obtain ⟨X9, q1, q2, q3, q4⟩ := t_push (σ := σ) (o := o) (r := 2) (u := 2) (ix := 34000) (dI := nI v) (by decide) p2 rfl rfl rfl (by omega) (by omega)
      have hO9 : Ot (fun q => q = 1 ∨ q = 2 ∨ q = 3) X X9 := ((((O2.mono (S1 := fun q => q = 1 ∨ q = 2 ∨ q = 3) (fun q w => Or.inr (Or.inr w))).trans O6 (fun q w => Or.inl w)).trans n5 (fun q w => w.elim Or.inl (fun z => Or.inr (Or.inr z)))).trans p3 (fun q w => Or.inr (Or.inl w))).trans q2 (fun q w => Or.inr (Or.inl w))
      obtain ⟨X', u1, u2, u3, u4⟩ := ih j X9 (by omega) (by omega) (by omega) (r0.ot hO9 (by decide) (by decide)) (by
        rw [hP', n3, Nat.mul_comm 10 Q]; exact q1) (by
        rw [hP']
        exact ((n4.ot p3 (by decide) (by decide)).ot q2 (by decide) (by decide)))
      refine ⟨X', ?_, u2, u3, hO9.trans u4 (fun _ w => w)⟩
      refine q_f (nI_pos (by omega)) ?_
      have pre : ldI (mst σ o X) (o + 6) 0 = some (nI (sz N)) := (ld6 (i := 0) rfl (by decide)).trans (by rw [r0.2.1])
      refine q_b1 m_g5 (q_b1 pre (q_jn ?_))
      have e2j : (2 : Int32) * nI j = nI (2 * j) := by rw [show (2 : Int32) = nI 2 from rfl, pk_mul]
      rw [e2j, Int32.zero_add]
      have body : ∀ z : Int32, z = nI (dg N (2 * j + 1)) → (bd (f_X6_bring (mst σ o X) o z) fun _ σ12 =>
    (gR σ12 6 o 4).bind fun r13 =>
    (ldI σ12 r13 (nI (2 * j))).bind fun x14 =>
    bd (f_X6_bring σ12 o x14) fun _ σ15 =>
    (gR σ15 6 o 5).bind fun r16 =>
    (gR σ15 6 o 5).bind fun r17 =>
    (ldI σ15 r17 2).bind fun x18 =>
    (stI σ15 r16 1 x18).bind fun σ19 =>
    bd (f_X6_extract_L93 FU σ19 o (nI j) 0) fun y27 σ28 =>
    bd (f_X6_plus σ28 o 1 2) fun _ σ29 =>
    bd (f_X6_raise σ29 o 1 1) fun _ σ30 =>
    bd (f_X6_one σ30 o 1) fun _ σ31 =>
    bd (f_X6_extract_L147 FU σ31 o (nI j) 0) fun y37 σ38 =>
    bd (f_X6_raise σ38 o 2 1) fun _ σ39 =>
    (gR σ39 6 o 5).bind fun r40 =>
    (ldI σ39 r40 2).bind fun x41 =>
    jn (fun (z42 : St) => (
      (gR z42 6 o 5).bind fun r43 =>
      (ldI z42 r43 2).bind fun x44 =>
      jn (fun (z45 : St) => (
        lt (nI j + (-1)) fun x46 =>
        f_X6_extract_L27 f z45 o x46
        )) fun k45 =>
      if x44 ≤ 0 then (
        k45 z42
        ) else
      (gR z42 6 o 4).bind fun r47 =>
      (stI z42 r47 34000 y37).bind fun σ48 =>
      k45 σ48
      )) fun k42 =>
    if x41 = 0 then (
      if y37 ≤ 0 then (
        k42 σ39
        ) else
      (gR σ39 6 o 5).bind fun r49 =>
      (stI σ39 r49 2 1).bind fun σ50 =>
      k42 σ50
      ) else
    k42 σ39) = some ((), mst σ o X', 0, 0) := by
        intro z hz
        subst hz
        refine q_bd0 a1 ?_
        by_cases hdd : 2 * j < sz N
        · refine q_b1 m_g4 (q_b1 (ld5 rfl (by omega)) ?_)
          have e0 : X1 5 (2 * j) = nI (dg N (2 * j)) := by
            have := (r0.ot a3 (by decide) (by decide)).2.2 (2 * j) hdd
            rwa [show 17000 * 0 + 2 * j = 2 * j by omega] at this
          rw [e0]
          refine q_bd0 b1 ?_
          refine q_b1 m_g5 (q_b1 m_g5 ?_)
          have pre2 : ldI (mst σ o X2) (o + 6) 2 = some (nI (sz Q)) := (ld6 (i := 2) rfl (by decide)).trans (by rw [r22.2.1])
          refine q_b1 pre2 (q_b1 (st6 (i := 1) rfl (by decide)) ?_)
          refine q_bd0 c1 (q_bd0 g1 (q_bd0 k1 (q_bd0 l1 (q_bd0 n1 (q_bd0 p1 ?_)))))
          exact (q4 (fun z45 => lt (nI j + (-1)) fun x46 => f_X6_extract_L27 f z45 o x46)).trans (q_lt u1)
        · omega
      by_cases hd2 : sz N ≤ 2 * j + 1
      · refine q_t (by rw [nI_1]; exact nI_le hd2 (by omega)) ?_
        exact body 0 (by rw [dg_hi hd2]; rfl)
      · refine q_f (by rw [nI_1]; exact nI_ge (by omega) (by omega)) ?_
        refine q_b1 m_g4 (q_b1 (ld5 (nI_1 _) (by omega)) ?_)
        refine body _ ?_
        have := r0.2.2 (2 * j + 1) (by omega)
        rwa [show 17000 * 0 + (2 * j + 1) = 2 * j + 1 by omega] at this
theorem t_mextract {N : Nat} (hs : sz N ≤ 9000) (r0 : Rw X 0 N) : ∃ X', f_X6_extract (mst σ o X) o = some ((), mst σ o X', 0, 0) ∧ Rw X' 2 (sqt N) ∧ Rw X' 3 (N - sqt N * sqt N) ∧ Ot (fun q => q = 1 ∨ q = 2 ∨ q = 3) X X' := by
  have hF := FU_ge
  have O1 : Ot (fun q => q = 2) X (ups X 6 (upd (X 6) 2 0)) := Ot.m6
  obtain ⟨X1, hX1⟩ : ∃ X1, ups X 6 (upd (X 6) 2 0) = X1 := ⟨_, rfl⟩
  rw [hX1] at O1
  have O2 : Ot (fun q => q = 3) X1 (ups X1 6 (upd (X1 6) 3 0)) := Ot.m6
  obtain ⟨X2, hX2⟩ : ∃ X2, ups X1 6 (upd (X1 6) 3 0) = X2 := ⟨_, rfl⟩
  rw [hX2] at O2
  have O : Ot (fun q => q = 1 ∨ q = 2 ∨ q = 3) X X2 := (O1.mono (fun q w => Or.inr (Or.inl w))).trans O2 (fun q w => Or.inr (Or.inr w))
  have hz : N / 10 ^ (2 * ((sz N + 1) / 2)) = 0 := Nat.div_eq_of_lt (Nat.lt_of_lt_of_le (sz_lt N) (p10_le (by omega)))
  have q0 : sqt 0 = 0 := sqt_eq (by decide) (by decide)
  have r2 : Rw X2 2 0 := ⟨by decide, by rw [← hX2, ups_s, pk_un (by decide), ← hX1, ups_s, pk_us]; rfl, fun t ht => by rw [sz_0] at ht; omega⟩
  have r3 : Rw X2 3 0 := ⟨by decide, by rw [← hX2, ups_s, pk_us]; rfl, fun t ht => by rw [sz_0] at ht; omega⟩
  obtain ⟨X', a1, a2, a3, a4⟩ := t_mex_o (σ := σ) (o := o) hs FU ((sz N + 1) / 2) X2 (by omega) (by omega) (by omega) (r0.ot O (by decide) (by decide)) (by rw [hz, q0]; exact r2) (by rw [hz, q0]; exact r3)
  refine ⟨X', ?_, a2, a3, O.trans a4 (fun _ w => w)⟩
  unfold f_X6_extract
  refine q_ob m_o ?_
  refine q_b1 m_g5 (q_b1 (st6 (i := 2) rfl (by decide)) ?_)
  rw [hX1]
  refine q_b1 m_g5 (q_b1 (st6 (i := 3) rfl (by decide)) ?_)
  rw [hX2]
  have pre : ldI (mst σ o X2) (o + 6) 0 = some (nI (sz N)) := (ld6 (i := 0) rfl (by decide)).trans (by rw [(r0.ot O (by decide) (by decide)).2.1])
  refine q_b1 m_g5 (q_b1 pre ?_)
  refine q_b1 (dvI_eq (a := sz N + 1) (b := 2) (nI_1 _) rfl (by omega) (by decide) (by decide)) ?_
  refine q_le (y := nI ((sz N + 1) / 2) + (-1)) (Int32.sub_eq_add_neg ..) ?_
  exact q_bd0 a1 rfl
end MRoot
