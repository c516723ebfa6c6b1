/-! ===== whole quotients of the reference ===== -/
def wkA (i l Q : Nat) (nq : Bool) (s : Int) (R : Nat) (nr : Bool) (s' : Int) (A : AS) : Int32 × AS := if (sz R ≤ 4096 ∧ -2147483648 ≤ s' ∧ s' < 2147483648) ∧ (sz Q ≤ 4096 ∧ -2147483648 ≤ s ∧ s < 2147483648) then (1, setA (setA A i Q nq s) l R nr s') else (0, A)
theorem isB_wk {i l Q R : Nat} {nq nr : Bool} {s s' : Int} {A : AS} : isB (wkA i l Q nq s R nr s' A).1 = some () := by
  unfold wkA
  split <;> rfl
theorem wk_big {i l Q R : Nat} {nq nr : Bool} {s s' : Int} {A : AS} (h : ¬ sz Q ≤ 4096) : wkA i l Q nq s R nr s' A = (0, A) := if_neg (fun w => h w.2.1)
def wTA (i l x y : Nat) (nq nr : Bool) (t sa : Int) (A : AS) : Int32 × AS :=
  if x * 10 ^ (-t).toNat < y then wkA i l 0 nq t x nr sa A else if x * 10 ^ min (-t).toNat (4096 + 2 * sz y - sz x) % y ≠ 0 ∧ min (-t).toNat (4096 + 2 * sz y - sz x) < (-t).toNat then (0, A) else wkA i l (x * 10 ^ min (-t).toNat (4096 + 2 * sz y - sz x) / y / 10 ^ min (min (-t).toNat (4096 + 2 * sz y - sz x)) (ez (x * 10 ^ min (-t).toNat (4096 + 2 * sz y - sz x) / y))) nq (t + (min (-t).toNat (4096 + 2 * sz y - sz x) - min (min (-t).toNat (4096 + 2 * sz y - sz x)) (ez (x * 10 ^ min (-t).toNat (4096 + 2 * sz y - sz x) / y)) : Nat)) (x * 10 ^ min (-t).toNat (4096 + 2 * sz y - sz x) % y / 10 ^ min (min (-t).toNat (4096 + 2 * sz y - sz x)) (ez (x * 10 ^ min (-t).toNat (4096 + 2 * sz y - sz x) / y))) nr (sa + (min (-t).toNat (4096 + 2 * sz y - sz x) - min (min (-t).toNat (4096 + 2 * sz y - sz x)) (ez (x * 10 ^ min (-t).toNat (4096 + 2 * sz y - sz x) / y)) : Nat)) A
def sWhole (A : AS) (q r a b : Int32) : Int32 × AS := onR q A fun i => onR r A fun l => onR a A fun j => onR b A fun k => if i ≠ l ∧ 0 < A.1 k then (if 0 < A.2.2 j - A.2.2 k then wkA i l (A.1 j / (A.1 k * 10 ^ (A.2.2 j - A.2.2 k).toNat) * 10 ^ (A.2.2 j - A.2.2 k).toNat) (xor (A.2.1 j) (A.2.1 k)) (A.2.2 j - A.2.2 k) (A.1 j % (A.1 k * 10 ^ (A.2.2 j - A.2.2 k).toNat)) (A.2.1 j) (A.2.2 j) A else wTA i l (A.1 j) (A.1 k) (xor (A.2.1 j) (A.2.1 k)) (A.2.1 j) (A.2.2 j - A.2.2 k) (A.2.2 j) A) else (0, A)
theorem upA_sw {α : Type} {f : Nat → α} {i l : Nat} {u v : α} (h : i ≠ l) : upA (upA f l v) i u = upA (upA f i u) l v := by
  funext j
  unfold upA
  by_cases h1 : j = i
  · subst h1; rw [if_pos rfl, if_neg h, if_pos rfl]
  · rw [if_neg h1]
    by_cases h2 : j = l
    · rw [if_pos h2, if_pos h2]
    · rw [if_neg h2, if_neg h2, if_neg h1]
theorem setA_sw {A : AS} {i l Q R : Nat} {nq nr : Bool} {s s' : Int} (h : i ≠ l) : setA (setA A l R nr s') i Q nq s = setA (setA A i Q nq s) l R nr s' := by
  unfold setA
  simp only [upA_sw h]
/-- what is left, with the ending zeros off -/
theorem rem_low {x y k z : Nat} (hz : z ≤ k) (hd : 10 ^ z ∣ x * 10 ^ k / y) : x * 10 ^ (k - z) - x * 10 ^ k / y / 10 ^ z * y = x * 10 ^ k % y / 10 ^ z ∧ x * 10 ^ k / y / 10 ^ z * y ≤ x * 10 ^ (k - z) := by
  obtain ⟨c, hc⟩ := hd
  have h := Nat.div_add_mod (x * 10 ^ k) y
  rw [hc] at h ⊢
  rw [Nat.mul_div_cancel_left _ (p10_pos z)]
  have e : x * 10 ^ k = 10 ^ z * (x * 10 ^ (k - z)) := by
    rw [← Nat.mul_assoc, Nat.mul_comm (10 ^ z) x, Nat.mul_assoc, ← Nat.pow_add]; congr 2; omega
  have e2 : y * (10 ^ z * c) = 10 ^ z * (c * y) := by
    rw [← Nat.mul_assoc, Nat.mul_comm y, Nat.mul_assoc, Nat.mul_comm y c]
  rw [e2] at h
  generalize x * 10 ^ k % y = r at *
  rw [e] at h
  have hle : c * y ≤ x * 10 ^ (k - z) := by
    refine Nat.le_of_mul_le_mul_left (c := 10 ^ z) ?_ (p10_pos z)
    omega
  refine ⟨?_, hle⟩
  obtain ⟨w, hw⟩ := Nat.exists_eq_add_of_le hle
  rw [hw, Nat.mul_add] at h
  rw [hw, Nat.add_sub_cancel_left]
  have : r = 10 ^ z * w := by omega
  rw [this, Nat.mul_div_cancel_left _ (p10_pos z)]
section MWh
variable {σ : St} {o : Nat} {X : Nat → Nat → Int32} {A : AS}
theorem t_mrc1 {x : Nat} {i1 i2 i3 i7 i8 i9 : Int32} {j5 j10 : Int64} (h : Rw X 2 x) : ∀ (k j : Nat) (m : Nat → Int32), sz x - j < k → j ≤ sz x → (∀ t, t < j → m (17000 * 0 + t) = X 5 (17000 * 2 + t)) → (∀ q, (q < 17000 * 0 ∨ 17000 * (0 + 1) ≤ q) → m q = X 5 q) → ∃ m', f_X6_remains_L67 k (mst σ o (ups X 5 m)) o i1 i2 i3 j5 i7 i8 i9 j10 (nI (sz x)) (nI j) = some ((), mst σ o (ups X 5 m'), 0, 0) ∧ (∀ t, t < sz x → m' (17000 * 0 + t) = X 5 (17000 * 2 + t)) ∧ (∀ q, (q < 17000 * 0 ∨ 17000 * (0 + 1) ≤ q) → m' q = X 5 q) := by
  have h1 := h.1
  intro k
  induction k with
  | zero => intro j m h; omega
  | succ k ih =>
    intro j m hk hj a1 a2
    show ∃ m', b_X6_remains_L67 (f_X6_remains_L67 k) _ o _ _ _ _ _ _ _ _ _ _ = _ ∧ _
    unfold b_X6_remains_L67
    by_cases he : j = sz x
    · refine ⟨m, ?_, fun t ht => a1 t (by omega), a2⟩
      exact q_t (nI_le (by omega) (by omega)) rfl
    · obtain ⟨m', b1, b2, b3⟩ := ih (j + 1) (upd m (17000 * 0 + j) (m (17000 * 2 + j))) (by omega) (by omega) (fun t ht => by
        by_cases htj : t = j
        · subst htj
          rw [pk_us, a2 _ (by omega)]
        · rw [pk_un (by omega)]; exact a1 t (by omega)) (fun q hq => by rw [pk_un (by omega)]; exact a2 q hq)
      refine ⟨m', ?_, b2, b3⟩
      refine q_f (nI_ge (by omega) (by omega)) ?_
      refine q_b1 m_g4 (q_b1 m_g4 ?_)
      refine q_b1 (ld5 (i := 17000 * 2 + j) (by rw [show (34000 : Int32) = nI 34000 from rfl, nI_add]) (by omega)) ?_
      refine q_b1 (st5 (i := 17000 * 0 + j) (by rw [Int32.zero_add]; congr 1; omega) (by omega)) ?_
      rw [ups_ups, ups_s]
      exact q_le (nI_1 j) b1
theorem t_mrc2 {x : Nat} {i1 i2 i3 i7 i8 i9 i12 : Int32} {j5 j10 : Int64} (h : Rw X 2 x) : ∀ (k j : Nat) (m : Nat → Int32), sz x - j < k → j ≤ sz x → (∀ t, t < j → m (17000 * 1 + t) = X 5 (17000 * 2 + t)) → (∀ q, (q < 17000 * 1 ∨ 17000 * (1 + 1) ≤ q) → m q = X 5 q) → ∃ m', f_X6_remains_L122 k (mst σ o (ups X 5 m)) o i1 i2 i3 j5 i7 i8 i9 j10 i12 (nI (sz x)) (nI j) = some ((), mst σ o (ups X 5 m'), 0, 0) ∧ (∀ t, t < sz x → m' (17000 * 1 + t) = X 5 (17000 * 2 + t)) ∧ (∀ q, (q < 17000 * 1 ∨ 17000 * (1 + 1) ≤ q) → m' q = X 5 q) := by
  have h1 := h.1
  intro k
  induction k with
  | zero => intro j m h; omega
  | succ k ih =>
    intro j m hk hj a1 a2
    show ∃ m', b_X6_remains_L122 (f_X6_remains_L122 k) _ o _ _ _ _ _ _ _ _ _ _ _ = _ ∧ _
    unfold b_X6_remains_L122
    by_cases he : j = sz x
    · refine ⟨m, ?_, fun t ht => a1 t (by omega), a2⟩
      exact q_t (nI_le (by omega) (by omega)) rfl
    · obtain ⟨m', b1, b2, b3⟩ := ih (j + 1) (upd m (17000 * 1 + j) (m (17000 * 2 + j))) (by omega) (by omega) (fun t ht => by
        by_cases htj : t = j
        · subst htj
          rw [pk_us, a2 _ (by omega)]
        · rw [pk_un (by omega)]; exact a1 t (by omega)) (fun q hq => by rw [pk_un (by omega)]; exact a2 q hq)
      refine ⟨m', ?_, b2, b3⟩
      refine q_f (nI_ge (by omega) (by omega)) ?_
      refine q_b1 m_g4 (q_b1 m_g4 ?_)
      refine q_b1 (ld5 (i := 17000 * 2 + j) (by rw [show (34000 : Int32) = nI 34000 from rfl, nI_add]) (by omega)) ?_
      refine q_b1 (st5 (i := 17000 * 1 + j) (by rw [show (17000 : Int32) = nI 17000 from rfl, nI_add]) (by omega)) ?_
      rw [ups_ups, ups_s]
      exact q_le (nI_1 j) b1
theorem t_mrc3 {x : Nat} {i1 i2 i3 i7 i8 i9 : Int32} {j5 j10 : Int64} (h : Rw X 0 x) : ∀ (k j : Nat) (m : Nat → Int32), sz x - j < k → j ≤ sz x → (∀ t, t < j → m (17000 * 2 + t) = X 5 (17000 * 0 + t)) → (∀ q, (q < 17000 * 2 ∨ 17000 * (2 + 1) ≤ q) → m q = X 5 q) → ∃ m', f_X6_remains_L167 k (mst σ o (ups X 5 m)) o i1 i2 i3 j5 i7 i8 i9 j10 (nI (sz x)) (nI j) = some ((), mst σ o (ups X 5 m'), 0, 0) ∧ (∀ t, t < sz x → m' (17000 * 2 + t) = X 5 (17000 * 0 + t)) ∧ (∀ q, (q < 17000 * 2 ∨ 17000 * (2 + 1) ≤ q) → m' q = X 5 q) := by
  have h1 := h.1
  intro k
  induction k with
  | zero => intro j m h; omega
  | succ k ih =>
    intro j m hk hj a1 a2
    show ∃ m', b_X6_remains_L167 (f_X6_remains_L167 k) _ o _ _ _ _ _ _ _ _ _ _ = _ ∧ _
    unfold b_X6_remains_L167
    by_cases he : j = sz x
    · refine ⟨m, ?_, fun t ht => a1 t (by omega), a2⟩
      exact q_t (nI_le (by omega) (by omega)) rfl
    · obtain ⟨m', b1, b2, b3⟩ := ih (j + 1) (upd m (17000 * 2 + j) (m (17000 * 0 + j))) (by omega) (by omega) (fun t ht => by
        by_cases htj : t = j
        · subst htj
          rw [pk_us, a2 _ (by omega)]
        · rw [pk_un (by omega)]; exact a1 t (by omega)) (fun q hq => by rw [pk_un (by omega)]; exact a2 q hq)
      refine ⟨m', ?_, b2, b3⟩
      refine q_f (nI_ge (by omega) (by omega)) ?_
      refine q_b1 m_g4 (q_b1 m_g4 ?_)
      refine q_b1 (ld5 (i := 17000 * 0 + j) (by rw [Int32.zero_add]; congr 1; omega) (by omega)) ?_
      refine q_b1 (st5 (i := 17000 * 2 + j) (by rw [show (34000 : Int32) = nI 34000 from rfl, nI_add]) (by omega)) ?_
      rw [ups_ups, ups_s]
      exact q_le (nI_1 j) b1
theorem t_mremains {i l j up Q y : Nat} {nq nr : Bool} {s : Int} {i1 i2 i3 i4 i7 i8 i9 : Int32} {j5 : Int64} (hi : i < 8) (hl : l < 8) (hil : i ≠ l) (hj : j < 8) (e1 : i1 = nI i) (e2 : i2 = nI l) (e3 : i3 = nI j) (e5 : j5 = lZ s) (s1 : -1000000000000 ≤ s) (s2 : s < 1000000000000) (e7 : i7 = nI up) (hup : up ≤ 12500) (h : RG X A) (r1 : Rw X 1 y) (r2 : Rw X 2 Q) (hy : sz y ≤ 4096) (hle : Q * y ≤ A.1 j * 10 ^ up) (e8 : 0 < Q → i8 = if nq then -1 else 1) (e9 : i9 = sg (A.1 j) nr) : Mo σ o X (f_X6_remains (mst σ o X) o i1 i2 i3 i4 j5 i7 i8 i9) (wkA i l Q nq s (A.1 j * 10 ^ up - Q * y) nr (A.2.2 j + up) A) := by
  subst e1 e2 e3 e5 e7 e9
  have hF := FU_ge
  obtain ⟨c0, c1, c2, c3⟩ := h.1 j hj
  unfold f_X6_remains
  refine mo_ob ?_
  have pre : ldI (mst σ o X) (o + 6) 2 = some (nI (sz Q)) := (ld6 (i := 2) rfl (by decide)).trans (by rw [r2.2.1])
  have q1 := r2.1
  refine mo_b1 m_g5 (mo_b1 pre ?_)
  by_cases hQ : sz Q ≤ 4096
  · refine mo_f (nI_nlt (a := 4096) hQ (by decide)) ?_
    by_cases hs1 : s < -2147483648
    · refine mo_R (if_neg (fun w => by omega)) (mo_t ((lZ_ltm (by omega) (by omega)).mpr hs1) (Mo.no h rfl))
    · refine mo_f (fun w => hs1 ((lZ_ltm (by omega) (by omega)).mp w)) ?_
      by_cases hs2 : s ≤ 2147483647
      · refine mo_t ((lZ_le (b := 2147483647) (by omega) (by omega) (by decide) (by decide)).mpr hs2) ?_
        refine mo_b1 m_g3 (mo_b1 (ld4 rfl hj) (mo_le (y := lZ (A.2.2 j + up)) (by rw [scl_r h hj, nI_l (by omega), lZ_n, lZ_add]) ?_))
        by_cases hs3 : A.2.2 j + up ≤ 2147483647
        · refine mo_t ((lZ_le (b := 2147483647) (by omega) (by omega) (by decide) (by decide)).mpr hs3) ?_
          refine mo_b1 m_g5 (mo_b1 pre ?_)
          obtain ⟨m1, a1, a2, a3⟩ := t_mrc1 (σ := σ) (o := o) (i1 := nI i) (i2 := nI l) (i3 := nI j) (j5 := lZ s) (i7 := nI up) (i8 := i8) (i9 := sg (A.1 j) nr) (j10 := lZ (A.2.2 j + up)) r2 FU 0 (X 5) (by omega) (Nat.zero_le _) (fun t ht => by omega) (fun _ _ => rfl)
          rw [ups_self] at a1
          obtain ⟨b1, b2⟩ := Rw.cp r2 a2 a3
          refine mo_bd a1 (mo_b1 m_g5 (mo_b1 (st6 (i := 0) rfl (by decide)) ?_))
          obtain ⟨X1, hX1⟩ : ∃ X1, ups (ups X 5 m1) 6 (upd (ups X 5 m1 6) 0 (nI (sz Q))) = X1 := ⟨_, rfl⟩
          rw [hX1] at b1 b2 ⊢
          obtain ⟨X2, d1, d2, d3, d4⟩ := t_mproduct (σ := σ) (o := o) b1 (r1.ot b2 (by decide) (by decide)) (by omega)
          refine mo_bd d1 ?_
          have pre2 : ldI (mst σ o X2) (o + 6) 2 = some (nI (sz (Q * y))) := (ld6 (i := 2) rfl (by decide)).trans (by rw [d2.2.1])
          have q2 := d2.1
          refine mo_b1 m_g5 (mo_b1 pre2 ?_)
          obtain ⟨m3, f1, f2, f3⟩ := t_mrc2 (σ := σ) (o := o) (i1 := nI i) (i2 := nI l) (i3 := nI j) (j5 := lZ s) (i7 := nI up) (i8 := i8) (i9 := sg (A.1 j) nr) (j10 := lZ (A.2.2 j + up)) (i12 := nI (sz Q)) d2 FU 0 (X2 5) (by omega) (Nat.zero_le _) (fun t ht => by omega) (fun _ _ => rfl)
          rw [ups_self] at f1
          obtain ⟨g1, g2⟩ := Rw.cp d2 f2 f3
          refine mo_bd f1 (mo_b1 m_g5 (mo_b1 (st6 (i := 1) rfl (by decide)) ?_))
          obtain ⟨X3, hX3⟩ : ∃ X3, ups (ups X2 5 m3) 6 (upd (ups X2 5 m3 6) 1 (nI (sz (Q * y)))) = X3 := ⟨_, rfl⟩
          rw [hX3] at g1 g2 ⊢
          have r30 : Rw X3 0 Q := (b1.ot d3 (by decide) (by decide)).ot g2 (by decide) (by decide)
          obtain ⟨m4, k1, k2, k3⟩ := t_mrc3 (σ := σ) (o := o) (i1 := nI i) (i2 := nI l) (i3 := nI j) (j5 := lZ s) (i7 := nI up) (i8 := i8) (i9 := sg (A.1 j) nr) (j10 := lZ (A.2.2 j + up)) r30 FU 0 (X3 5) (by omega) (Nat.zero_le _) (fun t ht => by omega) (fun _ _ => rfl)
          rw [ups_self] at k1
          obtain ⟨n1, n2⟩ := Rw.cp r30 k2 k3
          refine mo_bd k1 (mo_b1 m_g5 (mo_b1 (st6 (i := 2) rfl (by decide)) ?_))
          obtain ⟨X4, hX4⟩ : ∃ X4, ups (ups X3 5 m4) 6 (upd (ups X3 5 m4 6) 2 (nI (sz Q))) = X4 := ⟨_, rfl⟩
          rw [hX4] at n1 n2 ⊢
          have h4 := (((h.ot b2).ot d3).ot g2).ot n2
          have kt4 := ((b2.kt.trans d3.kt).trans g2.kt).trans n2.kt
          obtain ⟨X5, u1, u2, u3, u4⟩ := t_mload (σ := σ) (o := o) (r := 0) (u := 0) (by decide) hj rfl rfl h4
          refine mo_bd u1 ?_
          obtain ⟨X6, v1, v2, v3, v4⟩ := t_mraise (σ := σ) (o := o) (r := 0) (y := 0) (z := nI up) (k := up) (by decide) u2 rfl rfl (by omega)
          refine mo_bd v1 ?_
          obtain ⟨X7, w1, w2, w3, w4⟩ := t_mless (σ := σ) (o := o) (r := 0) (s := 1) (u := 0) (v := 1) (by decide) (by decide) (by decide) v2 (((g1.ot n2 (by decide) (by decide)).ot u3 (by decide) (by decide)).ot v3 (by decide) (by decide)) rfl rfl hle
          refine mo_bd w1 ?_
          have h7 := ((h4.ot u3).ot v3).ot w3
          have kt7 := ((kt4.trans u3.kt).trans v3.kt).trans w3.kt
          have r72 : Rw X7 2 Q := ((n1.ot u3 (by decide) (by decide)).ot v3 (by decide) (by decide)).ot w3 (by decide) (by decide)
          have pre7 : ldI (mst σ o X7) (o + 6) 0 = some (nI (sz (A.1 j * 10 ^ up - Q * y))) := (ld6 (i := 0) rfl (by decide)).trans (by rw [w2.2.1])
          have q7 := w2.1
          refine mo_b1 m_g5 (mo_b1 pre7 ?_)
          by_cases hR : sz (A.1 j * 10 ^ up - Q * y) ≤ 4096
          · refine mo_t (nI_le (b := 4096) hR (by decide)) ?_
            obtain ⟨X8, x1, x2, x3, x5, x6⟩ := t_mstore (σ := σ) (o := o) (r := 0) (v := 0) (n := nr) (s := A.2.2 j + up) (z := sg (A.1 j) nr) (w := lZ (A.2.2 j + up)) (by decide) hl rfl rfl h7 w2 (fun g => by
              rw [sg_pos g, sg_pos (Nat.pos_of_ne_zero fun z => by rw [z, Nat.zero_mul, Nat.zero_sub] at g; omega)]) rfl (by omega) (by omega)
            have ek : kpA l (A.1 j * 10 ^ up - Q * y) nr (A.2.2 j + up) A = (1, setA A l (A.1 j * 10 ^ up - Q * y) nr (A.2.2 j + up)) := if_pos ⟨hR, by omega, by omega⟩
            rw [ek] at x1 x2
            have r82 : Rw X8 2 Q := ⟨r72.1, by rw [x6]; exact r72.2.1, fun t ht => by rw [x5]; exact r72.2.2 t ht⟩
            obtain ⟨X9, y1, y2, y3, -⟩ := t_mstore (σ := σ) (o := o) (r := 2) (v := 2) (n := nq) (s := s) (z := i8) (w := lZ s) (by decide) hi rfl rfl x2 r82 (fun g => (e8 g).trans (sg_pos g).symm) rfl (by omega) (by omega)
            have ek2 : kpA i Q nq s (setA A l (A.1 j * 10 ^ up - Q * y) nr (A.2.2 j + up)) = (1, setA (setA A l (A.1 j * 10 ^ up - Q * y) nr (A.2.2 j + up)) i Q nq s) := if_pos ⟨hQ, by omega, by omega⟩
            rw [ek2, setA_sw hil] at y1 y2
            refine mo_R (if_pos ⟨⟨hR, by omega, by omega⟩, hQ, by omega, by omega⟩) ⟨X9, ?_, y2, (kt7.trans x3).trans y3⟩
            refine q_bd0 x1 ?_
            refine q_bd0 y1 ?_
            refine q_f (show ¬ (1 : Int32) = 0 by decide) ?_
            exact q_f (show ¬ (1 : Int32) = 0 by decide) rfl
          · refine mo_R (if_neg (fun w => hR w.1.1)) (mo_f (nI_ge (a := 4096) (by omega) (by omega)) ⟨X7, rfl, h7, kt7⟩)
        · refine mo_R (if_neg (fun w => by omega)) (mo_f (fun w => hs3 ((lZ_le (b := 2147483647) (by omega) (by omega) (by decide) (by decide)).mp w)) (Mo.no h rfl))
      · refine mo_R (if_neg (fun w => by omega)) (mo_f (fun w => hs2 ((lZ_le (b := 2147483647) (by omega) (by omega) (by decide) (by decide)).mp w)) (Mo.no h rfl))
  · exact mo_R (wk_big hQ) (mo_t (nI_lt (a := 4096) (by omega) (by omega)) (Mo.no h rfl))
theorem t_mwh_loop {x y T : Nat} {i1 i2 i3 i4 i5 i6 : Int32} {j7 : Int64} (hj7 : j7 = lZ (-T)) (hT : T < 10000000000) (hx : sz x ≤ 4096) (hy : 0 < y) (b1 : sz y ≤ 4096) : ∀ (f k : Nat) (X : Nat → Nat → Int32), 12501 - k < f → k ≤ T → k ≤ 12500 → (∀ j, j < k → x * 10 ^ j % y ≠ 0) → Rw X 1 y → Rw X 2 (x * 10 ^ k / y) → Rw X 3 (x * 10 ^ k % y) → ∃ k' X', f_X6_whole_L203 f (mst σ o X) o i1 i2 i3 i4 i5 i6 j7 (nI k) = some (nI k', mst σ o X', 0, 0) ∧ k' ≤ 12500 ∧ k' ≤ T ∧ Rw X' 2 (x * 10 ^ k' / y) ∧ Rw X' 3 (x * 10 ^ k' % y) ∧ Ot (fun q => q = 2 ∨ q = 3) X X' ∧ (∀ j, j < k' → x * 10 ^ j % y ≠ 0) ∧ (x * 10 ^ k' % y = 0 ∨ T ≤ k' ∨ 12500 ≤ k') := by
  intro f
  induction f with
  | zero => intro k X h; omega
  | succ f ih =>
    intro k X hf hkT hk hm r1 r2 r3
    show ∃ k' X', b_X6_whole_L203 (f_X6_whole_L203 f) _ o _ _ _ _ _ _ _ _ = _ ∧ _
    unfold b_X6_whole_L203
    have pre3 : ldI (mst σ o X) (o + 6) 3 = some (nI (sz (x * 10 ^ k % y))) := (ld6 (i := 3) rfl (by decide)).trans (by rw [r3.2.1])
    have s2 := r2.1
    have s3 := r3.1
    by_cases h3 : x * 10 ^ k % y = 0
    · refine ⟨k, X, ?_, hk, hkT, r2, r3, Ot.rf, hm, Or.inl h3⟩
      refine q_b1 m_g5 (q_b1 pre3 ?_)
      exact q_t (by rw [h3]; decide) rfl
    · have h3' := sz_pos (show 0 < x * 10 ^ k % y by omega)
      have e7 : -j7 = lZ T := by rw [hj7, lZ_neg]; congr 1; omega
      have ek : (nI k).toInt64 = lZ k := by rw [nI_l (by omega), lZ_n]
      rw [e7, ek]
      by_cases h8 : T ≤ k
      · refine ⟨k, X, ?_, hk, hkT, r2, r3, Ot.rf, hm, Or.inr (Or.inl h8)⟩
        refine q_b1 m_g5 (q_b1 pre3 ?_)
        refine q_f (nI_nle h3' (by omega)) ?_
        exact q_t ((lZ_le (by omega) (by omega) (by omega) (by omega)).mpr (by omega)) rfl
      · have hn8 : ¬ lZ T ≤ lZ k := fun w => by have := (lZ_le (by omega) (by omega) (by omega) (by omega)).mp w; omega
        by_cases h4 : 12500 ≤ k
        · refine ⟨k, X, ?_, hk, hkT, r2, r3, Ot.rf, hm, Or.inr (Or.inr h4)⟩
          refine q_b1 m_g5 (q_b1 pre3 ?_)
          refine q_f (nI_nle h3' (by omega)) ?_
          refine q_f hn8 ?_
          exact q_t (nI_le (a := 12500) h4 (by omega)) rfl
        · have sq : sz (x * 10 ^ k / y) ≤ 16980 := by
            refine sz_le.mpr (Nat.lt_of_le_of_lt (Nat.div_le_self _ _) ?_)
            have := sz_le.mp hx
            have e : 10 ^ 16980 = 10 ^ (16980 - k) * 10 ^ k := by rw [← Nat.pow_add]; congr 1; omega
            rw [e]
            exact Nat.mul_lt_mul_of_pos_right (Nat.lt_of_lt_of_le this (p10_le (by omega))) (p10_pos k)
          obtain ⟨X1, p1, p2, p3, p4, p5⟩ := t_mdig (σ := σ) (o := o) hy r1 r2 r3 b1 sq
          obtain ⟨k', X', q1, q2, q3, q4, q5, q6, q7, q8⟩ := ih (k + 1) X1 (by omega) (by omega) (by omega) (fun j hj => by
            by_cases hjk : j = k
            · subst hjk; exact h3
            · exact hm j (by omega)) (r1.ot p3 (by decide) (by decide)) p1 p2
          refine ⟨k', X', ?_, q2, q3, q4, q5, p3.trans q6 (fun _ w => w), q7, q8⟩
          refine q_b1 m_g5 (q_b1 pre3 ?_)
          refine q_f (nI_nle h3' (by omega)) ?_
          refine q_f hn8 ?_
          refine q_f (nI_ge (b := 12500) (by omega) (by decide)) ?_
          exact p5 (fun z14 => lt (nI k + 1) fun x15 => f_X6_whole_L203 f z14 o i1 i2 i3 i4 i5 i6 j7 x15) _ _ (q_le (nI_1 k) q1)
end MWh
