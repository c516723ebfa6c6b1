/-! ===== the registers: sizes, signs, scales ===== -/
abbrev AS : Type := (Nat → Nat) × (Nat → Bool) × (Nat → Int)
def upA {α : Type} (f : Nat → α) (d : Nat) (v : α) : Nat → α := fun j => if j = d then v else f j
theorem upA_s {α : Type} {f : Nat → α} {d : Nat} {v : α} : upA f d v d = v := if_pos rfl
theorem upA_n {α : Type} {f : Nat → α} {d j : Nat} {v : α} (h : j ≠ d) : upA f d v j = f j := if_neg h
def inS (s : Int) : Prop := -2147483648 ≤ s ∧ s < 2147483648
def setA (A : AS) (d m : Nat) (n : Bool) (s : Int) : AS := (upA A.1 d m, upA A.2.1 d (n && decide (0 < m)), upA A.2.2 d s)
/-- a result is kept where a register can hold it -/
def kpA (d : Nat) (m : Nat) (n : Bool) (s : Int) (A : AS) : Int32 × AS := if sz m ≤ 4096 ∧ -2147483648 ≤ s ∧ s < 2147483648 then (1, setA A d m n s) else (0, A)
def okA (A : AS) : Prop := ∀ i, i < 8 → sz (A.1 i) ≤ 4096 ∧ -2147483648 ≤ A.2.2 i ∧ A.2.2 i < 2147483648 ∧ (A.2.1 i = true → 0 < A.1 i)
theorem kpA_ok {d m : Nat} {n : Bool} {s : Int} {A : AS} (h : okA A) : okA (kpA d m n s A).2 := by
  unfold kpA
  by_cases hc : sz m ≤ 4096 ∧ -2147483648 ≤ s ∧ s < 2147483648
  · rw [if_pos hc]
    intro i hi
    show sz (upA A.1 d m i) ≤ 4096 ∧ -2147483648 ≤ upA A.2.2 d s i ∧ upA A.2.2 d s i < 2147483648 ∧ (upA A.2.1 d (n && decide (0 < m)) i = true → 0 < upA A.1 d m i)
    by_cases hd : i = d
    · subst hd
      rw [upA_s, upA_s, upA_s]
      refine ⟨hc.1, hc.2.1, hc.2.2, fun w => ?_⟩
      rw [Bool.and_eq_true] at w
      exact of_decide_eq_true w.2
    · rw [upA_n hd, upA_n hd, upA_n hd]
      exact h i hi
  · rw [if_neg hc]; exact h
/-- the sign of a size -/
def sg (m : Nat) (n : Bool) : Int32 := if m = 0 then 0 else if n then -1 else 1
/-- the reference's registers -/
def RG (X : Nat → Nat → Int32) (A : AS) : Prop := okA A ∧ ∀ i, i < 8 → X 2 i = nI (sz (A.1 i)) ∧ (∀ j, j < sz (A.1 i) → X 1 (4096 * i + j) = nI (dg (A.1 i) j)) ∧ X 3 i = sg (A.1 i) (A.2.1 i) ∧ X 4 i = iZ (A.2.2 i)
/-- the reference's texts stay -/
def Kt (X X' : Nat → Nat → Int32) : Prop := X' 7 = X 7 ∧ X' 8 = X 8 ∧ X' 0 1 = X 0 1 ∧ X' 0 2 = X 0 2
section RGs
variable {σ : St} {o r : Nat} {X X1 X2 : Nat → Nat → Int32} {A : AS} {S : Nat → Prop}
theorem Kt.rf : Kt X X := ⟨rfl, rfl, rfl, rfl⟩
theorem Kt.trans (h1 : Kt X X1) (h2 : Kt X1 X2) : Kt X X2 := ⟨h2.1.trans h1.1, h2.2.1.trans h1.2.1, h2.2.2.1.trans h1.2.2.1, h2.2.2.2.trans h1.2.2.2⟩
theorem Ot.kt (h : Ot S X X1) : Kt X X1 := ⟨h.1 7 (by decide) (by decide) (by decide), h.1 8 (by decide) (by decide) (by decide), h.2.1 1 (by decide), h.2.1 2 (by decide)⟩
theorem RG.ot (h : RG X A) (h1 : Ot S X X1) : RG X1 A := by
  refine ⟨h.1, fun i hi => ?_⟩
  rw [h1.1 1 (by decide) (by decide) (by decide), h1.1 2 (by decide) (by decide) (by decide), h1.1 3 (by decide) (by decide) (by decide), h1.1 4 (by decide) (by decide) (by decide)]
  exact h.2 i hi
theorem nI_q {i j : Nat} : (4096 : Int32) * nI i + nI j = nI (4096 * i + j) := by rw [show (4096 : Int32) = nI 4096 from rfl, pk_mul, nI_add]
theorem ld1 {i : Nat} {x : Int32} (hx : x = nI i) (hi : i < 32768) : ldI (mst σ o X) (o + 1) x = some (X 1 i) := ldM (k := 1) (by decide) (by decide) hx hi
theorem ld2 {i : Nat} {x : Int32} (hx : x = nI i) (hi : i < 8) : ldI (mst σ o X) (o + 2) x = some (X 2 i) := ldM (k := 2) (by decide) (by decide) hx hi
theorem ld3 {i : Nat} {x : Int32} (hx : x = nI i) (hi : i < 8) : ldI (mst σ o X) (o + 3) x = some (X 3 i) := ldM (k := 3) (by decide) (by decide) hx hi
theorem ld4 {i : Nat} {x : Int32} (hx : x = nI i) (hi : i < 8) : ldI (mst σ o X) (o + 4) x = some (X 4 i) := ldM (k := 4) (by decide) (by decide) hx hi
theorem st1 {i : Nat} {x v : Int32} (hx : x = nI i) (hi : i < 32768) : stI (mst σ o X) (o + 1) x v = some (mst σ o (ups X 1 (upd (X 1) i v))) := stM (k := 1) (by decide) (by decide) hx hi
theorem st2 {i : Nat} {x v : Int32} (hx : x = nI i) (hi : i < 8) : stI (mst σ o X) (o + 2) x v = some (mst σ o (ups X 2 (upd (X 2) i v))) := stM (k := 2) (by decide) (by decide) hx hi
theorem st3 {i : Nat} {x v : Int32} (hx : x = nI i) (hi : i < 8) : stI (mst σ o X) (o + 3) x v = some (mst σ o (ups X 3 (upd (X 3) i v))) := stM (k := 3) (by decide) (by decide) hx hi
theorem st4 {i : Nat} {x v : Int32} (hx : x = nI i) (hi : i < 8) : stI (mst σ o X) (o + 4) x v = some (mst σ o (ups X 4 (upd (X 4) i v))) := stM (k := 4) (by decide) (by decide) hx hi
theorem is_y {i : Nat} (h : i < 8) : f_X6_is σ (nI i) = some 1 := by
  unfold f_X6_is
  refine q_f (nI_pos (by omega)) ?_
  refine q_f (nI_ge (b := 8) h (by decide)) ?_
  rfl
theorem is_n {x : Int32} (h : ¬ (0 ≤ x ∧ x < 8)) : f_X6_is σ x = some 0 := by
  unfold f_X6_is
  by_cases h1 : x < 0
  · exact q_t h1 rfl
  · refine q_f h1 (q_t ?_ rfl)
    exact Int32.not_lt.mp fun w => h ⟨Int32.not_lt.mp h1, w⟩
theorem is_or (x : Int32) : (∃ i, i < 8 ∧ x = nI i) ∨ (f_X6_is σ x = some 0 ∧ ¬ (0 ≤ x ∧ x < 8)) := by
  by_cases h : 0 ≤ x ∧ x < 8
  · obtain ⟨j, h1, rfl⟩ := nI_of (x := x) (Int32.not_lt.mpr h.1)
    exact Or.inl ⟨j, (nI_ltI (b := 8) h1 (by decide)).mp h.2, rfl⟩
  · exact Or.inr ⟨is_n h, h⟩
theorem t_ml_loop {i : Nat} (hr : r < 4) (hi : i < 8) (h : RG X A) : ∀ (k j : Nat) (m : Nat → Int32), sz (A.1 i) - j < k → j ≤ sz (A.1 i) → (∀ t, t < j → m (17000 * r + t) = nI (dg (A.1 i) t)) → (∀ q, (q < 17000 * r ∨ 17000 * (r + 1) ≤ q) → m q = X 5 q) → ∃ m', f_X6_load_L2 k (mst σ o (ups X 5 m)) o (nI r) (nI i) (nI j) = some ((), mst σ o (ups X 5 m'), 0, 0) ∧ (∀ t, t < sz (A.1 i) → m' (17000 * r + t) = nI (dg (A.1 i) t)) ∧ (∀ q, (q < 17000 * r ∨ 17000 * (r + 1) ≤ q) → m' q = X 5 q) := by
  obtain ⟨h1, h2, h3, h4⟩ := h.2 i hi
  have hb := (h.1 i hi).1
  intro k
  induction k with
  | zero => intro j m h; omega
  | succ k ih =>
    intro j m hk hj a1 a2
    show ∃ m', b_X6_load_L2 (f_X6_load_L2 k) _ o _ _ _ = _ ∧ _
    unfold b_X6_load_L2
    have pre : ldI (mst σ o (ups X 5 m)) (o + 2) (nI i) = some (nI (sz (A.1 i))) := by rw [ld2 rfl hi, ups_n (by decide), h1]
    by_cases he : j = sz (A.1 i)
    · refine ⟨m, ?_, fun t ht => a1 t (by omega), a2⟩
      refine q_b1 m_g1 (q_b1 pre ?_)
      exact q_t (nI_le (by omega) (by omega)) rfl
    · obtain ⟨m', b1, b2, b3⟩ := ih (j + 1) (upd m (17000 * r + j) (nI (dg (A.1 i) j))) (by omega) (by omega) (fun t ht => by
        by_cases htj : t = j
        · subst htj; exact pk_us
        · rw [pk_un (by omega)]; exact a1 t (by omega)) (fun q hq => by rw [pk_un (by omega)]; exact a2 q hq)
      refine ⟨m', ?_, b2, b3⟩
      refine q_b1 m_g1 (q_b1 pre ?_)
      refine q_f (nI_ge (by omega) (by omega)) ?_
      refine q_b1 m_g4 (q_b1 m_g0 ?_)
      refine q_b1 (ld1 nI_q (by omega)) ?_
      refine q_b1 (st5 nI_r (by omega)) ?_
      rw [ups_ups, ups_s, ups_n (by decide), h2 j (by omega)]
      exact q_le (nI_1 j) b1
theorem t_mload {i : Nat} {u v : Int32} (hr : r < 4) (hi : i < 8) (hu : u = nI r) (hv : v = nI i) (h : RG X A) : ∃ X', f_X6_load (mst σ o X) o u v = some ((), mst σ o X', 0, 0) ∧ Rw X' r (A.1 i) ∧ Ot (fun q => q = r) X X' ∧ X' 0 = X 0 := by
  subst hu hv
  have hF := FU_ge
  have hb := (h.1 i hi).1
  obtain ⟨m', b1, b2, b3⟩ := t_ml_loop (σ := σ) (o := o) hr hi h FU 0 (X 5) (by omega) (Nat.zero_le _) (fun t ht => by omega) (fun _ _ => rfl)
  rw [ups_self] at b1
  have hO : Ot (fun q => q = r) X (ups X 5 m') := Ot.m5 b3
  have hO2 := Ot.m6 (X := ups X 5 m') (r := r) (v := nI (sz (A.1 i)))
  refine ⟨_, ?_, ⟨by omega, by rw [ups_s, pk_us], fun j hj => by rw [ups_n (by decide), ups_s]; exact b2 j hj⟩, hO.trans hO2 (fun _ w => w), by rw [ups_n (by decide), ups_n (by decide)]⟩
  unfold f_X6_load
  refine q_ob m_o ?_
  refine q_bd0 b1 ?_
  refine q_b1 m_g5 (q_b1 m_g1 ?_)
  refine q_b1 (ld2 rfl hi) ?_
  rw [ups_n (by decide), (h.2 i hi).1]
  exact q_b1 (st6 rfl hr) rfl
theorem lZ_ltm {s : Int} (s1 : -9223372036854775808 ≤ s) (s2 : s < 9223372036854775808) : lZ s < -2147483648 ↔ s < -2147483648 := by
  rw [show (-2147483648 : Int64) = lZ (-2147483648) by decide]
  exact lZ_lt s1 s2 (by decide) (by decide)
theorem t_ms_loop {d m : Nat} {z : Int32} {s : Int64} (hr : r < 4) (hd : d < 8) (hR : Rw X r m) (hm : sz m ≤ 4096) : ∀ (k j : Nat) (f : Nat → Int32), sz m - j < k → j ≤ sz m → (∀ t, t < j → f (4096 * d + t) = nI (dg m t)) → (∀ q, (q < 4096 * d ∨ 4096 * (d + 1) ≤ q) → f q = X 1 q) → ∃ f', f_X6_store_L47 k (mst σ o (ups X 1 f)) o (nI d) (nI r) z s (nI j) = some ((), mst σ o (ups X 1 f'), 0, 0) ∧ (∀ t, t < sz m → f' (4096 * d + t) = nI (dg m t)) ∧ (∀ q, (q < 4096 * d ∨ 4096 * (d + 1) ≤ q) → f' q = X 1 q) := by
  obtain ⟨h1, h2, h3⟩ := hR
  intro k
  induction k with
  | zero => intro j f h; omega
  | succ k ih =>
    intro j f hk hj a1 a2
    show ∃ f', b_X6_store_L47 (f_X6_store_L47 k) _ o _ _ _ _ _ = _ ∧ _
    unfold b_X6_store_L47
    have pre : ldI (mst σ o (ups X 1 f)) (o + 6) (nI r) = some (nI (sz m)) := by rw [ld6 rfl hr, ups_n (by decide), h2]
    by_cases he : j = sz m
    · refine ⟨f, ?_, fun t ht => a1 t (by omega), a2⟩
      refine q_b1 m_g5 (q_b1 pre ?_)
      exact q_t (nI_le (by omega) (by omega)) rfl
    · obtain ⟨f', b1, b2, b3⟩ := ih (j + 1) (upd f (4096 * d + j) (nI (dg m j))) (by omega) (by omega) (fun t ht => by
        by_cases htj : t = j
        · subst htj; exact pk_us
        · rw [pk_un (by omega)]; exact a1 t (by omega)) (fun q hq => by rw [pk_un (by omega)]; exact a2 q hq)
      refine ⟨f', ?_, b2, b3⟩
      refine q_b1 m_g5 (q_b1 pre ?_)
      refine q_f (nI_ge (by omega) (by omega)) ?_
      refine q_b1 m_g0 (q_b1 m_g4 ?_)
      refine q_b1 (ld5 nI_r (by omega)) ?_
      refine q_b1 (st1 nI_q (by omega)) ?_
      rw [ups_ups, ups_s, ups_n (by decide), h3 j (by omega)]
      exact q_le (nI_1 j) b1
/-- store -/
theorem t_mstore {d m : Nat} {n : Bool} {s : Int} {u v z : Int32} {w : Int64} (hr : r < 4) (hd : d < 8) (hu : u = nI d) (hv : v = nI r) (h : RG X A) (hR : Rw X r m) (hz : 0 < m → z = sg m n) (hw : w = lZ s) (s1 : -9223372036854775808 ≤ s) (s2 : s < 9223372036854775808) : ∃ X', f_X6_store (mst σ o X) o u v z w = some ((kpA d m n s A).1, mst σ o X', 0, 0) ∧ RG X' (kpA d m n s A).2 ∧ Kt X X' ∧ X' 5 = X 5 ∧ X' 6 = X 6 := by
  subst hu hv hw
  have hF := FU_ge
  obtain ⟨r1, r2, r3⟩ := id hR
  have pre : ∀ Y, Y 6 = X 6 → ldI (mst σ o Y) (o + 6) (nI r) = some (nI (sz m)) := fun Y hY => by rw [ld6 rfl hr, hY, r2]
  by_cases hc : sz m ≤ 4096 ∧ -2147483648 ≤ s ∧ s < 2147483648
  · have ek : kpA d m n s A = (1, setA A d m n s) := if_pos hc
    rw [ek]
    obtain ⟨f', b1, b2, b3⟩ := t_ms_loop (σ := σ) (o := o) (X := ups X 2 (upd (X 2) d (nI (sz m)))) (d := d) (m := m) (z := z) (s := lZ s) hr hd (r := r) (by
        refine ⟨r1, by rw [ups_n (by decide)]; exact r2, fun j hj => by rw [ups_n (by decide)]; exact r3 j hj⟩) hc.1 FU 0 (X 1) (by omega) (Nat.zero_le _) (fun t ht => by omega) (fun _ _ => by rw [ups_n (by decide)])
    have e1 : ups (ups X 2 (upd (X 2) d (nI (sz m)))) 1 (X 1) = ups X 2 (upd (X 2) d (nI (sz m))) := by
      have := ups_self (X := ups X 2 (upd (X 2) d (nI (sz m)))) (k := 1)
      rwa [show ups X 2 (upd (X 2) d (nI (sz m))) 1 = X 1 from ups_n (by decide)] at this
    rw [e1] at b1
    obtain ⟨Y, hY⟩ : ∃ Y, ups (ups X 2 (upd (X 2) d (nI (sz m)))) 1 f' = Y := ⟨_, rfl⟩
    rw [hY] at b1
    have hY6 : Y 6 = X 6 := by rw [← hY, ups_n (by decide), ups_n (by decide)]
    have y1 : Y 1 = f' := by rw [← hY, ups_s]
    have y2 : Y 2 = upd (X 2) d (nI (sz m)) := by rw [← hY, ups_n (by decide), ups_s]
    have yk : ∀ k, k ≠ 1 → k ≠ 2 → Y k = X k := fun k q1 q2 => by rw [← hY, ups_n q1, ups_n q2]
    have fin : ∀ z' : Int32, z' = sg m n → ∃ X', ((stI (mst σ o Y) (o + 3) (nI d) z').bind fun σ20 => (gR σ20 6 o 3).bind fun r21 => (stI σ20 r21 (nI d) ((lZ s : Int64).toInt32)).bind fun σ22 => (isB 1).bind fun _ => some ((1 : Int32), σ22, (0 : Nat), (0 : Nat))) = some (1, mst σ o X', 0, 0) ∧ RG X' (setA A d m n s) ∧ Kt X X' ∧ X' 5 = X 5 ∧ X' 6 = X 6 := by
      intro z' hz'
      subst hz'
      obtain ⟨Z, hZ⟩ : ∃ Z, ups (ups Y 3 (upd (Y 3) d (sg m n))) 4 (upd (Y 4) d (iZ s)) = Z := ⟨_, rfl⟩
      have zk : ∀ k, k ≠ 1 → k ≠ 2 → k ≠ 3 → k ≠ 4 → Z k = X k := fun k q1 q2 q3 q4 => by rw [← hZ, ups_n q4, ups_n q3, yk k q1 q2]
      refine ⟨Z, ?_, ⟨?_, fun i hi => ?_⟩, ⟨zk 7 (by decide) (by decide) (by decide) (by decide), zk 8 (by decide) (by decide) (by decide) (by decide), by rw [zk 0 (by decide) (by decide) (by decide) (by decide)], by rw [zk 0 (by decide) (by decide) (by decide) (by decide)]⟩, zk 5 (by decide) (by decide) (by decide) (by decide), zk 6 (by decide) (by decide) (by decide) (by decide)⟩
      · refine q_b1 (st3 rfl hd) ?_
        refine q_b1 m_g3 ?_
        refine q_b1 (st4 rfl hd) ?_
        rw [lZ_i, ups_n (show (4 : Nat) ≠ 3 by decide), hZ]
        rfl
      · have := kpA_ok (d := d) (m := m) (n := n) (s := s) h.1
        rwa [ek] at this
      · have z1 : Z 1 = f' := by rw [← hZ, ups_n (by decide), ups_n (by decide), y1]
        have z2 : Z 2 = upd (X 2) d (nI (sz m)) := by rw [← hZ, ups_n (by decide), ups_n (by decide), y2]
        have z3 : Z 3 = upd (X 3) d (sg m n) := by rw [← hZ, ups_n (by decide), ups_s, yk 3 (by decide) (by decide)]
        have z4 : Z 4 = upd (X 4) d (iZ s) := by rw [← hZ, ups_s, yk 4 (by decide) (by decide)]
        rw [z1, z2, z3, z4]
        show upd (X 2) d (nI (sz m)) i = nI (sz (upA A.1 d m i)) ∧ (∀ j, j < sz (upA A.1 d m i) → f' (4096 * i + j) = nI (dg (upA A.1 d m i) j)) ∧ upd (X 3) d (sg m n) i = sg (upA A.1 d m i) (upA A.2.1 d (n && decide (0 < m)) i) ∧ upd (X 4) d (iZ s) i = iZ (upA A.2.2 d s i)
        by_cases hid : i = d
        · subst hid
          rw [pk_us, pk_us, pk_us, upA_s, upA_s, upA_s]
          refine ⟨rfl, b2, ?_, rfl⟩
          unfold sg
          by_cases hm0 : m = 0
          · rw [if_pos hm0, if_pos hm0]
          · rw [decide_eq_true (by omega), Bool.and_true]
        · rw [pk_un hid, pk_un hid, pk_un hid, upA_n hid, upA_n hid, upA_n hid]
          obtain ⟨q1, q2, q3, q4⟩ := h.2 i hi
          have hszi := (h.1 i hi).1
          refine ⟨q1, fun j hj => ?_, q3, q4⟩
          rw [b3 _ (by omega), ups_n (by decide)]
          exact q2 j hj
    by_cases hm0 : m = 0
    · obtain ⟨X', c1, c2⟩ := fin 0 (by unfold sg; rw [if_pos hm0])
      refine ⟨X', ?_, c2⟩
      unfold f_X6_store
      refine q_ob m_o ?_
      refine q_b1 m_g5 (q_b1 (pre X rfl) ?_)
      refine q_f (nI_nlt (a := 4096) hc.1 (by decide)) ?_
      refine q_f (fun w => by have := (lZ_ltm s1 s2).mp w; omega) ?_
      refine q_t ((lZ_le (b := 2147483647) s1 s2 (by decide) (by decide)).mpr (by omega)) ?_
      refine q_b1 m_g1 (q_b1 m_g5 (q_b1 (pre X rfl) ?_))
      refine q_b1 (st2 rfl hd) ?_
      refine q_bd0 b1 ?_
      refine q_b1 m_g2 (q_b1 m_g5 (q_b1 (pre Y hY6) (q_jn ?_)))
      exact q_t (by rw [hm0]; rfl) c1
    · obtain ⟨X', c1, c2⟩ := fin z (hz (by omega))
      refine ⟨X', ?_, c2⟩
      unfold f_X6_store
      refine q_ob m_o ?_
      refine q_b1 m_g5 (q_b1 (pre X rfl) ?_)
      refine q_f (nI_nlt (a := 4096) hc.1 (by decide)) ?_
      refine q_f (fun w => by have := (lZ_ltm s1 s2).mp w; omega) ?_
      refine q_t ((lZ_le (b := 2147483647) s1 s2 (by decide) (by decide)).mpr (by omega)) ?_
      refine q_b1 m_g1 (q_b1 m_g5 (q_b1 (pre X rfl) ?_))
      refine q_b1 (st2 rfl hd) ?_
      refine q_bd0 b1 ?_
      refine q_b1 m_g2 (q_b1 m_g5 (q_b1 (pre Y hY6) (q_jn ?_)))
      exact q_f (nI_ne0 (sz_pos (by omega)) (by omega)) c1
  · have ek : kpA d m n s A = (0, A) := if_neg hc
    rw [ek]
    refine ⟨X, ?_, h, Kt.rf, rfl, rfl⟩
    unfold f_X6_store
    refine q_ob m_o ?_
    refine q_b1 m_g5 (q_b1 (pre X rfl) ?_)
    by_cases c1 : sz m ≤ 4096
    · refine q_f (nI_nlt (a := 4096) c1 (by decide)) ?_
      by_cases c2 : s < -2147483648
      · exact q_t ((lZ_ltm s1 s2).mpr c2) rfl
      · refine q_f (fun w => c2 ((lZ_ltm s1 s2).mp w)) ?_
        exact q_f (fun w => by have := (lZ_le (b := 2147483647) s1 s2 (by decide) (by decide)).mp w; omega) rfl
    · exact q_t (nI_lt (a := 4096) (by omega) (by omega)) rfl
end RGs
