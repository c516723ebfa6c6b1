/-! ===== what the calls answer ===== -/
def onR (x : Int32) (A : AS) (f : Nat → Int32 × AS) : Int32 × AS := if 0 ≤ x ∧ x < 8 then f x.toNatClampNeg else (0, A)
theorem onR_y {i : Nat} {A : AS} {f : Nat → Int32 × AS} (h : i < 8) : onR (nI i) A f = f i := by
  unfold onR
  rw [if_pos ⟨nI_pos' (by omega), (nI_ltI (b := 8) (by omega) (by decide)).mpr h⟩, nI_clamp (by omega)]
theorem onR_n {x : Int32} {A : AS} {f : Nat → Int32 × AS} (h : ¬ (0 ≤ x ∧ x < 8)) : onR x A f = (0, A) := if_neg h
def sPut (A : AS) (d : Int32) (u : Int64) (s : Int32) : Int32 × AS := onR d A fun i => kpA i u.toInt.natAbs (decide (u.toInt < 0)) s.toInt A
def sCopy (A : AS) (d a : Int32) (other : Bool) : Int32 × AS := onR d A fun i => onR a A fun j => kpA i (A.1 j) (xor (A.2.1 j) other) (A.2.2 j) A
def sTimes (A : AS) (d a b : Int32) : Int32 × AS := onR d A fun i => onR a A fun j => onR b A fun k => kpA i (A.1 j * A.1 k) (xor (A.2.1 j) (A.2.1 k)) (A.2.2 j + A.2.2 k) A
def sStrip (A : AS) (d a : Int32) : Int32 × AS := onR d A fun i => onR a A fun j => kpA i (A.1 j / 10 ^ ez (A.1 j)) (A.2.1 j) (if A.1 j = 0 then 0 else A.2.2 j - ez (A.1 j)) A
def sMove (A : AS) (d a n : Int32) : Int32 × AS := onR d A fun i => onR a A fun j => kpA i (A.1 j) (A.2.1 j) (A.2.2 j - n.toInt) A
/-- the sum of two numbers with their signs -/
def sgd (m : Nat) (n : Bool) : Int := if n then -(m : Int) else m
def smZ (A : AS) (j k : Nat) (sub : Bool) : Int := sgd (A.1 j * 10 ^ (max (A.2.2 j) (A.2.2 k) - A.2.2 j).toNat) (A.2.1 j) + sgd (A.1 k * 10 ^ (max (A.2.2 j) (A.2.2 k) - A.2.2 k).toNat) (xor (A.2.1 k) sub)
def sSum (A : AS) (d a b : Int32) (sub : Bool) : Int32 × AS := onR d A fun i => onR a A fun j => onR b A fun k => kpA i (smZ A j k sub).natAbs (decide (smZ A j k sub < 0)) (max (A.2.2 j) (A.2.2 k)) A
def sRound (A : AS) (d a p how : Int32) : Int32 × AS := onR d A fun i => onR a A fun j => if 0 ≤ p ∧ p ≤ 4096 ∧ 0 ≤ how ∧ how < 8 then (if p = 0 ∨ sz (A.1 j) ≤ p.toNatClampNeg then kpA i (A.1 j) (A.2.1 j) (A.2.2 j) A else fnT i (A.1 j / 10 ^ (sz (A.1 j) - p.toNatClampNeg)) (lostc (A.1 j % 10 ^ (sz (A.1 j) - p.toNatClampNeg)) (10 ^ (sz (A.1 j) - p.toNatClampNeg)) false) how.toNatClampNeg (A.2.1 j) (A.2.2 j - (sz (A.1 j) - p.toNatClampNeg : Nat)) p.toNatClampNeg A) else (0, A)
def sRescale (A : AS) (d a s how : Int32) : Int32 × AS := onR d A fun i => onR a A fun j => if 0 ≤ how ∧ how < 8 then (if A.2.2 j ≤ s.toInt then kpA i (A.1 j * 10 ^ (s.toInt - A.2.2 j).toNat) (A.2.1 j) s.toInt A else fnA i (A.1 j / 10 ^ (A.2.2 j - s.toInt).toNat) (lostc (A.1 j % 10 ^ (A.2.2 j - s.toInt).toNat) (10 ^ (A.2.2 j - s.toInt).toNat) false) how.toNatClampNeg (A.2.1 j) s.toInt A) else (0, A)
theorem kp_ans {d m : Nat} {n : Bool} {s : Int} {A : AS} : (kpA d m n s A).1 = 1 ∨ (kpA d m n s A).1 = 0 := by
  unfold kpA
  split
  · exact Or.inl rfl
  · exact Or.inr rfl
theorem isB_k {d m : Nat} {n : Bool} {s : Int} {A : AS} : isB (kpA d m n s A).1 = some () := by
  rcases kp_ans (d := d) (m := m) (n := n) (s := s) (A := A) with h | h <;> rw [h] <;> rfl
section MU1
variable {σ : St} {o : Nat} {X : Nat → Nat → Int32} {A : AS}
/-- 'is' of a register, then the rest -/
theorem q_is {x : Int32} {ρ : Type} {B C : Option ρ} {P : Option ρ → Prop} (hn : ¬ (0 ≤ x ∧ x < 8) → P B) (hy : ∀ i, i < 8 → x = nI i → P C) : P ((f_X6_is σ x).bind fun x1 => if x1 = 0 then B else C) := by
  rcases is_or (σ := σ) x with ⟨i, h1, h2⟩ | ⟨h1, h2⟩
  · rw [h2, is_y h1]
    exact hy i h1 h2
  · rw [h1]
    exact hn h2
theorem sgn_r {i : Nat} (h : RG X A) (hi : i < 8) : X 3 i = sg (A.1 i) (A.2.1 i) := (h.2 i hi).2.2.1
theorem scl_r {i : Nat} (h : RG X A) (hi : i < 8) : (X 4 i).toInt64 = lZ (A.2.2 i) := by
  rw [(h.2 i hi).2.2.2, iZ_l (h.1 i hi).2.1 (h.1 i hi).2.2.1]
/-- a call of the reference: its answer, and its state afterwards -/
def Mo (σ : St) (o : Nat) (X : Nat → Nat → Int32) (e : Rs Int32) (R : Int32 × AS) : Prop := ∃ X', e = some (R.1, mst σ o X', 0, 0) ∧ RG X' R.2 ∧ Kt X X'
theorem Mo.no (h : RG X A) {e : Rs Int32} (he : e = some (0, mst σ o X, 0, 0)) : Mo σ o X e (0, A) := ⟨X, he, h, Kt.rf⟩
theorem Mo.st {r d m : Nat} {n : Bool} {s : Int} {u v z : Int32} {w : Int64} {X1 : Nat → Nat → Int32} (hr : r < 4) (hd : d < 8) (hu : u = nI d) (hv : v = nI r) (h : RG X1 A) (hk : Kt X X1) (hR : Rw X1 r m) (hz : 0 < m → z = sg m n) (hw : w = lZ s) (s1 : -9223372036854775808 ≤ s) (s2 : s < 9223372036854775808) : Mo σ o X (bd (f_X6_store (mst σ o X1) o u v z w) fun x14 σ15 => (isB x14).bind fun _ => some (x14, σ15, 0, 0)) (kpA d m n s A) := by
  obtain ⟨X', a1, a2, a3, -⟩ := t_mstore (σ := σ) (o := o) (n := n) (z := z) hr hd hu hv h hR hz hw s1 s2
  refine ⟨X', ?_, a2, hk.trans a3⟩
  refine q_bd0 a1 ?_
  rw [isB_k]
  rfl
theorem lzb {s : Int} (h1 : -2147483648 ≤ s) (h2 : s < 2147483648) : -9223372036854775808 ≤ s ∧ s < 9223372036854775808 := by omega
theorem t_mput_loop {u : Int64} {d s : Int32} {x : Nat} : ∀ (k i : Nat) (z : Int) (m : Nat → Int32) (g : Nat → Nat), 25 - i < k → i ≤ 24 → -9223372036854775808 ≤ z → z < 9223372036854775808 → z.natAbs * 10 ^ i ≤ 9223372036854775808 → (∀ j, j < i → m j = nI (g j) ∧ g j < 10) → (0 < i → z ≠ 0 ∨ 0 < g (i - 1)) → (∀ q, 17000 ≤ q → m q = X 5 q) → x = vl 10 g i + z.natAbs * 10 ^ i →
    ∃ i' m' g', f_X6_put_L15 k (mst σ o (ups X 5 m)) o d u s (lZ z) (nI i) = some (nI i', mst σ o (ups X 5 m'), 0, 0) ∧ i' ≤ 24 ∧ (∀ j, j < i' → m' j = nI (g' j) ∧ g' j < 10) ∧ (0 < i' → 0 < g' (i' - 1)) ∧ (∀ q, 17000 ≤ q → m' q = X 5 q) ∧ x = vl 10 g' i' := by
  intro k
  induction k with
  | zero => intro i z m g h; omega
  | succ k ih =>
    intro i z m g hk hi z1 z2 z3 g1 g2 g3 hx
    show ∃ i' m' g', b_X6_put_L15 (f_X6_put_L15 k) _ o _ _ _ _ _ = _ ∧ _
    unfold b_X6_put_L15
    by_cases hz : z = 0
    · subst hz
      refine ⟨i, m, g, q_t rfl rfl, hi, g1, fun h => ?_, g3, by rw [hx]; show vl 10 g i + 0 * 10 ^ i = _; rw [Nat.zero_mul, Nat.add_zero]⟩
      rcases g2 h with w | w
      · exact absurd rfl w
      · exact w
    · have hi19 : i < 19 := by
        refine Nat.not_le.mp fun w => ?_
        have h1 : 10 ^ 19 ≤ 10 ^ i := p10_le w
        have h2 : 1 * 10 ^ i ≤ z.natAbs * 10 ^ i := Nat.mul_le_mul_right _ (by omega)
        have h3 : (10 : Nat) ^ 19 = 10000000000000000000 := by decide
        omega
      have hm : (z.tmod 10).natAbs = z.natAbs % 10 := by rw [Int.natAbs_tmod]; rfl
      have hd : (z.tdiv 10).natAbs = z.natAbs / 10 := by rw [Int.natAbs_tdiv]; rfl
      obtain ⟨q, hq⟩ : ∃ q, z.tdiv 10 = q := ⟨_, rfl⟩
      obtain ⟨e, he⟩ : ∃ e, z.tmod 10 = e := ⟨_, rfl⟩
      rw [hq] at hd
      rw [he] at hm
      have hda : q.natAbs * 10 + z.natAbs % 10 = z.natAbs := by omega
      have hda2 : q.natAbs * 10 ^ (i + 1) + z.natAbs % 10 * 10 ^ i = z.natAbs * 10 ^ i := by
        rw [Nat.pow_succ, Nat.mul_comm (10 ^ i) 10, ← Nat.mul_assoc, ← Nat.add_mul, hda]
      obtain ⟨i', m', g', r1, r2, r3, r4, r5, r6⟩ := ih (i + 1) q (upd m i (nI (z.natAbs % 10))) (up1 g i (z.natAbs % 10)) (by omega) (by omega) (by omega) (by omega) (by omega) (fun j hj => by
          unfold up1
          by_cases hji : j = i
          · subst hji; rw [if_pos rfl, pk_us]; exact ⟨rfl, by omega⟩
          · rw [if_neg hji, pk_un hji]; exact g1 j (by omega)) (fun _ => by
          rw [Nat.add_sub_cancel]
          unfold up1
          rw [if_pos rfl]
          omega) (fun t ht => by rw [pk_un (by omega)]; exact g3 t ht) (by
          rw [hx]
          show vl 10 g i + z.natAbs * 10 ^ i = vl 10 (up1 g i (z.natAbs % 10)) i + up1 g i (z.natAbs % 10) i * 10 ^ i + q.natAbs * 10 ^ (i + 1)
          have e1 : vl 10 (up1 g i (z.natAbs % 10)) i = vl 10 g i := vl_congr (fun j hj => by unfold up1; rw [if_neg (by omega)])
          have e2 : up1 g i (z.natAbs % 10) i = z.natAbs % 10 := by unfold up1; rw [if_pos rfl]
          rw [e1, e2]
          omega)
      refine ⟨i', m', g', ?_, r2, r3, r4, r5, r6⟩
      refine q_f (fun w => hz ((lZ_eq (b := 0) z1 z2 (by omega) (by omega)).mp w)) ?_
      refine q_b1 (rmZ (b := 10) rfl rfl z1 z2 (by decide) (by decide)) ?_
      rw [he]
      refine q_le (y := iZ e) (lZ_i e) ?_
      refine q_b1 m_g4 (q_jn ?_)
      have fin : ∀ z5 : Int32, z5 = nI (z.natAbs % 10) → ((stI (mst σ o (ups X 5 m)) (o + 5) (nI i) z5).bind fun σ6 => (dvL (lZ z) 10).bind fun l7 => lt (nI i + 1) fun x8 => f_X6_put_L15 k σ6 o d u s l7 x8) = some (nI i', mst σ o (ups X 5 m'), 0, 0) := by
        intro z5 h5
        subst h5
        refine q_b1 (st5 rfl (by omega)) ?_
        refine q_b1 (dvZ (b := 10) rfl rfl z1 z2 (by decide) (by decide)) ?_
        rw [hq, ups_ups, ups_s]
        exact q_le (nI_1 i) r1
      by_cases he0 : 0 ≤ e
      · refine q_t ((iZ_le (a := 0) (by omega) (by omega) (by omega) (by omega)).mpr he0) ?_
        exact fin _ (by rw [iZ_nat he0]; congr 1; omega)
      · refine q_f (fun w => he0 ((iZ_le (a := 0) (by omega) (by omega) (by omega) (by omega)).mp w)) ?_
        exact fin _ (by rw [iZ_neg, iZ_nat (by omega)]; congr 1; omega)
theorem t_mput {d s : Int32} {u : Int64} (h : RG X A) : Mo σ o X (f_X6_put (mst σ o X) o d u s) (sPut A d u s) := by
  have hF := FU_ge
  unfold f_X6_put sPut
  rw [show ∀ e : Rs Int32, ob (mst σ o X) 6 o e = e from fun e => q_ob m_o rfl]
  refine q_is (P := fun e => Mo σ o X e _) (fun hn => ?_) (fun i hi hx => ?_)
  · rw [onR_n hn]; exact Mo.no h rfl
  · subst hx
    rw [onR_y hi]
    have z1 := lZ_lo u
    have z2 := lZ_hi u
    obtain ⟨i', m', g', r1, r2, r3, r4, r5, r6⟩ := t_mput_loop (σ := σ) (o := o) (X := X) (u := u) (d := nI i) (s := s) (x := u.toInt.natAbs) FU 0 u.toInt (X 5) (fun _ => 0) (by omega) (by omega) z1 z2 (by rw [Nat.pow_zero]; omega) (fun j hj => by omega) (fun w => by omega) (fun _ _ => rfl) (by show _ = 0 + _ * 10 ^ 0; rw [Nat.pow_zero]; omega)
    rw [ups_self, ← lZ_of] at r1
    have hO : Ot (fun q => q = 0) X (ups X 5 m') := Ot.m5 (fun q hq => r5 q (by omega))
    have hO2 := Ot.m6 (X := ups X 5 m') (r := 0) (v := nI i')
    have hR : Rw (ups (ups X 5 m') 6 (upd (ups X 5 m' 6) 0 (nI i'))) 0 u.toInt.natAbs := by
      rw [r6]
      refine Rw.of (by rw [ups_s, pk_us]) (by omega) (fun j hj => ?_) r4
      rw [ups_n (by decide), ups_s, show 17000 * 0 + j = j by omega]
      exact r3 j hj
    have hOt := hO.trans hO2 (fun _ w => w)
    have l1 := iZ_lo s
    have l2 := iZ_hi s
    have fin : ∀ z13 : Int32, z13 = (if (decide (u.toInt < 0)) = true then -1 else 1) → Mo σ o X (bd (f_X6_store (mst σ o (ups (ups X 5 m') 6 (upd (ups X 5 m' 6) 0 (nI i')))) o (nI i) 0 z13 s.toInt64) fun x14 σ15 => (isB x14).bind fun _ => some (x14, σ15, 0, 0)) (kpA i u.toInt.natAbs (decide (u.toInt < 0)) s.toInt A) := by
      intro z13 h13
      exact Mo.st (r := 0) (by decide) hi rfl rfl (h.ot hOt) hOt.kt hR (fun g => h13.trans (sg_pos g).symm) (iZ_lx s) (by omega) (by omega)
    have st : ∀ e, Mo σ o X e (kpA i u.toInt.natAbs (decide (u.toInt < 0)) s.toInt A) → e = (bd (f_X6_put_L15 FU (mst σ o X) o (nI i) u s u 0) fun y9 σ10 => (gR σ10 6 o 5).bind fun r11 => (stI σ10 r11 0 y9).bind fun σ12 => jn (fun (z13 : Int32) => (bd (f_X6_store σ12 o (nI i) 0 z13 ((s : Int32).toInt64)) fun x14 σ15 => (isB x14).bind fun _ => some (x14, σ15, 0, 0))) fun k13 => if 0 ≤ u then (k13 1) else k13 (-1)) → Mo σ o X (bd (f_X6_put_L15 FU (mst σ o X) o (nI i) u s u 0) fun y9 σ10 => (gR σ10 6 o 5).bind fun r11 => (stI σ10 r11 0 y9).bind fun σ12 => jn (fun (z13 : Int32) => (bd (f_X6_store σ12 o (nI i) 0 z13 ((s : Int32).toInt64)) fun x14 σ15 => (isB x14).bind fun _ => some (x14, σ15, 0, 0))) fun k13 => if 0 ≤ u then (k13 1) else k13 (-1)) (kpA i u.toInt.natAbs (decide (u.toInt < 0)) s.toInt A) := fun e h1 h2 => h2 ▸ h1
    by_cases hu : 0 ≤ u
    · refine st _ (fin 1 (by rw [decide_eq_false (by have := Int64.le_iff_toInt_le.mp hu; have e0 : (0 : Int64).toInt = 0 := rfl; omega)]; rfl)) ?_
      refine (q_bd0 r1 ?_).symm
      refine q_b1 m_g5 (q_b1 (st6 (i := 0) rfl (by decide)) (q_jn ?_))
      exact q_t hu rfl
    · refine st _ (fin (-1) (by rw [decide_eq_true (by have := Int64.lt_iff_toInt_lt.mp (Int64.not_le.mp hu); have e0 : (0 : Int64).toInt = 0 := rfl; omega)]; rfl)) ?_
      refine (q_bd0 r1 ?_).symm
      refine q_b1 m_g5 (q_b1 (st6 (i := 0) rfl (by decide)) (q_jn ?_))
      exact q_f hu rfl
end MU1
