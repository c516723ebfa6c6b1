section MoC
variable {σ : St} {o : Nat} {X : Nat → Nat → Int32} {R : Int32 × AS}
theorem mo_b1 {β : Type} {e : Option β} {f : β → Rs Int32} {r : β} (h : e = some r) (k : Mo σ o X (f r) R) : Mo σ o X (e.bind f) R := by subst h; exact k
theorem mo_bd {τ : Type} {e : Rs τ} {f : τ → St → Rs Int32} {a : τ} {σ1 : St} (h : e = some (a, σ1, 0, 0)) (k : Mo σ o X (f a σ1) R) : Mo σ o X (bd e f) R := by
  obtain ⟨X', h1, h2⟩ := k
  exact ⟨X', q_bd0 h h1, h2⟩
theorem mo_t {c : Prop} [Decidable c] {B C : Rs Int32} (h : c) (k : Mo σ o X B R) : Mo σ o X (if c then B else C) R := by rw [if_pos h]; exact k
theorem mo_f {c : Prop} [Decidable c] {B C : Rs Int32} (h : ¬ c) (k : Mo σ o X C R) : Mo σ o X (if c then B else C) R := by rw [if_neg h]; exact k
theorem mo_jn {β : Type} {f : β → Rs Int32} {g : (β → Rs Int32) → Rs Int32} (k : Mo σ o X (g f) R) : Mo σ o X (jn f g) R := k
theorem mo_lt {β : Type} {e : β} {f : β → Rs Int32} (k : Mo σ o X (f e) R) : Mo σ o X (lt e f) R := k
theorem mo_le {β : Type} {e y : β} {f : β → Rs Int32} (h : e = y) (k : Mo σ o X (f y) R) : Mo σ o X (lt e f) R := by subst h; exact k
theorem mo_ob {Y : Nat → Nat → Int32} {e : Rs Int32} (k : Mo σ o X e R) : Mo σ o X (ob (mst σ o Y) 6 o e) R := by
  obtain ⟨X', h1, h2⟩ := k
  exact ⟨X', q_ob m_o h1, h2⟩
theorem mo_kt {X1 : Nat → Nat → Int32} {e : Rs Int32} (hk : Kt X X1) (k : Mo σ o X1 e R) : Mo σ o X e R := by
  obtain ⟨X', h1, h2, h3⟩ := k
  exact ⟨X', h1, h2, hk.trans h3⟩
theorem mo_rt {X1 : Nat → Nat → Int32} {f : Rs Int32} (hk : Kt X X1) (k : Mo σ o X1 f R) (hb : isB R.1 = some ()) : Mo σ o X (bd f fun x1 σ2 => (isB x1).bind fun _ => some (x1, σ2, 0, 0)) R := by
  obtain ⟨X', h1, h2, h3⟩ := k
  refine ⟨X', ?_, h2, hk.trans h3⟩
  refine q_bd0 h1 ?_
  rw [hb]
  rfl
theorem mo_R {R' : Int32 × AS} {e : Rs Int32} (h : R' = R) (k : Mo σ o X e R) : Mo σ o X e R' := h ▸ k
end MoC
theorem isB_onR {x : Int32} {A : AS} {f : Nat → Int32 × AS} (h : ∀ i, isB (f i).1 = some ()) : isB (onR x A f).1 = some () := by
  unfold onR
  split
  · exact h _
  · rfl
theorem isB_fnA {d m lost how : Nat} {n : Bool} {s : Int} {A : AS} : isB (fnA d m lost how n s A).1 = some () := by
  unfold fnA
  split
  · rfl
  · exact isB_k
theorem isB_fnT {d m lost how p : Nat} {n : Bool} {s : Int} {A : AS} : isB (fnT d m lost how n s p A).1 = some () := by
  unfold fnT
  split
  · rfl
  · split <;> exact isB_k
theorem isB_stA {d q p : Nat} {n : Bool} {s t : Int} {A : AS} : isB (stA' d q n s t p A).1 = some () := isB_k
section MU2
variable {σ : St} {o : Nat} {X : Nat → Nat → Int32} {A : AS}
theorem sg_neg {m : Nat} {n : Bool} : -sg m n = sg m (!n) := by
  unfold sg
  by_cases h : m = 0
  · rw [if_pos h, if_pos h]; rfl
  · rw [if_neg h, if_neg h]; cases n <;> rfl
theorem sg_mul {m k : Nat} {n n' : Bool} : sg m n * sg k n' = sg (m * k) (xor n n') := by
  unfold sg
  by_cases h : m = 0
  · rw [if_pos h, h, Nat.zero_mul, if_pos rfl, Int32.zero_mul]
  · by_cases h2 : k = 0
    · rw [if_pos h2, h2, Nat.mul_zero, if_pos rfl, Int32.mul_zero]
    · have h3 : ¬ m * k = 0 := by intro w; rcases Nat.mul_eq_zero.mp w with w | w <;> contradiction
      rw [if_neg h, if_neg h2, if_neg h3]
      cases n <;> cases n' <;> rfl
theorem t_mcopy {d a : Int32} {other : Bool} (h : RG X A) : Mo σ o X (f_X6_copy (mst σ o X) o d a (bI other)) (sCopy A d a other) := by
  unfold f_X6_copy sCopy
  refine mo_ob ?_
  refine q_is (P := fun e => Mo σ o X e _) (fun hn => by rw [onR_n hn]; exact Mo.no h rfl) (fun i hi hx => ?_)
  subst hx
  rw [onR_y hi]
  refine q_is (P := fun e => Mo σ o X e _) (fun hn => by rw [onR_n hn]; exact Mo.no h rfl) (fun j hj hx => ?_)
  subst hx
  rw [onR_y hj]
  obtain ⟨X1, a1, a2, a3, a4⟩ := t_mload (σ := σ) (o := o) (r := 0) (u := 0) (by decide) hj rfl rfl h
  have h1 := h.ot a3
  refine mo_bd a1 (mo_jn ?_)
  have fin : ∀ z : Int32, z = sg (A.1 j) (xor (A.2.1 j) other) → Mo σ o X ((gR (mst σ o X1) 6 o 3).bind fun r5 => (ldI (mst σ o X1) r5 (nI j)).bind fun x6 => bd (f_X6_store (mst σ o X1) o (nI i) 0 z ((x6 : Int32).toInt64)) fun x7 σ8 => (isB x7).bind fun _ => some (x7, σ8, 0, 0)) (kpA i (A.1 j) (xor (A.2.1 j) other) (A.2.2 j) A) := by
    intro z hz
    refine mo_b1 m_g3 (mo_b1 (ld4 rfl hj) ?_)
    have := h.1 j hj
    exact Mo.st (r := 0) (by decide) hi rfl rfl h1 a3.kt a2 (fun _ => hz) (scl_r h1 hj) (by omega) (by omega)
  cases other with
  | false =>
    refine mo_t rfl ?_
    refine mo_b1 m_g2 (mo_b1 (ld3 rfl hj) ?_)
    exact fin _ (by rw [sgn_r h1 hj, Bool.xor_false])
  | true =>
    refine mo_f (by decide) ?_
    refine mo_b1 m_g2 (mo_b1 (ld3 rfl hj) ?_)
    exact fin _ (by rw [sgn_r h1 hj, sg_neg, Bool.xor_true])
theorem t_mtimes {d a b : Int32} (h : RG X A) : Mo σ o X (f_X6_times (mst σ o X) o d a b) (sTimes A d a b) := by
  unfold f_X6_times sTimes
  refine mo_ob ?_
  refine q_is (P := fun e => Mo σ o X e _) (fun hn => by rw [onR_n hn]; exact Mo.no h rfl) (fun i hi hx => ?_)
  subst hx
  rw [onR_y hi]
  refine q_is (P := fun e => Mo σ o X e _) (fun hn => by rw [onR_n hn]; exact Mo.no h rfl) (fun j hj hx => ?_)
  subst hx
  rw [onR_y hj]
  refine q_is (P := fun e => Mo σ o X e _) (fun hn => by rw [onR_n hn]; exact Mo.no h rfl) (fun k hk hx => ?_)
  subst hx
  rw [onR_y hk]
  obtain ⟨X1, a1, a2, a3, a4⟩ := t_mload (σ := σ) (o := o) (r := 0) (u := 0) (by decide) hj rfl rfl h
  have h1 := h.ot a3
  obtain ⟨X2, b1, b2, b3, b4⟩ := t_mload (σ := σ) (o := o) (r := 1) (u := 1) (by decide) hk rfl rfl h1
  have h2 := h1.ot b3
  have c0 := h.1 j hj
  have c1 := h.1 k hk
  obtain ⟨X3, p1, p2, p3, p4⟩ := t_mproduct (σ := σ) (o := o) (a2.ot b3 (by decide) (by decide)) b2 (by omega)
  have h3 := h2.ot p3
  refine mo_bd a1 (mo_bd b1 (mo_bd p1 ?_))
  refine mo_b1 m_g2 (mo_b1 (ld3 rfl hj) ?_)
  refine mo_b1 m_g2 (mo_b1 (ld3 rfl hk) ?_)
  refine mo_b1 m_g3 (mo_b1 (ld4 rfl hj) ?_)
  refine mo_b1 m_g3 (mo_b1 (ld4 rfl hk) ?_)
  exact Mo.st (r := 2) (by decide) hi rfl rfl h3 ((a3.kt.trans b3.kt).trans p3.kt) p2 (fun _ => by rw [sgn_r h3 hj, sgn_r h3 hk, sg_mul]) (by rw [scl_r h3 hj, scl_r h3 hk, lZ_add]) (by omega) (by omega)
theorem t_mmove {d a n : Int32} (h : RG X A) : Mo σ o X (f_X6_move (mst σ o X) o d a n) (sMove A d a n) := by
  unfold f_X6_move sMove
  refine mo_ob ?_
  refine q_is (P := fun e => Mo σ o X e _) (fun hn => by rw [onR_n hn]; exact Mo.no h rfl) (fun i hi hx => ?_)
  subst hx
  rw [onR_y hi]
  refine q_is (P := fun e => Mo σ o X e _) (fun hn => by rw [onR_n hn]; exact Mo.no h rfl) (fun j hj hx => ?_)
  subst hx
  rw [onR_y hj]
  obtain ⟨X1, a1, a2, a3, a4⟩ := t_mload (σ := σ) (o := o) (r := 0) (u := 0) (by decide) hj rfl rfl h
  have h1 := h.ot a3
  have c0 := h.1 j hj
  have l1 := iZ_lo n
  have l2 := iZ_hi n
  refine mo_bd a1 ?_
  refine mo_b1 m_g2 (mo_b1 (ld3 rfl hj) ?_)
  refine mo_b1 m_g3 (mo_b1 (ld4 rfl hj) ?_)
  exact Mo.st (r := 0) (by decide) hi rfl rfl h1 a3.kt a2 (fun _ => sgn_r h1 hj) (by rw [scl_r h1 hj, iZ_lx, lZ_sub]) (by omega) (by omega)
theorem t_mstrip {d a : Int32} (h : RG X A) : Mo σ o X (f_X6_strip (mst σ o X) o d a) (sStrip A d a) := by
  unfold f_X6_strip sStrip
  refine mo_ob ?_
  refine q_is (P := fun e => Mo σ o X e _) (fun hn => by rw [onR_n hn]; exact Mo.no h rfl) (fun i hi hx => ?_)
  subst hx
  rw [onR_y hi]
  refine q_is (P := fun e => Mo σ o X e _) (fun hn => by rw [onR_n hn]; exact Mo.no h rfl) (fun j hj hx => ?_)
  subst hx
  rw [onR_y hj]
  obtain ⟨X1, a1, a2, a3, a4⟩ := t_mload (σ := σ) (o := o) (r := 0) (u := 0) (by decide) hj rfl rfl h
  have h1 := h.ot a3
  have c0 := h.1 j hj
  obtain ⟨e, e1, e2, e3⟩ := t_mzeros (σ := σ) (o := o) (y := 0) (by decide) a2 rfl
  have he := ez_un e2
  subst he
  obtain ⟨X2, b1, b2, b3, b4⟩ := t_mlower (σ := σ) (o := o) (y := 0) (b := (ez (A.1 j) : Int)) (z := (nI (ez (A.1 j))).toInt64) (by decide) a2 rfl (by rw [nI_l (by omega), lZ_n]) (by omega) (by omega)
  rw [Int.toNat_natCast] at b2
  have h2 := h1.ot b3
  have pre : ldI (mst σ o X2) (o + 6) 0 = some (nI (sz (A.1 j / 10 ^ ez (A.1 j)))) := (ld6 (i := 0) rfl (by decide)).trans (by rw [b2.2.1])
  have hszu : sz (A.1 j / 10 ^ ez (A.1 j)) = sz (A.1 j) - ez (A.1 j) := sz_div
  refine mo_bd a1 (mo_b1 e1 (mo_bd b1 ?_))
  refine mo_b1 m_g2 (mo_b1 (ld3 rfl hj) ?_)
  refine mo_b1 m_g5 (mo_b1 pre (mo_jn ?_))
  have hsg : 0 < A.1 j / 10 ^ ez (A.1 j) → X2 3 j = sg (A.1 j / 10 ^ ez (A.1 j)) (A.2.1 j) := fun g => by
    have g2 : 0 < A.1 j := Nat.pos_of_ne_zero fun w => by rw [w, Nat.zero_div] at g; omega
    rw [sgn_r h2 hj, sg_pos g2, sg_pos g]
  by_cases hm : A.1 j = 0
  · rw [if_pos hm]
    refine mo_t (by rw [hszu, hm]; rfl) ?_
    exact Mo.st (r := 0) (s := 0) (by decide) hi rfl rfl h2 (a3.kt.trans b3.kt) b2 hsg rfl (by omega) (by omega)
  · rw [if_neg hm]
    have hq : 0 < A.1 j / 10 ^ ez (A.1 j) := Nat.div_pos (Nat.le_of_dvd (by omega) ((ez_ok (A.1 j)).2 (by omega)).1) (Nat.pow_pos (by decide))
    have := sz_pos hq
    refine mo_f (nI_ne0 this (by omega)) ?_
    refine mo_b1 m_g3 (mo_b1 (ld4 rfl hj) ?_)
    exact Mo.st (r := 0) (by decide) hi rfl rfl h2 (a3.kt.trans b3.kt) b2 hsg (by rw [scl_r h2 hj, nI_l (by omega), lZ_n, lZ_sub]) (by omega) (by omega)
theorem is_rn (x : Int32) : (∃ i, i < 8 ∧ x = nI i ∧ f_X6_isRounding σ x = some 1) ∨ (f_X6_isRounding σ x = some 0 ∧ ¬ (0 ≤ x ∧ x < 8)) := (is_or (σ := σ) x).elim (fun ⟨i, h1, h2⟩ => Or.inl ⟨i, h1, h2, by rw [h2]; exact is_y (σ := σ) h1⟩) (fun h => Or.inr h)
theorem is_pr (x : Int32) : (∃ i, i ≤ 4096 ∧ x = nI i ∧ f_X6_isPrecision σ x = some 1) ∨ (f_X6_isPrecision σ x = some 0 ∧ ¬ (0 ≤ x ∧ x ≤ 4096)) := by
  unfold f_X6_isPrecision
  by_cases h1 : x < 0
  · exact Or.inr ⟨q_t h1 rfl, fun w => Int32.not_lt.mpr w.1 h1⟩
  · obtain ⟨j, hj, rfl⟩ := nI_of h1
    by_cases h2 : j ≤ 4096
    · exact Or.inl ⟨j, h2, rfl, q_f h1 (q_f (nI_nlt (a := 4096) h2 (by decide)) rfl)⟩
    · exact Or.inr ⟨q_f h1 (q_t (nI_lt (a := 4096) (by omega) hj) rfl), fun w => h2 ((nI_leI (b := 4096) hj (by decide)).mp w.2)⟩
theorem lost_lt (r D : Nat) (b : Bool) : lostc r D b < 4 := by
  unfold lostc
  repeat' split
  all_goals decide
theorem lost_pos {m D : Nat} (hD : 0 < D) (h : lostc (m % D) D false ≠ 0) : 0 < m := Nat.pos_of_ne_zero fun w => by
  subst w
  apply h
  unfold lostc
  rw [Nat.zero_mod, if_pos (by omega), if_pos ⟨rfl, rfl⟩]
theorem lost_0 {D : Nat} (hD : 0 < D) : lostc 0 D false = 0 := by
  unfold lostc
  rw [if_pos (by omega), if_pos ⟨rfl, rfl⟩]
theorem kp_big {d m : Nat} {n : Bool} {s : Int} (h : ¬ sz m ≤ 4096) : kpA d m n s A = (0, A) := if_neg (fun w => h w.1)
theorem fn_big {d m l how : Nat} {n : Bool} {s : Int} (h : ¬ sz m ≤ 4096) : fnA d m l how n s A = (0, A) := by
  unfold fnA
  split
  · rfl
  · refine kp_big (fun w => h (sz_le.mpr ?_))
    have := sz_le.mp w
    unfold rn at this
    split at this
    · exact Nat.lt_trans (Nat.lt_succ_self _) this
    · exact this
theorem t_mround {d a p how : Int32} (h : RG X A) : Mo σ o X (f_X6_round (mst σ o X) o d a p how) (sRound A d a p how) := by
  unfold f_X6_round sRound
  refine mo_ob ?_
  refine q_is (P := fun e => Mo σ o X e _) (fun hn => by rw [onR_n hn]; exact Mo.no h rfl) (fun i hi hx => ?_)
  subst hx
  rw [onR_y hi]
  refine q_is (P := fun e => Mo σ o X e _) (fun hn => by rw [onR_n hn]; exact Mo.no h rfl) (fun j hj hx => ?_)
  subst hx
  rw [onR_y hj]
  rcases is_pr (σ := mst σ o X) p with ⟨q, hq, rfl, ep⟩ | ⟨ep, np⟩
  · refine mo_b1 ep (mo_f (by decide) ?_)
    rcases is_rn (σ := mst σ o X) how with ⟨w, hw, rfl, eh⟩ | ⟨eh, nh⟩
    · refine mo_b1 eh (mo_f (by decide) ?_)
      rw [if_pos ⟨nI_pos' (by omega), (nI_leI (b := 4096) (by omega) (by decide)).mpr hq, nI_pos' (by omega), (nI_ltI (b := 8) (by omega) (by decide)).mpr hw⟩, nI_clamp (by omega), nI_clamp (by omega)]
      obtain ⟨X1, a1, a2, a3, a4⟩ := t_mload (σ := σ) (o := o) (r := 0) (u := 0) (by decide) hj rfl rfl h
      have h1 := h.ot a3
      have c0 := h.1 j hj
      have keep : Mo σ o X ((gR (mst σ o X1) 6 o 2).bind fun r7 => (ldI (mst σ o X1) r7 (nI j)).bind fun x8 => (gR (mst σ o X1) 6 o 3).bind fun r9 => (ldI (mst σ o X1) r9 (nI j)).bind fun x10 => bd (f_X6_store (mst σ o X1) o (nI i) 0 x8 ((x10 : Int32).toInt64)) fun x11 σ12 => (isB x11).bind fun _ => some (x11, σ12, 0, 0)) (kpA i (A.1 j) (A.2.1 j) (A.2.2 j) A) := by
        refine mo_b1 m_g2 (mo_b1 (ld3 rfl hj) ?_)
        refine mo_b1 m_g3 (mo_b1 (ld4 rfl hj) ?_)
        exact Mo.st (r := 0) (by decide) hi rfl rfl h1 a3.kt a2 (fun _ => sgn_r h1 hj) (scl_r h1 hj) (by omega) (by omega)
      have pre : ldI (mst σ o X1) (o + 6) 0 = some (nI (sz (A.1 j))) := (ld6 (i := 0) rfl (by decide)).trans (by rw [a2.2.1])
      refine mo_bd a1 (mo_jn ?_)
      by_cases hq0 : q = 0
      · subst hq0
        exact mo_R (if_pos (Or.inl rfl)) (mo_t rfl keep)
      · refine mo_f (nI_ne0 (by omega) (by omega)) ?_
        refine mo_b1 m_g5 (mo_b1 pre ?_)
        by_cases hs : sz (A.1 j) ≤ q
        · exact mo_R (if_pos (Or.inr hs)) (mo_f (nI_nlt hs (by omega)) keep)
        · refine mo_R (if_neg (fun w => w.elim (fun w => nI_ne0 (show 0 < q by omega) (by omega) w) hs)) ?_
          refine mo_t (nI_lt (by omega) (by omega)) ?_
          refine mo_b1 m_g5 (mo_b1 pre ?_)
          obtain ⟨c, hc⟩ : ∃ c, sz (A.1 j) - q = c := ⟨_, rfl⟩
          refine mo_le (y := nI c) (by rw [pk_sub (by omega), hc]) ?_
          obtain ⟨X2, b1, b2, b3, b4⟩ := t_mlower (σ := σ) (o := o) (y := 0) (b := (c : Int)) (z := (nI c).toInt64) (by decide) a2 rfl (by rw [nI_l (by omega), lZ_n]) (by omega) (by omega)
          rw [Int.toNat_natCast] at b2 b4
          have h2 := h1.ot b3
          have hm0 : 0 < A.1 j := Nat.pos_of_ne_zero fun w => by rw [w, sz_0] at hs; omega
          refine mo_bd b1 ?_
          refine mo_b1 m_g2 (mo_b1 (ld3 rfl hj) ?_)
          refine mo_b1 m_g3 (mo_b1 (ld4 rfl hj) ?_)
          rw [hc]
          obtain ⟨X3, d1, d2, d3⟩ := t_mfinishTo (σ := σ) (o := o) (r := 0) (n := A.2.1 j) (s := A.2.2 j - (c : Nat)) (p := q) (u := nI i) (v := 0) (z := X2 3 j) (w := nI w) (x := nI q) (y := (X2 4 j).toInt64 - (nI c).toInt64) (by decide) hi rfl rfl h2 b2 (by rw [sz_div]; omega) hq rfl b4 (lost_lt _ _ _) hw (fun _ => by rw [sgn_r h2 hj, sg_pos hm0]) rfl (by rw [scl_r h2 hj, nI_l (by omega), lZ_n, lZ_sub]) (by omega) (by omega)
          exact mo_rt (X1 := X2) (a3.kt.trans b3.kt) ⟨X3, d1, d2, d3⟩ isB_fnT
    · refine mo_b1 eh (mo_t rfl ?_)
      rw [if_neg (fun w => nh w.2.2)]
      exact Mo.no h rfl
  · refine mo_b1 ep (mo_t rfl ?_)
    rw [if_neg (fun w => np ⟨w.1, w.2.1⟩)]
    exact Mo.no h rfl
theorem t_mrescale {d a s how : Int32} (h : RG X A) : Mo σ o X (f_X6_rescale (mst σ o X) o d a s how) (sRescale A d a s how) := by
  unfold f_X6_rescale sRescale
  refine mo_ob ?_
  refine q_is (P := fun e => Mo σ o X e _) (fun hn => by rw [onR_n hn]; exact Mo.no h rfl) (fun i hi hx => ?_)
  subst hx
  rw [onR_y hi]
  refine q_is (P := fun e => Mo σ o X e _) (fun hn => by rw [onR_n hn]; exact Mo.no h rfl) (fun j hj hx => ?_)
  subst hx
  rw [onR_y hj]
  rcases is_rn (σ := mst σ o X) how with ⟨w, hw, rfl, eh⟩ | ⟨eh, nh⟩
  · refine mo_b1 eh (mo_f (by decide) ?_)
    rw [if_pos ⟨nI_pos' (by omega), (nI_ltI (b := 8) (by omega) (by decide)).mpr hw⟩, nI_clamp (by omega)]
    obtain ⟨X1, a1, a2, a3, a4⟩ := t_mload (σ := σ) (o := o) (r := 0) (u := 0) (by decide) hj rfl rfl h
    have h1 := h.ot a3
    obtain ⟨c0, c1, c2, c3⟩ := h.1 j hj
    have l1 := iZ_lo s
    have l2 := iZ_hi s
    refine mo_bd a1 ?_
    refine mo_b1 m_g3 (mo_b1 (ld4 rfl hj) ?_)
    refine mo_le (y := lZ (s.toInt - A.2.2 j)) (by rw [scl_r h1 hj, iZ_lx, lZ_sub]) ?_
    refine mo_b1 m_p6 ?_
    have O2 : Ot (fun _ => False) X1 (ups X1 0 (upd (X1 0) 0 0)) := Ot.m0
    obtain ⟨X2, hX2⟩ : ∃ X2, ups X1 0 (upd (X1 0) 0 0) = X2 := ⟨_, rfl⟩
    rw [hX2] at O2 ⊢
    have h2 := h1.ot O2
    have r2 : Rw X2 0 (A.1 j) := a2.ot O2 (by decide) id
    have l0 : X2 0 0 = nI 0 := by rw [← hX2, ups_s, pk_us]; rfl
    have pre : ldI (mst σ o X2) (o + 6) 0 = some (nI (sz (A.1 j))) := (ld6 (i := 0) rfl (by decide)).trans (by rw [r2.2.1])
    refine mo_b1 m_g5 (mo_b1 pre (mo_jn ?_))
    obtain ⟨up, hup⟩ : ∃ up, s.toInt - A.2.2 j = up := ⟨_, rfl⟩
    rw [hup]
    have e0 : ∀ v : Int, lZ v ≤ 0 ↔ lZ v ≤ lZ 0 := fun v => Iff.rfl
    have fin : ∀ (X3 : Nat → Nat → Int32) (m lost : Nat), Ot (fun q => q = 0) X2 X3 → Rw X3 0 m → sz m ≤ 16980 → X3 0 0 = nI lost → lost < 4 → (0 < m ∨ lost ≠ 0 → 0 < A.1 j) → Mo σ o X ((gR (mst σ o X3) 6 o 2).bind fun r13 => (ldI (mst σ o X3) r13 (nI j)).bind fun x14 => bd (f_X6_finish (mst σ o X3) o (nI i) 0 x14 ((s : Int32).toInt64) (nI w)) fun x15 σ16 => (isB x15).bind fun _ => some (x15, σ16, 0, 0)) (fnA i m lost w (A.2.1 j) s.toInt A) := by
      intro X3 m lost q1 q2 q3 q4 q5 q6
      have h3 := h2.ot q1
      refine mo_b1 m_g2 (mo_b1 (ld3 rfl hj) ?_)
      obtain ⟨X4, d1, d2, d3⟩ := t_mfinish (σ := σ) (o := o) (r := 0) (n := A.2.1 j) (s := s.toInt) (u := nI i) (v := 0) (z := X3 3 j) (w := nI w) (y := (s : Int32).toInt64) (by decide) hi rfl rfl h3 q2 q3 q4 q5 hw (fun g => by rw [sgn_r h3 hj, sg_pos (q6 g)]) rfl (iZ_lx s) (by omega) (by omega)
      exact mo_rt (X1 := X3) ((a3.kt.trans O2.kt).trans q1.kt) ⟨X4, d1, d2, d3⟩ isB_fnA
    have body : (sz (A.1 j) + up ≤ 4096 ∨ A.1 j = 0) → Mo σ o X (jn (fun (z12 : St) => ((gR z12 6 o 2).bind fun r13 => (ldI z12 r13 (nI j)).bind fun x14 => bd (f_X6_finish z12 o (nI i) 0 x14 ((s : Int32).toInt64) (nI w)) fun x15 σ16 => (isB x15).bind fun _ => some (x15, σ16, 0, 0))) fun k12 => jn (fun (z17 : Unit) => (bd (f_X6_lower (mst σ o X2) o 0 (-lZ up)) fun _ σ18 => k12 σ18)) fun k17 => if lZ up ≤ 0 then (k17 ()) else (gR (mst σ o X2) 6 o 5).bind fun r19 => (ldI (mst σ o X2) r19 0).bind fun x20 => if x20 ≤ 0 then (k17 ()) else bd (f_X6_raise (mst σ o X2) o 0 ((lZ up : Int64).toInt32)) fun _ σ21 => k12 σ21) (if A.2.2 j ≤ s.toInt then kpA i (A.1 j * 10 ^ up.toNat) (A.2.1 j) s.toInt A else fnA i (A.1 j / 10 ^ (A.2.2 j - s.toInt).toNat) (lostc (A.1 j % 10 ^ (A.2.2 j - s.toInt).toNat) (10 ^ (A.2.2 j - s.toInt).toNat) false) w (A.2.1 j) s.toInt A) := by
      intro hfit
      have kf : ∀ m : Nat, kpA i m (A.2.1 j) s.toInt A = fnA i m 0 w (A.2.1 j) s.toInt A := fun m => by
        unfold fnA
        rw [if_neg (by omega)]
        congr 1
      obtain ⟨X3, b1, b2, b3, b4⟩ := t_mlower (σ := σ) (o := o) (y := 0) (b := -up) (z := -lZ up) (by decide) r2 rfl (by rw [lZ_neg]) (by omega) (by omega)
      refine mo_jn (mo_jn ?_)
      by_cases hup0 : up ≤ 0
      · refine mo_t ((lZ_le (b := 0) (by omega) (by omega) (by omega) (by omega)).mpr hup0) ?_
        refine mo_bd b1 ?_
        by_cases hz : up = 0
        · refine mo_R ((if_pos (by omega)).trans (kf _)) ?_
          rw [hz]
          rw [hz] at b2 b4
          rw [show (-(0 : Int)).toNat = 0 from rfl, Nat.pow_zero, Nat.div_one] at b2
          rw [show (-(0 : Int)).toNat = 0 from rfl, Nat.pow_zero, Nat.mod_one, lost_0 (by decide)] at b4
          rw [show (0 : Int).toNat = 0 from rfl, Nat.pow_zero, Nat.mul_one]
          exact fin X3 _ 0 b3 b2 (by omega) b4 (by decide) (fun g => by omega)
        · refine mo_R (if_neg (by omega)) ?_
          rw [show (-up).toNat = (A.2.2 j - s.toInt).toNat by omega] at b2 b4
          refine fin X3 _ _ b3 b2 (by rw [sz_div]; omega) b4 (lost_lt _ _ _) (fun g => ?_)
          rcases g with g | g
          · exact Nat.pos_of_ne_zero fun w => by rw [w, Nat.zero_div] at g; omega
          · exact lost_pos (Nat.pow_pos (by decide)) g
      · refine mo_R ((if_pos (by omega)).trans (kf _)) ?_
        refine mo_f (fun w => hup0 ((lZ_le (b := 0) (by omega) (by omega) (by omega) (by omega)).mp w)) ?_
        refine mo_b1 m_g5 (mo_b1 pre ?_)
        rcases Nat.eq_zero_or_pos (A.1 j) with hm | hm
        · refine mo_t (by rw [hm]; decide) ?_
          refine mo_bd b1 ?_
          rw [show (-up).toNat = 0 by omega, Nat.pow_zero, Nat.div_one] at b2
          rw [show (-up).toNat = 0 by omega, Nat.pow_zero, Nat.mod_one, lost_0 (by decide)] at b4
          rw [hm] at b2
          rw [hm, Nat.zero_mul]
          exact fin X3 0 0 b3 b2 (by decide) b4 (by decide) (fun g => by omega)
        · have hs := sz_pos hm
          refine mo_f (nI_nle hs (by omega)) ?_
          obtain ⟨X4, e1, e2, e3, e4⟩ := t_mraise (σ := σ) (o := o) (y := 0) (k := up.toNat) (z := (lZ up : Int64).toInt32) (by decide) r2 rfl (by rw [lZ_i, iZ_nat (by omega)]) (by omega)
          refine mo_bd e1 ?_
          exact fin X4 _ 0 e3 e2 (by rw [sz_mul hm]; omega) (by rw [e4, l0]) (by decide) (fun _ => hm)
    rcases Nat.eq_zero_or_pos (A.1 j) with hm | hm
    · refine mo_t (by rw [hm]; decide) ?_
      exact body (Or.inr hm)
    · have hs := sz_pos hm
      refine mo_f (nI_nle hs (by omega)) ?_
      refine mo_b1 m_g5 (mo_b1 pre ?_)
      have ee : (nI (sz (A.1 j))).toInt64 + lZ up = lZ (sz (A.1 j) + up) := by rw [nI_l (by omega), lZ_n, lZ_add]
      rw [ee]
      by_cases hle : sz (A.1 j) + up ≤ 4096
      · refine mo_t ((lZ_le (b := 4096) (by omega) (by omega) (by omega) (by omega)).mpr hle) ?_
        exact body (Or.inl hle)
      · refine mo_f (fun w => hle ((lZ_le (b := 4096) (by omega) (by omega) (by omega) (by omega)).mp w)) ?_
        refine mo_R ((if_pos (by omega)).trans (kp_big (by rw [sz_mul hm]; omega))) ?_
        exact ⟨X2, rfl, h2, a3.kt.trans O2.kt⟩
  · refine mo_b1 eh (mo_t rfl ?_)
    exact mo_R (if_neg nh) (Mo.no h rfl)
end MU2
