/-! ===== compare, sign, precision, scale, digit of the reference ===== -/
def cmpN (x y : Nat) : Int32 := if x < y then -1 else if x = y then 0 else 1
def onV (x d : Int32) (f : Nat → Int32) : Int32 := if 0 ≤ x ∧ x < 8 then f x.toNatClampNeg else d
theorem onV_y {i : Nat} {d : Int32} {f : Nat → Int32} (h : i < 8) : onV (nI i) d f = f i := by
  unfold onV
  rw [if_pos ⟨nI_pos' (by omega), (nI_ltI (b := 8) (by omega) (by decide)).mpr h⟩, nI_clamp (by omega)]
theorem onV_n {x d : Int32} {f : Nat → Int32} (h : ¬ (0 ≤ x ∧ x < 8)) : onV x d f = d := if_neg h
def oSz (m k : Nat) (s t : Int) : Int32 := if (sz m : Int) - s < sz k - t then -1 else if (sz k : Int) - t < sz m - s then 1 else cmpN (m * 10 ^ (max (sz m) (sz k) - sz m)) (k * 10 ^ (max (sz m) (sz k) - sz k))
def sCmp (A : AS) (a b : Int32) : Int32 := onV a (-2) fun j => onV b (-2) fun k => if sg (A.1 j) (A.2.1 j) = sg (A.1 k) (A.2.1 k) then (if A.1 j = 0 then 0 else sg (A.1 j) (A.2.1 j) * oSz (A.1 j) (A.1 k) (A.2.2 j) (A.2.2 k)) else if sg (A.1 k) (A.2.1 k) ≤ sg (A.1 j) (A.2.1 j) then 1 else -1
def sSign (A : AS) (a : Int32) : Int32 := onV a (-2) fun j => sg (A.1 j) (A.2.1 j)
def sPrec (A : AS) (a : Int32) : Int32 := onV a (-1) fun j => nI (nd (A.1 j))
def sScale (A : AS) (a : Int32) : Int32 := onV a 0 fun j => iZ (A.2.2 j)
def sDigit (A : AS) (a k : Int32) : Int32 := onV a (-1) fun j => if 0 ≤ k ∧ k < nI (nd (A.1 j)) then nI (dg (A.1 j) k.toNatClampNeg) else -1
section MCmp
variable {σ : St} {o : Nat} {X : Nat → Nat → Int32} {A : AS}
theorem q_isV {x : Int32} {ρ : Type} {B C : Option ρ} {v : Option ρ} (hn : ¬ (0 ≤ x ∧ x < 8) → B = v) (hy : ∀ i, i < 8 → x = nI i → C = v) : ((f_X6_is σ x).bind fun x1 => if x1 = 0 then B else C) = v := by
  rcases is_or (σ := σ) x with ⟨i, h1, h2⟩ | ⟨h1, h2⟩
  · rw [h2, is_y h1]
    exact hy i h1 h2
  · rw [h1]
    exact hn h2
theorem t_msign {a : Int32} (h : RG X A) : f_X6_sign (mst σ o X) o a = some (sSign A a) := by
  unfold f_X6_sign sSign
  refine q_ob m_o ?_
  refine q_isV (fun hn => by rw [onV_n hn]) (fun i hi hx => ?_)
  subst hx
  rw [onV_y hi]
  refine q_b1 m_g2 (q_b1 (ld3 rfl hi) ?_)
  rw [sgn_r h hi]
theorem t_mdigitsOf {i : Nat} {a : Int32} (h : RG X A) (hi : i < 8) (ha : a = nI i) : f_X6_digitsOf (mst σ o X) o a = some (nI (nd (A.1 i))) := by
  subst ha
  unfold f_X6_digitsOf
  refine q_ob m_o ?_
  have e : X 2 i = nI (sz (A.1 i)) := (h.2 i hi).1
  have hs := (h.1 i hi).1
  refine q_b1 m_g1 (q_b1 (ld2 rfl hi) ?_)
  rw [e, nd_sz]
  rcases Nat.eq_zero_or_pos (A.1 i) with g | g
  · refine q_t (by rw [g]; rfl) ?_
    rw [if_pos g]; rfl
  · refine q_f (nI_ne0 (sz_pos g) (by omega)) ?_
    refine q_b1 m_g1 (q_b1 (ld2 rfl hi) ?_)
    rw [e, if_neg (by omega)]
theorem t_mprec {a : Int32} (h : RG X A) : f_X6_precision (mst σ o X) o a = some (sPrec A a) := by
  unfold f_X6_precision sPrec
  refine q_ob m_o ?_
  refine q_isV (fun hn => by rw [onV_n hn]) (fun i hi hx => ?_)
  subst hx
  rw [onV_y hi]
  exact q_b1 (t_mdigitsOf h hi rfl) rfl
theorem t_mscale {a : Int32} (h : RG X A) : f_X6_scale (mst σ o X) o a = some (sScale A a) := by
  unfold f_X6_scale sScale
  refine q_ob m_o ?_
  refine q_isV (fun hn => by rw [onV_n hn]) (fun i hi hx => ?_)
  subst hx
  rw [onV_y hi]
  refine q_b1 m_g3 (q_b1 (ld4 rfl hi) ?_)
  rw [(h.2 i hi).2.2.2]
theorem t_mdigit {a k : Int32} (h : RG X A) : f_X6_digit (mst σ o X) o a k = some (sDigit A a k) := by
  unfold f_X6_digit sDigit
  refine q_ob m_o ?_
  refine q_isV (fun hn => by rw [onV_n hn]) (fun i hi hx => ?_)
  subst hx
  rw [onV_y hi]
  have hs := (h.1 i hi).1
  have hn : nd (A.1 i) ≤ 4096 := by rw [nd_sz]; split <;> omega
  by_cases hk : k < 0
  · refine q_t hk ?_
    rw [if_neg (fun w => Int32.not_lt.mpr w.1 hk)]
  · refine q_f hk ?_
    obtain ⟨j, hj, rfl⟩ := nI_of hk
    refine q_b1 (t_mdigitsOf h hi rfl) ?_
    by_cases hlt : j < nd (A.1 i)
    · refine q_t (nI_lt hlt (by omega)) ?_
      rw [if_pos ⟨nI_pos' (by omega), nI_lt hlt (by omega)⟩, nI_clamp (by omega)]
      refine q_b1 m_g1 (q_b1 (ld2 rfl hi) ?_)
      rw [(h.2 i hi).1]
      rcases Nat.eq_zero_or_pos (A.1 i) with g | g
      · refine q_t (by rw [g]; rfl) ?_
        rw [g, dg_hi (Nat.zero_le _)]; rfl
      · refine q_f (nI_ne0 (sz_pos g) (by omega)) ?_
        rw [nd_sz, if_neg (by omega)] at hlt
        refine q_b1 m_g0 (q_b1 (ld1 nI_q (by omega)) ?_)
        rw [(h.2 i hi).2.1 j hlt]
    · refine q_f (fun w => hlt ((nI_ltI (by omega) (by omega)).mp w)) ?_
      rw [if_neg (fun w => hlt ((nI_ltI (by omega) (by omega)).mp w.2))]
theorem cmp_dig {x y n i : Nat} (hx : x < 10 ^ n) (hy : y < 10 ^ n) (hi : i < n) (he : ∀ j, i < j → j < n → dg x j = dg y j) : (dg x i < dg y i → x < y) ∧ (dg y i < dg x i → y < x) := by
  have ex : vl 10 (dg x) n = x := by rw [vl_dg, Nat.mod_eq_of_lt hx]
  have ey : vl 10 (dg y) n = y := by rw [vl_dg, Nat.mod_eq_of_lt hy]
  constructor
  · intro h
    rw [← ex, ← ey]
    exact vl_cmpB hi (fun j _ => dg_lt x j) he h
  · intro h
    rw [← ex, ← ey]
    exact vl_cmpB hi (fun j _ => dg_lt y j) (fun j a b => (he j a b).symm) h
theorem t_mcp_loop {j k : Nat} (hj : j < 8) (hk : k < 8) (h : RG X A) (g1 : 0 < A.1 j) (g2 : 0 < A.1 k) : ∀ (f n : Nat), max (sz (A.1 j)) (sz (A.1 k)) + 2 - n < f → 0 < n → n ≤ max (sz (A.1 j)) (sz (A.1 k)) + 1 → (∀ i, max (sz (A.1 j)) (sz (A.1 k)) - n < i → i < max (sz (A.1 j)) (sz (A.1 k)) → dg (A.1 j * 10 ^ (max (sz (A.1 j)) (sz (A.1 k)) - sz (A.1 j))) i = dg (A.1 k * 10 ^ (max (sz (A.1 j)) (sz (A.1 k)) - sz (A.1 k))) i) → (n = max (sz (A.1 j)) (sz (A.1 k)) + 1 → A.1 j * 10 ^ (max (sz (A.1 j)) (sz (A.1 k)) - sz (A.1 j)) = A.1 k * 10 ^ (max (sz (A.1 j)) (sz (A.1 k)) - sz (A.1 k))) → f_X6_compare_L125 f (mst σ o X) o (nI j) (nI k) 0 (nI n) = some (cmpN (A.1 j * 10 ^ (max (sz (A.1 j)) (sz (A.1 k)) - sz (A.1 j))) (A.1 k * 10 ^ (max (sz (A.1 j)) (sz (A.1 k)) - sz (A.1 k)))) := by
  obtain ⟨w, hw⟩ : ∃ w, max (sz (A.1 j)) (sz (A.1 k)) = w := ⟨_, rfl⟩
  rw [hw]
  have c0 := (h.1 j hj).1
  have k0 := (h.1 k hk).1
  have y2j : ldI (mst σ o X) (o + 2) (nI j) = some (nI (sz (A.1 j))) := by rw [ld2 rfl hj, (h.2 j hj).1]
  have y2k : ldI (mst σ o X) (o + 2) (nI k) = some (nI (sz (A.1 k))) := by rw [ld2 rfl hk, (h.2 k hk).1]
  have sx : A.1 j * 10 ^ (w - sz (A.1 j)) < 10 ^ w := sz_le.mp (by rw [sz_mul g1]; omega)
  have sy : A.1 k * 10 ^ (w - sz (A.1 k)) < 10 ^ w := sz_le.mp (by rw [sz_mul g2]; omega)
  have dx : ∀ n, 0 < n → n ≤ w → dg (A.1 j * 10 ^ (w - sz (A.1 j))) (w - n) = if n ≤ sz (A.1 j) then dg (A.1 j) (sz (A.1 j) - n) else 0 := fun n n0 nw => by
    by_cases hn : n ≤ sz (A.1 j)
    · rw [if_pos hn, show w - n = (sz (A.1 j) - n) + (w - sz (A.1 j)) by omega, dg_mul_hi]
    · rw [if_neg hn, dg_mul_lo (by omega)]
  have dy : ∀ n, 0 < n → n ≤ w → dg (A.1 k * 10 ^ (w - sz (A.1 k))) (w - n) = if n ≤ sz (A.1 k) then dg (A.1 k) (sz (A.1 k) - n) else 0 := fun n n0 nw => by
    by_cases hn : n ≤ sz (A.1 k)
    · rw [if_pos hn, show w - n = (sz (A.1 k) - n) + (w - sz (A.1 k)) by omega, dg_mul_hi]
    · rw [if_neg hn, dg_mul_lo (by omega)]
  obtain ⟨x, hx⟩ : ∃ x, A.1 j * 10 ^ (w - sz (A.1 j)) = x := ⟨_, rfl⟩
  obtain ⟨y, hy⟩ : ∃ y, A.1 k * 10 ^ (w - sz (A.1 k)) = y := ⟨_, rfl⟩
  rw [hx] at sx dx ⊢
  rw [hy] at sy dy ⊢
  intro f
  induction f with
  | zero => intro n a; omega
  | succ f ih =>
    intro n hf n0 hn he hend
    show b_X6_compare_L125 (f_X6_compare_L125 f) _ o _ _ _ _ = _
    unfold b_X6_compare_L125
    refine q_t rfl ?_
    refine q_b1 m_g1 (q_b1 y2j (q_jn ?_))
    by_cases hnw : n ≤ w
    · have step : ((gR (mst σ o X) 6 o 1).bind fun r24 =>
      (ldI (mst σ o X) r24 (nI j)).bind fun x25 =>
      jn (fun (z26 : Int32) => (
        (gR (mst σ o X) 6 o 1).bind fun r27 =>
        (ldI (mst σ o X) r27 (nI k)).bind fun x28 =>
        jn (fun (z29 : Int32) => (
          jn (fun (z30 : Int32) => (
            lt (nI n + 1) fun x31 =>
            f_X6_compare_L125 f (mst σ o X) o (nI j) (nI k) z30 x31
            )) fun k30 =>
          if z29 ≤ z26 then (
            if z26 ≤ z29 then (
              k30 0
              ) else
            k30 1
            ) else
          k30 (-1)
          )) fun k29 =>
        if x28 < nI n then (
          k29 0
          ) else
        (gR (mst σ o X) 6 o 0).bind fun r32 =>
        (gR (mst σ o X) 6 o 1).bind fun r33 =>
        (ldI (mst σ o X) r33 (nI k)).bind fun x34 =>
        (ldI (mst σ o X) r32 (((4096 * nI k) + x34) - nI n)).bind fun x35 =>
        k29 x35
        )) fun k26 =>
      if x25 < nI n then (
        k26 0
        ) else
      (gR (mst σ o X) 6 o 0).bind fun r36 =>
      (gR (mst σ o X) 6 o 1).bind fun r37 =>
      (ldI (mst σ o X) r37 (nI j)).bind fun x38 =>
      (ldI (mst σ o X) r36 (((4096 * nI j) + x38) - nI n)).bind fun x39 =>
      k26 x39) = some (cmpN x y) := by
        have lx := dg_lt x (w - n)
        have ly := dg_lt y (w - n)
        have fin : ∀ za zb : Int32, za = nI (dg x (w - n)) → zb = nI (dg y (w - n)) → (jn (fun (z30 : Int32) => (lt (nI n + 1) fun x31 => f_X6_compare_L125 f (mst σ o X) o (nI j) (nI k) z30 x31)) fun k30 => if zb ≤ za then (if za ≤ zb then (k30 0) else k30 1) else k30 (-1)) = some (cmpN x y) := by
          intro za zb h1 h2
          subst h1 h2
          obtain ⟨f', rfl⟩ : ∃ f', f = f' + 1 := ⟨f - 1, by omega⟩
          have hcd := cmp_dig sx sy (i := w - n) (by omega) he
          refine q_jn ?_
          rcases Nat.lt_trichotomy (dg x (w - n)) (dg y (w - n)) with q | q | q
          · have := hcd.1 q
            refine q_f (nI_ge q (by omega)) (q_lt ?_)
            show b_X6_compare_L125 _ _ o _ _ _ _ = _
            unfold b_X6_compare_L125
            refine q_f (by decide) ?_
            unfold cmpN
            rw [if_pos this]
          · refine q_t (nI_le (by omega) (by omega)) ?_
            refine q_t (nI_le (by omega) (by omega)) ?_
            refine q_le (nI_1 n) ?_
            refine ih (n + 1) (by omega) (by omega) (by omega) (fun i hi1 hi2 => ?_) (fun hnn => ?_)
            · by_cases hin : i = w - n
              · subst hin; exact q
              · exact he i (by omega) hi2
            · have ex : vl 10 (dg x) w = x := by rw [vl_dg, Nat.mod_eq_of_lt sx]
              have ey : vl 10 (dg y) w = y := by rw [vl_dg, Nat.mod_eq_of_lt sy]
              rw [← ex, ← ey]
              refine vl_congr (fun i hi => ?_)
              by_cases hin : i = w - n
              · subst hin; exact q
              · exact he i (by omega) hi
          · have := hcd.2 q
            refine q_t (nI_le (by omega) (by omega)) ?_
            refine q_f (nI_ge q (by omega)) (q_lt ?_)
            show b_X6_compare_L125 _ _ o _ _ _ _ = _
            unfold b_X6_compare_L125
            refine q_f (by decide) ?_
            unfold cmpN
            rw [if_neg (by omega), if_neg (by omega)]
        have second : ∀ za : Int32, za = nI (dg x (w - n)) → ((gR (mst σ o X) 6 o 1).bind fun r27 =>
        (ldI (mst σ o X) r27 (nI k)).bind fun x28 =>
        jn (fun (z29 : Int32) => (
          jn (fun (z30 : Int32) => (
            lt (nI n + 1) fun x31 =>
            f_X6_compare_L125 f (mst σ o X) o (nI j) (nI k) z30 x31
            )) fun k30 =>
          if z29 ≤ za then (
            if za ≤ z29 then (
              k30 0
              ) else
            k30 1
            ) else
          k30 (-1)
          )) fun k29 =>
        if x28 < nI n then (
          k29 0
          ) else
        (gR (mst σ o X) 6 o 0).bind fun r32 =>
        (gR (mst σ o X) 6 o 1).bind fun r33 =>
        (ldI (mst σ o X) r33 (nI k)).bind fun x34 =>
        (ldI (mst σ o X) r32 (((4096 * nI k) + x34) - nI n)).bind fun x35 =>
        k29 x35) = some (cmpN x y) := by
          intro za hza
          refine q_b1 m_g1 (q_b1 y2k (q_jn ?_))
          by_cases hs : n ≤ sz (A.1 k)
          · refine q_f (nI_nlt hs (by omega)) ?_
            refine q_b1 m_g0 (q_b1 m_g1 (q_b1 y2k ?_))
            refine q_b1 (ld1 (i := 4096 * k + (sz (A.1 k) - n)) (by rw [nI_q, pk_sub (by omega)]; congr 1; omega) (by omega)) ?_
            refine fin _ _ hza ?_
            rw [(h.2 k hk).2.1 _ (by omega), dy n n0 hnw, if_pos hs]
          · refine q_t (nI_lt (by omega) (by omega)) ?_
            exact fin _ _ hza (by rw [dy n n0 hnw, if_neg hs]; rfl)
        refine q_b1 m_g1 (q_b1 y2j (q_jn ?_))
        by_cases hs : n ≤ sz (A.1 j)
        · refine q_f (nI_nlt hs (by omega)) ?_
          refine q_b1 m_g0 (q_b1 m_g1 (q_b1 y2j ?_))
          refine q_b1 (ld1 (i := 4096 * j + (sz (A.1 j) - n)) (by rw [nI_q, pk_sub (by omega)]; congr 1; omega) (by omega)) ?_
          refine second _ ?_
          rw [(h.2 j hj).2.1 _ (by omega), dx n n0 hnw, if_pos hs]
        · refine q_t (nI_lt (by omega) (by omega)) ?_
          exact second _ (by rw [dx n n0 hnw, if_neg hs]; rfl)
      by_cases hs : n ≤ sz (A.1 j)
      · exact q_t (nI_le hs (by omega)) step
      · refine q_f (nI_ge (by omega) (by omega)) ?_
        refine q_b1 m_g1 (q_b1 y2k ?_)
        exact q_f (nI_nlt (by omega) (by omega)) step
    · refine q_f (nI_ge (by omega) (by omega)) ?_
      refine q_b1 m_g1 (q_b1 y2k ?_)
      refine q_t (nI_lt (by omega) (by omega)) ?_
      have := hend (by omega)
      unfold cmpN
      rw [if_neg (by omega), if_pos this]
theorem t_mcompare {a b : Int32} (h : RG X A) : f_X6_compare (mst σ o X) o a b = some (sCmp A a b) := by
  have hF := FU_ge
  unfold f_X6_compare sCmp
  refine q_ob m_o ?_
  rcases is_or (σ := mst σ o X) a with ⟨j, hj, rfl⟩ | ⟨h1, h2⟩
  · rw [onV_y hj]
    refine q_b1 (is_y hj) (q_jn (q_f (by decide) ?_))
    rcases is_or (σ := mst σ o X) b with ⟨k, hk, rfl⟩ | ⟨h1, h2⟩
    · rw [onV_y hk]
      refine q_b1 (is_y hk) (q_f (by decide) ?_)
      refine q_b1 m_g2 (q_b1 (ld3 rfl hj) (q_b1 m_g2 (q_b1 (ld3 rfl hk) ?_)))
      rw [sgn_r h hj, sgn_r h hk]
      obtain ⟨c0, c1, c2, c3⟩ := h.1 j hj
      obtain ⟨k0, k1, k2, k3⟩ := h.1 k hk
      by_cases hs : sg (A.1 j) (A.2.1 j) = sg (A.1 k) (A.2.1 k)
      · refine q_t hs ?_
        rw [if_pos hs]
        refine q_b1 m_g2 (q_b1 (ld3 rfl hj) ?_)
        rw [sgn_r h hj]
        by_cases hz : A.1 j = 0
        · refine q_t (sg_0.mpr hz) ?_
          rw [if_pos hz]
        · refine q_f (fun w => hz (sg_0.mp w)) ?_
          rw [if_neg hz]
          have hz2 : A.1 k ≠ 0 := fun w => hz (sg_0.mp (hs.trans (sg_0.mpr w)))
          refine q_b1 m_g1 (q_b1 (ld2 rfl hj) (q_b1 m_g3 (q_b1 (ld4 rfl hj) ?_)))
          refine q_le (y := lZ ((sz (A.1 j) : Int) - A.2.2 j)) (by rw [(h.2 j hj).1, scl_r h hj, nI_l (by omega), lZ_n, lZ_sub]) ?_
          refine q_b1 m_g1 (q_b1 (ld2 rfl hk) (q_b1 m_g3 (q_b1 (ld4 rfl hk) ?_)))
          refine q_le (y := lZ ((sz (A.1 k) : Int) - A.2.2 k)) (by rw [(h.2 k hk).1, scl_r h hk, nI_l (by omega), lZ_n, lZ_sub]) (q_jn ?_)
          have fin : ∀ z v : Int32, f_X6_compare_L125 FU (mst σ o X) o (nI j) (nI k) z 1 = some v → v = oSz (A.1 j) (A.1 k) (A.2.2 j) (A.2.2 k) → ((f_X6_compare_L125 FU (mst σ o X) o (nI j) (nI k) z 1).bind fun y42 => (gR (mst σ o X) 6 o 2).bind fun r43 => (ldI (mst σ o X) r43 (nI j)).bind fun x44 => some (x44 * y42)) = some (sg (A.1 j) (A.2.1 j) * oSz (A.1 j) (A.1 k) (A.2.2 j) (A.2.2 k)) := by
            intro z v hv he
            refine q_b1 hv (q_b1 m_g2 (q_b1 (ld3 rfl hj) ?_))
            rw [sgn_r h hj, he]
          have skip : ∀ z : Int32, z ≠ 0 → f_X6_compare_L125 FU (mst σ o X) o (nI j) (nI k) z 1 = some z := by
            intro z hz
            obtain ⟨f, hf⟩ : ∃ f, FU = f + 1 := ⟨FU - 1, by omega⟩
            rw [hf]
            show b_X6_compare_L125 _ _ o _ _ _ _ = _
            unfold b_X6_compare_L125
            exact q_f hz rfl
          by_cases hlt : (sz (A.1 j) : Int) - A.2.2 j < sz (A.1 k) - A.2.2 k
          · refine q_f (fun w => by have := (lZ_le (by omega) (by omega) (by omega) (by omega)).mp w; omega) ?_
            exact fin (-1) (-1) (skip _ (by decide)) (by unfold oSz; rw [if_pos hlt])
          · refine q_t ((lZ_le (by omega) (by omega) (by omega) (by omega)).mpr (by omega)) ?_
            by_cases hgt : (sz (A.1 k) : Int) - A.2.2 k < sz (A.1 j) - A.2.2 j
            · refine q_f (fun w => by have := (lZ_le (by omega) (by omega) (by omega) (by omega)).mp w; omega) ?_
              exact fin 1 1 (skip _ (by decide)) (by unfold oSz; rw [if_neg hlt, if_pos hgt])
            · refine q_t ((lZ_le (by omega) (by omega) (by omega) (by omega)).mpr (by omega)) ?_
              refine fin 0 _ (t_mcp_loop hj hk h (by omega) (by omega) FU 1 (by omega) (by omega) (by omega) (fun i h1 h2 => by omega) (fun w => ?_)) (by unfold oSz; rw [if_neg hlt, if_neg hgt])
              have := sz_pos (show 0 < A.1 j by omega)
              omega
      · refine q_f hs ?_
        rw [if_neg hs]
        refine q_b1 m_g2 (q_b1 (ld3 rfl hj) (q_b1 m_g2 (q_b1 (ld3 rfl hk) ?_)))
        rw [sgn_r h hj, sgn_r h hk]
        by_cases hle : sg (A.1 k) (A.2.1 k) ≤ sg (A.1 j) (A.2.1 j)
        · rw [if_pos hle, if_pos hle]
        · rw [if_neg hle, if_neg hle]
    · rw [onV_n h2]
      exact q_b1 h1 (q_t rfl rfl)
  · rw [onV_n h2]
    exact q_b1 h1 (q_jn (q_t rfl rfl))
end MCmp
