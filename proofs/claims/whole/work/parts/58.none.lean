/-- what a cut takes away: 0 nothing, 1 less than half, 2 half, 3 more -/
def lostc (rem D : Nat) (more : Bool) : Nat := if 2 * rem < D then (if rem = 0 ∧ more = false then 0 else 1) else if 2 * rem = D ∧ more = false then 2 else 3
def bI (b : Bool) : Int32 := if b then 1 else 0
theorem bI_0 {b : Bool} : bI b = 0 ↔ b = false := by cases b <;> decide
section AO
variable {σ : St} {a L c x : Nat}
theorem vl_nines : ∀ i : Nat, vl BS (fun _ => BS - 1) i + 1 = BS ^ i
  | 0 => rfl
  | i + 1 => by
    have ih := vl_nines i
    show vl BS (fun _ => BS - 1) i + (BS - 1) * BS ^ i + 1 = BS ^ (i + 1)
    rw [Nat.pow_succ, Nat.sub_mul, Nat.one_mul]
    have h1 : BS ^ i ≤ BS * BS ^ i := Nat.le_mul_of_pos_left _ (by decide)
    rw [Nat.mul_comm (BS ^ i) BS]
    omega
theorem t_one_loop {n : Nat} {g : Nat → Nat} (h1 : σ.1 a = some (OO L n)) (h2 : ∃ f, σ.1 L = some (AA c f)) (h4 : n ≤ c) (h5 : c ≤ 4000) (h6 : ∀ j, j < n → g j < BS) : ∀ (k i : Nat) (F : Nat → Int32), n - i < k → i ≤ n → (∀ j, j < i → F j = 0 ∧ g j = BS - 1) → (∀ j, i ≤ j → j < n → F j = nI (g j)) →
    ∃ F' l, l ≤ n ∧ f_X2_addOne_L2 k (stH σ L (AA c F)) a (nI i) = some (nI l, stH σ L (AA c F'), 0, 0) ∧ (∀ j, j < l → F' j = 0 ∧ g j = BS - 1) ∧ (∀ j, l ≤ j → j < n → F' j = nI (g j)) ∧ (l < n → g l ≠ BS - 1) := by
  intro k
  induction k with
  | zero => intro i F h; omega
  | succ k ih =>
    intro i F hk hi g1 g2
    obtain ⟨f, h2⟩ := h2
    show ∃ F' l, l ≤ n ∧ b_X2_addOne_L2 (f_X2_addOne_L2 k) _ a (nI i) = _ ∧ _
    unfold b_X2_addOne_L2
    have hx : (stH σ L (AA c F)).1 a = some (OO L n) := by rw [stH_n (ne_OA h2 h1)]; exact h1
    by_cases hin : i = n
    · refine ⟨F, i, hi, ?_, g1, g2, fun h => by omega⟩
      refine q_b1 (gI_eq hx rfl) ?_
      exact q_t (nI_le (by omega) (by omega)) rfl
    · have hlt : i < n := by omega
      have e0 : ¬ nI n ≤ nI i := nI_ge hlt (by omega)
      have eB : BS = 1000000000 := rfl
      by_cases h9 : g i = BS - 1
      · obtain ⟨F', l, i1, i2, i3, i4, i5⟩ := ih (i + 1) (upd F i 0) (by omega) (by omega) (fun j hj => by
          by_cases hj2 : j = i
          · rw [hj2, pk_us]; exact ⟨rfl, h9⟩
          · rw [pk_un hj2]; exact g1 j (by omega)) (fun j hj1 hj2 => by rw [pk_un (by omega)]; exact g2 j (by omega) hj2)
        refine ⟨F', l, i1, ?_, i3, i4, i5⟩
        refine q_b1 (gI_eq hx rfl) ?_
        refine q_f e0 ?_
        refine q_b1 (gR_eq hx rfl) ?_
        refine q_b1 (ldI_eq (i := i) stH_s rfl (by omega) (by omega)) ?_
        refine q_t (by rw [g2 i (by omega) hlt, h9]; rfl) ?_
        refine q_b1 (gR_eq hx rfl) ?_
        refine q_b1 (stI_eq (i := i) stH_s rfl (by omega) (by omega)) ?_
        rw [stH_stH]
        exact q_le (nI_1 i) i2
      · refine ⟨F, i, hi, ?_, g1, g2, fun _ => h9⟩
        refine q_b1 (gI_eq hx rfl) ?_
        refine q_f e0 ?_
        refine q_b1 (gR_eq hx rfl) ?_
        refine q_b1 (ldI_eq (i := i) stH_s rfl (by omega) (by omega)) ?_
        refine q_f ?_ rfl
        rw [g2 i (by omega) hlt]
        intro z
        exact h9 ((nI_eq (bs_lt (h6 i hlt)) (by decide)).mp (show nI (g i) = nI (BS - 1) from z))
theorem t_addOne (hD : Dm σ) (h : NV σ a L c x) (hx : x < 10 ^ Em) : Ye (f_X2_addOne σ a) (PN σ a L c (x + 1)) := by
  obtain ⟨n, g, f, h1, h2, h3, h4, h5, h6, h7, h8⟩ := h.split
  have hn : n ≤ 1900 := by
    rcases Nat.eq_zero_or_pos n with w | w
    · omega
    · have := limbs_le h7 h8 w hx
      have hEm : Em = 17000 := rfl
      omega
  have hFU := FU_ge
  have eB : BS = 1000000000 := rfl
  unfold f_X2_addOne
  refine e_ob h1 ?_
  obtain ⟨F', l, l1, l2, l3, l4, l5⟩ := t_one_loop h1 ⟨f, h2⟩ h4 h5 h6 FU 0 f (by omega) (by omega) (fun j hj => by omega) (fun j _ hj => h3 j hj)
  rw [stH_self h2] at l2
  refine e_bd0 (a := nI l) l2 ?_
  have q1 : (stH σ L (AA c F')).1 a = some (OO L n) := by rw [stH_n (ne_OA h2 h1)]; exact h1
  have q2 : (stH σ L (AA c F')).1 L = some (AA c F') := stH_s
  have fr1 : Fr (fun q => q = L) σ (stH σ L (AA c F')) := Fr.st h2 rfl
  refine e_b1 (gI_eq q1 rfl) ?_
  by_cases hl : l = n
  · subst hl
    refine e_t (nI_le (Nat.le_refl _) (by omega)) ?_
    refine e_b1 (gI_eq q1 rfl) ?_
    refine e_bd (t_makeRoom (m := l + 1) (fr1.2.2.2 hD) q1 q2 (nI_1 l) (by omega) (by omega)) ?_
    rintro _ σ2 kc sc ⟨L', c', f', m1, m2, m3, m4, m5, m6, m7, m8, m9, m10, -⟩
    have hc' : c' ≤ 4000 := by have h9 : max c (2 * (l + 1)) ≤ 4000 := Nat.max_le.mpr ⟨h5, by omega⟩; omega
    have hL' : L' ≠ a := ne_AO m2 m1
    refine e_b1 (gR_eq m1 rfl) ?_
    refine e_b1 (gI_eq m1 rfl) ?_
    refine e_b1 (stI_eq (i := l) m2 rfl (by omega) (by omega)) ?_
    have q3 : (stH σ2 L' (AA c' (upd f' l 1))).1 a = some (OO L' l) := by rw [stH_n hL'.symm]; exact m1
    refine e_b1 (gI_eq q3 rfl) ?_
    refine e_b1 (pF_eq q3 (Nat.le_of_ble_eq_true rfl)) ?_
    have hst : ([Value.ref L', .int (nI l)].set 1 (.int (nI l + 1))) = [.ref L', .int (nI (l + 1))] := by rw [nI_1]; rfl
    rw [hst]
    refine e_ret ⟨L', c', NV.mk (n := l + 1) (g := fun j => if j = l then 1 else 0) (f := upd f' l 1) stH_s (by rw [stH_n hL', stH_s]) (fun j hj => ?_) m3 hc' (fun j hj => by show (if j = l then 1 else 0) < BS; split <;> decide) (fun _ => by show 0 < (if l + 1 - 1 = l then 1 else 0); rw [if_pos (by omega)]; decide) ?_, ?_, ?_, m4, by omega, by omega⟩
    · by_cases hj2 : j = l
      · rw [hj2, pk_us]
        show (1 : Int32) = nI (if l = l then 1 else 0)
        rw [if_pos rfl]; rfl
      · rw [pk_un hj2, m6 j (by omega), (l3 j (by omega)).1]
        show (0 : Int32) = nI (if j = l then 1 else 0)
        rw [if_neg hj2]; rfl
    · show vl BS (fun j => if j = l then 1 else 0) l + (if l = l then 1 else 0) * BS ^ l = x + 1
      rw [if_pos rfl, Nat.one_mul, vl_zero (fun j hj => if_neg (by omega)), Nat.zero_add, ← vl_nines l, ← h8]
      congr 1
      exact vl_congr (fun j hj => ((l3 j hj).2).symm)
    · rcases m7 with w | w
      · exact Or.inl w
      · exact Or.inr w
    · have f1 : Fr (fun q => q = L') σ2 (stH σ2 L' (AA c' (upd f' l 1))) := Fr.st m2 rfl
      have f2 : Fr (fun q => q = a) (stH σ2 L' (AA c' (upd f' l 1))) (stH (stH σ2 L' (AA c' (upd f' l 1))) a (OO L' (l + 1))) := Fr.st q3 rfl
      refine (((fr1.mono (S1 := fun q => q = a ∨ q = L) (fun q _ z => Or.inr z)).trans m8 (fun q _ z => Or.inl z)).trans f1 (fun q hq z => ?_)).trans f2 (fun q _ z => Or.inl z)
      rcases m7 with w | w
      · exact Or.inr (z.trans w)
      · have w' : σ.2.1 ≤ L' := w
        omega
  · have hlt : l < n := by omega
    refine e_f (nI_ge hlt (by omega)) ?_
    refine e_b1 (gR_eq q1 rfl) ?_
    refine e_b1 (ldI_eq (i := l) q2 rfl (by omega) (by omega)) ?_
    refine e_b1 (stI_eq (i := l) q2 rfl (by omega) (by omega)) ?_
    rw [stH_stH, l4 l (Nat.le_refl _) hlt, nI_1]
    have hgl := h6 l hlt
    have hgl2 := l5 hlt
    refine e_ret ⟨L, c, NV.mk (n := n) (g := fun j => if j < l then 0 else if j = l then g l + 1 else g j) (f := upd F' l (nI (g l + 1))) (by rw [stH_n (ne_OA h2 h1)]; exact h1) stH_s (fun j hj => ?_) h4 h5 (fun j hj => ?_) (fun hp => ?_) ?_, Or.inl rfl, Fr.st h2 (Or.inr rfl), Nat.le_refl _, Nat.le_refl _, by omega⟩
    · by_cases hj2 : j = l
      · subst hj2
        rw [pk_us, if_neg (by omega), if_pos rfl]
      · rw [pk_un hj2]
        by_cases hj3 : j < l
        · rw [if_pos hj3, (l3 j hj3).1]; rfl
        · rw [if_neg hj3, if_neg hj2]; exact l4 j (by omega) hj
    · show (if j < l then 0 else if j = l then g l + 1 else g j) < BS
      split
      · decide
      · split
        · omega
        · exact h6 j hj
    · show 0 < (if n - 1 < l then 0 else if n - 1 = l then g l + 1 else g (n - 1))
      rw [if_neg (by omega)]
      split
      · omega
      · exact h7 hp
    · obtain ⟨d, hd⟩ : ∃ d, n = l + (1 + d) := ⟨n - l - 1, by omega⟩
      rw [← h8, hd, vl_add, vl_add l (1 + d), vl_add 1 d, vl_add 1 d]
      have e1 : vl BS (fun j => if j < l then 0 else if j = l then g l + 1 else g j) l = 0 := vl_zero (fun j hj => if_pos hj)
      have e2 : vl BS (fun j => (fun j => if j < l then 0 else if j = l then g l + 1 else g j) (l + j)) 1 = g l + 1 := by
        simp [vl]
      have e3 : vl BS (fun j => g (l + j)) 1 = g l := by simp [vl]
      have e4 : vl BS (fun j => (fun j => (fun j => if j < l then 0 else if j = l then g l + 1 else g j) (l + j)) (1 + j)) d = vl BS (fun j => (fun j => g (l + j)) (1 + j)) d := vl_congr (fun j _ => by
        show (if l + (1 + j) < l then 0 else if l + (1 + j) = l then g l + 1 else g (l + (1 + j))) = g (l + (1 + j))
        rw [if_neg (by omega), if_neg (by omega)])
      have e5 : vl BS g l + 1 = BS ^ l := by
        rw [← vl_nines l]
        congr 1
        exact vl_congr (fun j hj => (l3 j hj).2)
      rw [e1, e2, e3, e4, Nat.zero_add, Nat.mul_add, Nat.mul_add, Nat.mul_add, Nat.mul_one]
      dsimp only
      omega
theorem t_cut {k : Nat} {z : Int32} {more : Bool} (hT : TN σ) (h : NV σ a L c x) (hz : z = nI k) (hk : k < 2 ^ 31) : Ye (f_X2_cut σ a z (bI more)) (fun r σ' kc sc => r = nI (lostc (x % 10 ^ k) (10 ^ k) more) ∧ PN σ a L c (x / 10 ^ k) () σ' kc sc) := by
  subst hz
  obtain ⟨n, h1⟩ := h.ob
  unfold f_X2_cut
  refine e_ob h1 ?_
  rcases Nat.eq_zero_or_pos k with w | w
  · subst w
    have hx1 : x / 10 ^ 0 = x := by rw [Nat.pow_zero, Nat.div_one]
    have hP : PN σ a L c (x / 10 ^ 0) () σ 0 0 := by rw [hx1]; exact ⟨L, c, h, Or.inl rfl, Fr.rf, Nat.le_refl _, Nat.le_refl _, by omega⟩
    refine e_f (show ¬ (0 : Int32) < nI 0 by decide) ?_
    have hr : x % 10 ^ 0 = 0 := by rw [Nat.pow_zero, Nat.mod_one]
    cases more
    · refine e_t rfl ?_
      refine e_ret ⟨?_, hP⟩
      rw [hr]; rfl
    · refine e_f (by decide) ?_
      refine e_ret ⟨?_, hP⟩
      rw [hr]; rfl
  · refine e_t ((nI_ltI (a := 0) (by decide) hk).mpr w) ?_
    have e1 : nI k - 1 = nI (k - 1) := pk_sub (b := 1) w
    refine e_b1 (t_digitAt hT h e1 (by omega)) ?_
    -- d: the digit, R: what is below it
    have hp : 10 ^ k = 10 ^ (k - 1) * 10 := by rw [← Nat.pow_succ]; congr 1; omega
    have hp0 : 0 < 10 ^ (k - 1) := Nat.pow_pos (by decide)
    have hd : x % 10 ^ k = x / 10 ^ (k - 1) % 10 * 10 ^ (k - 1) + x % 10 ^ (k - 1) := by
      rw [hp, Nat.mod_mul]
      rw [Nat.mul_comm (10 ^ (k - 1)), Nat.add_comm]
    have hlt := Nat.mod_lt x hp0
    generalize hdd : x / 10 ^ (k - 1) % 10 = dd at hd ⊢
    generalize hrr : x % 10 ^ (k - 1) = rr at hd hlt
    have hdl : dd < 10 := by rw [← hdd]; exact Nat.mod_lt _ (by decide)
    generalize hpp : 10 ^ (k - 1) = pp at hp hp0 hd hlt
    -- the rest of it, once it is known whether something lies below
    have main : ∀ rest : Int32, (rest = 0 ↔ (rr = 0 ∧ more = false)) → Ye (bd (f_X2_drop σ a (nI k)) fun _ σ3 =>
        jn (fun (z4 : Unit) => (
          jn (fun (z5 : Unit) => (if 5 ≤ nI dd then (some ((3 : Int32), σ3, 0, 0)) else some (1, σ3, 0, 0))) fun k5 =>
          if nI dd = 5 then (if rest = 0 then (some (2, σ3, 0, 0)) else k5 ()) else k5 ())) fun k4 =>
        if nI dd = 0 then (if rest = 0 then (some (0, σ3, 0, 0)) else k4 ()) else k4 ()) (fun r σ' kc sc => r = nI (lostc (x % 10 ^ k) (10 ^ k) more) ∧ PN σ a L c (x / 10 ^ k) () σ' kc sc) := by
      intro rest hrest
      refine e_bd (t_drop hT h rfl hk) ?_
      intro _ σ3 kc sc hP
      have hP' : PN σ a L c (x / 10 ^ k) () σ3 (kc + 0) (sc + 0) := hP
      have d5 : (5 : Int32) ≤ nI dd ↔ 5 ≤ dd := nI_leI (a := 5) (by decide) (by omega)
      have d5e : nI dd = 5 ↔ dd = 5 := nI_eq (b := 5) (by omega) (by decide)
      have d0e : nI dd = 0 ↔ dd = 0 := nI_eq (b := 0) (by omega) (by decide)
      have fin : ∀ v : Int32, v = nI (lostc (x % 10 ^ k) (10 ^ k) more) → Ye (some (v, σ3, 0, 0)) (fun r σ2 k' s' => r = nI (lostc (x % 10 ^ k) (10 ^ k) more) ∧ PN σ a L c (x / 10 ^ k) () σ2 (kc + k') (sc + s')) := fun v hv => e_ret ⟨hv, hP'⟩
      have lc : lostc (x % 10 ^ k) (10 ^ k) more = if dd < 5 then (if dd = 0 ∧ rr = 0 ∧ more = false then 0 else 1) else if dd = 5 ∧ rr = 0 ∧ more = false then 2 else 3 := by
        unfold lostc
        rw [hd, hp]
        by_cases h5 : dd < 5
        · have h6 : dd * pp ≤ 4 * pp := Nat.mul_le_mul_right _ (by omega)
          rw [if_pos (by omega), if_pos h5]
          by_cases h7 : dd = 0 ∧ rr = 0 ∧ more = false
          · rw [if_pos h7, if_pos ⟨by rw [h7.1, h7.2.1, Nat.zero_mul], h7.2.2⟩]
          · rw [if_neg h7, if_neg]
            rintro ⟨q1, q2⟩
            apply h7
            have q3 : dd * pp = 0 := by omega
            rcases Nat.mul_eq_zero.mp q3 with q4 | q4
            · exact ⟨q4, by omega, q2⟩
            · omega
        · have h6 : 5 * pp ≤ dd * pp := Nat.mul_le_mul_right _ (by omega)
          rw [if_neg (by omega), if_neg h5]
          by_cases h7 : dd = 5 ∧ rr = 0 ∧ more = false
          · rw [if_pos h7, if_pos ⟨by rw [h7.1, h7.2.1]; omega, h7.2.2⟩]
          · rw [if_neg h7, if_neg]
            rintro ⟨q1, q2⟩
            apply h7
            have q3 : dd = 5 := by
              rcases Nat.lt_or_ge 5 dd with q | q
              · have : 6 * pp ≤ dd * pp := Nat.mul_le_mul_right _ q
                omega
              · omega
            subst q3
            exact ⟨rfl, by omega, q2⟩
      have last : Ye (if (5 : Int32) ≤ nI dd then (some ((3 : Int32), σ3, 0, 0)) else some (1, σ3, 0, 0)) (fun r σ2 k' s' => (¬ (dd = 0 ∧ rest = 0)) → (¬ (dd = 5 ∧ rest = 0)) → (r = nI (lostc (x % 10 ^ k) (10 ^ k) more) ∧ PN σ a L c (x / 10 ^ k) () σ2 (kc + k') (sc + s'))) := by
        refine e_if (fun q => e_ret (fun q1 q2 => ⟨?_, hP'⟩)) (fun q => e_ret (fun q1 q2 => ⟨?_, hP'⟩))
        · have q3 := d5.mp q
          rw [lc, if_neg (by omega), if_neg (fun q4 => q2 ⟨q4.1, hrest.mpr q4.2⟩)]; rfl
        · have q3 : ¬ 5 ≤ dd := fun z => q (d5.mpr z)
          rw [lc, if_pos (by omega), if_neg (fun q4 => q1 ⟨q4.1, hrest.mpr q4.2⟩)]; rfl
      have mid : (¬ (dd = 0 ∧ rest = 0)) → Ye (jn (fun (z5 : Unit) => (if (5 : Int32) ≤ nI dd then (some ((3 : Int32), σ3, 0, 0)) else some (1, σ3, 0, 0))) fun k5 => if nI dd = 5 then (if rest = 0 then (some (2, σ3, 0, 0)) else k5 ()) else k5 ()) (fun r σ2 k' s' => r = nI (lostc (x % 10 ^ k) (10 ^ k) more) ∧ PN σ a L c (x / 10 ^ k) () σ2 (kc + k') (sc + s')) := by
        intro q1
        refine e_jn (fun _ => ¬ (dd = 5 ∧ rest = 0)) (fun _ q2 => e_im last (fun _ _ _ _ q3 => q3 q1 q2)) (fun k5 hk5 => ?_)
        refine e_if (fun q => e_if (fun q2 => fin 2 ?_) (fun q2 => hk5 () (fun q3 => q2 q3.2))) (fun q => hk5 () (fun q3 => q (d5e.mpr q3.1)))
        have q3 := d5e.mp q
        rw [lc, if_neg (by omega), if_pos ⟨q3, hrest.mp q2⟩]; rfl
      refine e_jn (fun _ => ¬ (dd = 0 ∧ rest = 0)) (fun _ q1 => mid q1) (fun k4 hk4 => ?_)
      refine e_if (fun q => e_if (fun q2 => fin 0 ?_) (fun q2 => hk4 () (fun q3 => q2 q3.2))) (fun q => hk4 () (fun q3 => q (d0e.mpr q3.1)))
      have q3 := d0e.mp q
      rw [lc, if_pos (by omega), if_pos ⟨q3, hrest.mp q2⟩]; rfl
    refine e_jn (fun rest => (rest = 0 ↔ (rr = 0 ∧ more = false))) (fun rest hrest => main rest hrest) (fun k2 hk2 => ?_)
    refine e_jn (fun _ => ¬ (rr = 0 ∧ more = false)) (fun _ q => hk2 1 ⟨fun z => absurd z (by decide), fun z => absurd z q⟩) (fun k6 hk6 => ?_)
    refine e_if (fun q => ?_) (fun q => hk6 () (fun z => q (bI_0.mpr z.2)))
    have hm := bI_0.mp q
    refine e_b1 (t_hasBelow hT h e1 (by omega)) ?_
    rw [hrr]
    by_cases hr0 : rr = 0
    · rw [if_pos hr0]
      refine e_t rfl ?_
      exact hk2 0 ⟨fun _ => ⟨hr0, hm⟩, fun _ => rfl⟩
    · rw [if_neg hr0]
      refine e_f (by decide) ?_
      exact hk6 () (fun z => hr0 z.1)
end AO
