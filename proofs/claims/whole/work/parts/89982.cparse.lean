/-! ===== read of the object ===== -/
abbrev nst (σ : St) (q : Nat) (a b e h : Int32) (x : Int64) : St := stH σ q (NO a b e h x)
section CR
variable {σ : St} {p l d q : Nat} {T : TS} {a b e h : Int32} {x : Int64}
theorem nst_q : (nst σ q a b e h x).1 q = some (NO a b e h x) := stH_s
theorem nst_p0 {v : Int32} : pF (nst σ q a b e h x) 3 q 0 (.int v) = some (nst σ q v b e h x) := by
  refine (pF_eq nst_q (Nat.le_of_ble_eq_true rfl)).trans ?_
  rw [stH_stH]; rfl
theorem nst_p1 {v : Int32} : pF (nst σ q a b e h x) 3 q 1 (.int v) = some (nst σ q a v e h x) := by
  refine (pF_eq nst_q (Nat.le_of_ble_eq_true rfl)).trans ?_
  rw [stH_stH]; rfl
theorem nst_p2 {v : Int32} : pF (nst σ q a b e h x) 3 q 2 (.int v) = some (nst σ q a b v h x) := by
  refine (pF_eq nst_q (Nat.le_of_ble_eq_true rfl)).trans ?_
  rw [stH_stH]; rfl
theorem nst_p3 {v : Int32} : pF (nst σ q a b e h x) 3 q 3 (.int v) = some (nst σ q a b e v x) := by
  refine (pF_eq nst_q (Nat.le_of_ble_eq_true rfl)).trans ?_
  rw [stH_stH]; rfl
theorem nst_p4 {v : Int64} : pF (nst σ q a b e h x) 3 q 4 (.long v) = some (nst σ q a b e h v) := by
  refine (pF_eq nst_q (Nat.le_of_ble_eq_true rfl)).trans ?_
  rw [stH_stH]; rfl
theorem nst_t (hT : TT σ p l d T) (h1 : p ≠ q) (h2 : l ≠ q) : TT (nst σ q a b e h x) p l d T := by
  obtain ⟨q1, ⟨ff, q2, q3⟩, q4⟩ := hT
  exact ⟨by rw [stH_n h1]; exact q1, ⟨ff, by rw [stH_n h2]; exact q2, q3⟩, q4⟩
theorem t_fd {s : Nat} (hT : TT σ p l d T) (h1 : p ≠ q) (h2 : l ≠ q) : ∀ (f n : Nat) (pt : Option Nat), n < f → n ≤ T.2 → s ≤ T.2 - n → Sc T s (T.2 - n) pt → ∃ σ', f_X3_findDigits_L23 f (nst σ q a b (nI (T.2 - n)) (nI (bh (T.2 - n) pt)) x) q p (nI (T.2 - n - s - pn pt)) (bI (decide (pt ≠ none))) (nI (T.2 - n)) = some (nI ((scF T n pt).1 - s - pn (scF T n pt).2), σ', 0, 0) ∧ σ' = nst σ q a b (nI (scF T n pt).1) (nI (bh (scF T n pt).1 (scF T n pt).2)) x := by
  have hT6 := hT.2.2.2.2.2.1
  intro f
  induction f with
  | zero => intro n pt g; omega
  | succ f ih =>
    intro n pt hf hn hs hsc
    show ∃ σ', b_X3_findDigits_L23 (f_X3_findDigits_L23 f) _ q p _ _ _ = _ ∧ _
    unfold b_X3_findDigits_L23
    have hT' : TT (nst σ q a b (nI (T.2 - n)) (nI (bh (T.2 - n) pt)) x) p l d T := nst_t hT h1 h2
    cases n with
    | zero =>
      refine ⟨_, ?_, rfl⟩
      refine q_b1 (gI_eq hT'.1 rfl) ?_
      exact q_t (nI_le (by omega) (by omega)) rfl
    | succ n =>
      obtain ⟨i, hi⟩ : ∃ i, T.2 - (n + 1) = i := ⟨_, rfl⟩
      have hiT : i < T.2 := by omega
      have e1 : T.2 - n = i + 1 := by omega
      rw [hi] at hT' hs hsc ⊢
      have t3 := (hT.2.2.2.2.2.2 i hiT).2
      obtain ⟨z1, z2, z3, z4⟩ := hsc
      have hpb : pn pt ≤ i - s := by
        unfold pn
        cases pt with
        | none => rw [if_pos rfl]; omega
        | some k => have := z4 k rfl; rw [if_neg (fun w => by cases w)]; omega
      unfold scF
      rw [hi]
      by_cases hd : isD (T.1 i) = true
      · rw [if_pos hd]
        obtain ⟨σ', a1, a2⟩ := ih n pt (by omega) (by omega) (by omega) (by
          rw [e1]
          refine ⟨by omega, by omega, fun j aa bb => ?_, fun k hk => by have := z4 k hk; omega⟩
          by_cases hj : j = i
          · subst hj
            refine Or.inr ⟨fun w => ?_, hd⟩
            have := z4 _ w
            omega
          · exact z3 j aa (by omega))
        refine ⟨σ', ?_, a2⟩
        rw [e1] at a1
        refine q_b1 (gI_eq hT'.1 rfl) (q_f (nI_ge hiT (by omega)) (q_b1 (t_hasDigit hT' rfl hiT) ?_))
        rw [hd]
        refine q_jn (q_f (by decide) (q_le (nI_1 _) (q_b1 (gI_eq nst_q rfl) ?_)))
        refine q_jp (fun z13 => z13 = nI (pn pt)) ?_ ?_
        · intro z13 hz
          subst hz
          refine q_b1 nst_p3 (q_b1 nst_p2 (q_le (nI_1 i) ?_))
          have eb : nI (bh i pt) + nI (pn pt) = nI (bh (i + 1) pt) := by
            rw [nI_add]
            congr 1
            cases pt with
            | none => rfl
            | some k =>
              have := z4 k rfl
              show i - k - 1 + 1 = i + 1 - k - 1
              omega
          rw [eb, nI_1]
          rw [show i + 1 - s - pn pt = i - s - pn pt + 1 by omega] at a1
          exact a1
        · intro k13 hk13
          cases pt with
          | none => exact q_t rfl (hk13 _ rfl)
          | some k => exact q_f (by rw [decide_eq_true (fun w => by cases w)]; decide) (hk13 _ rfl)
      · rw [if_neg hd]
        have hcode := t_codeAt hT' (x := nI i) rfl (by omega)
        rw [if_pos hiT] at hcode
        by_cases hp : T.1 i = 46 ∧ pt = none
        · rw [if_pos hp]
          obtain ⟨hp1, rfl⟩ := hp
          obtain ⟨σ', a1, a2⟩ := ih n (some i) (by omega) (by omega) (by omega) (by
            rw [e1]
            refine ⟨by omega, by omega, fun j aa bb => ?_, fun k hk => by injection hk with hk; omega⟩
            by_cases hj : j = i
            · subst hj
              exact Or.inl ⟨rfl, hp1⟩
            · rcases z3 j aa (by omega) with w | w
              · cases w.1
              · refine Or.inr ⟨fun z => hj ?_, w.2⟩
                injection z with z
                exact z.symm)
          refine ⟨σ', ?_, a2⟩
          rw [e1] at a1
          refine q_b1 (gI_eq hT'.1 rfl) (q_f (nI_ge hiT (by omega)) (q_b1 (t_hasDigit hT' rfl hiT) ?_))
          rw [Bool.eq_false_iff.mpr hd]
          refine q_jn (q_t rfl (q_b1 hcode ?_))
          refine q_t ((c_eq t3 (d := 46) (by decide)).mpr hp1) (q_t rfl ?_)
          refine q_b1 nst_p2 (q_le (nI_1 i) ?_)
          have e0 : bh (i + 1) (some i) = bh i none := by show i + 1 - i - 1 = 0; omega
          have ep : i + 1 - s - pn (some i) = i - s - pn none := by show i + 1 - s - 1 = i - s - 0; omega
          rw [e0, ep] at a1
          rw [nI_1]
          exact a1
        · rw [if_neg hp]
          refine ⟨_, ?_, rfl⟩
          refine q_b1 (gI_eq hT'.1 rfl) (q_f (nI_ge hiT (by omega)) (q_b1 (t_hasDigit hT' rfl hiT) ?_))
          rw [Bool.eq_false_iff.mpr hd]
          refine q_jn (q_t rfl (q_b1 hcode ?_))
          by_cases h46 : T.1 i = 46
          · refine q_t ((c_eq t3 (d := 46) (by decide)).mpr h46) ?_
            have : pt ≠ none := fun w => hp ⟨h46, w⟩
            refine q_f (by rw [decide_eq_true this]; decide) rfl
          · exact q_f (fun w => h46 ((c_eq t3 (d := 46) (by decide)).mp w)) rfl
theorem t_fe {fr : Nat} {i2 i3 : Int32} (hT : TT σ p l d T) (h1 : p ≠ q) (h2 : l ≠ q) (hfr : fr ≤ T.2) : ∀ (f n v : Nat), n < f → n ≤ T.2 - fr → v ≤ 1000000000000 → (v = vlF T fr (T.2 - n - fr) ∨ (100000000000 < v ∧ 100000000000 < vlF T fr (T.2 - n - fr))) → ∃ r v', f_X3_findExponent_L19 f (nst σ q a b e h (lN v)) q p i2 i3 (nI (T.2 - n)) = some (r, nst σ q a b e h (lN v'), 0, 0) ∧ v' ≤ 1000000000000 ∧ (adB T n = true → r = .inr () ∧ (v' = vlF T fr (T.2 - fr) ∨ (100000000000 < v' ∧ 100000000000 < vlF T fr (T.2 - fr)))) ∧ (adB T n = false → r = .inl ()) := by
  have hT6 := hT.2.2.2.2.2.1
  intro f
  induction f with
  | zero => intro n v g; omega
  | succ f ih =>
    intro n v hf hn hv hx
    show ∃ r v', b_X3_findExponent_L19 (f_X3_findExponent_L19 f) _ q p _ _ _ = _ ∧ _
    unfold b_X3_findExponent_L19
    have hT' : TT (nst σ q a b e h (lN v)) p l d T := nst_t hT h1 h2
    cases n with
    | zero =>
      refine ⟨.inr (), v, ?_, hv, fun _ => ⟨rfl, hx⟩, (fun w => by cases w)⟩
      refine q_b1 (gI_eq hT'.1 rfl) ?_
      exact q_t (nI_le (by omega) (by omega)) rfl
    | succ n =>
      obtain ⟨i, hi⟩ : ∃ i, T.2 - (n + 1) = i := ⟨_, rfl⟩
      have hiT : i < T.2 := by omega
      have e1 : T.2 - n = i + 1 := by omega
      rw [hi] at hx ⊢
      have t3 := (hT.2.2.2.2.2.2 i hiT).2
      unfold adB
      rw [hi]
      by_cases hd : isD (T.1 i) = true
      · obtain ⟨d1, d2⟩ := isD_y.mp hd
        have ev : vlF T fr (T.2 - n - fr) = vlF T fr (i - fr) * 10 + (T.1 i - 48) := by
          rw [e1, show i + 1 - fr = (i - fr) + 1 by omega]
          show (if T.1 (fr + (i - fr)) = 46 then _ else _) = _
          rw [show fr + (i - fr) = i by omega, if_neg (by omega)]
        rw [hd, Bool.true_and]
        obtain ⟨v1, hv1⟩ : ∃ v1, min (v * 10 + (T.1 i - 48)) 1000000000000 = v1 := ⟨_, rfl⟩
        obtain ⟨r, v', a1, a2, a3, a4⟩ := ih n v1 (by omega) (by omega) (by omega) (by
          rw [ev]
          rcases hx with w | ⟨w1, w2⟩
          · by_cases hs : v * 10 + (T.1 i - 48) ≤ 1000000000000
            · left; omega
            · right; omega
          · right; omega)
        refine ⟨r, v', ?_, a2, a3, a4⟩
        rw [e1] at a1
        have hcode := t_codeAt hT' (x := nI i) rfl (by omega)
        rw [if_pos hiT] at hcode
        refine q_b1 (gI_eq hT'.1 rfl) (q_f (nI_ge hiT (by omega)) (q_b1 (t_hasDigit hT' rfl hiT) ?_))
        rw [hd]
        refine q_f (by decide) (q_b1 (gL_eq nst_q rfl) (q_b1 hcode ?_))
        refine q_b1 (j_minLZ (a := ((v * 10 + (T.1 i - 48) : Nat) : Int)) (b := 1000000000000) ?_ rfl (by omega) (by omega) (by omega) (by omega)) ?_
        · rw [nI_l (by omega), lZ_n, lZ_n, show (10 : Int64) = lZ 10 from rfl, show (48 : Int64) = lZ 48 from rfl, lZ_mul, lZ_add, lZ_sub]
          congr 1
          omega
        · refine q_b1 nst_p4 (q_le (nI_1 i) ?_)
          have : lZ (min ((v * 10 + (T.1 i - 48) : Nat) : Int) 1000000000000) = lN v1 := by
            rw [lZ_n]; congr 1; omega
          rw [this]; exact a1
      · rw [Bool.eq_false_iff.mpr hd, Bool.false_and]
        refine ⟨.inl (), v, ?_, hv, (fun w => by cases w), fun _ => rfl⟩
        refine q_b1 (gI_eq hT'.1 rfl) (q_f (nI_ge hiT (by omega)) (q_b1 (t_hasDigit hT' rfl hiT) ?_))
        rw [Bool.eq_false_iff.mpr hd]
        exact q_t rfl rfl
/-- what parse leaves -/
theorem t_parse {a0 b0 e0 h0 : Int32} {x0 : Int64} (hT : TT σ p l d T) (hq : σ.1 q = some (NO a0 b0 e0 h0 x0)) : ∃ ok e h x, f_X3_parse σ q p = some (bI ok, nst σ q (bI (ngT T)) (nI (sgI T)) e h x, 0, 0) ∧ (ok = false → prT T = none) ∧ (ok = true → e = nI (scT T).1 ∧ ∃ s s' : Int, (h.toInt64 - x) = lZ s ∧ -100000000000000 ≤ s ∧ s < 100000000000000 ∧ prT T = some s' ∧ (s = s' ∨ ((s < -2147483648 ∨ 2147483648 ≤ s) ∧ (s' < -2147483648 ∨ 2147483648 ≤ s')))) := by
  have hF := FU_ge
  have hT6 := hT.2.2.2.2.2.1
  have h1 : p ≠ q := fun w => by have := hT.1; rw [w, hq] at this; cases this
  have h2 : l ≠ q := fun w => by obtain ⟨-, ⟨ff, hf, -⟩, -⟩ := hT; rw [w, hq] at hf; cases hf
  have hself : nst σ q a0 b0 e0 h0 x0 = σ := stH_self hq
  have hsg := sgI_le (T := T)
  have hsc := scT_ok (T := T)
  obtain ⟨z1, z2, z3, z4⟩ := id hsc
  obtain ⟨⟨E, pt⟩, hst⟩ : ∃ y, scT T = y := ⟨_, rfl⟩
  have hprd : prT T = if (scT T).1 - sgI T - pn (scT T).2 = 0 then none else if (scT T).1 = T.2 then some (bh (scT T).1 (scT T).2 : Int) else if T.1 (scT T).1 = 101 ∨ T.1 (scT T).1 = 69 then (if frT T ((scT T).1 + 1) < T.2 ∧ adB T (T.2 - frT T ((scT T).1 + 1)) = true then some (if dnT T ((scT T).1 + 1) = true then (bh (scT T).1 (scT T).2 : Int) + exT T ((scT T).1 + 1) else (bh (scT T).1 (scT T).2 : Int) - exT T ((scT T).1 + 1)) else none) else none := rfl
  rw [hst] at hsc z1 z2 z3 z4 hprd
  dsimp only at hsc z1 z2 z3 z4 hprd
  have hbh : bh E pt ≤ 6000 := by
    cases pt with
    | none => show 0 ≤ 6000; omega
    | some k => show E - k - 1 ≤ 6000; omega
  -- the digits
  have hfd : ∀ x : Int64, f_X3_findDigits (nst σ q (bI (ngT T)) (nI (sgI T)) e0 h0 x) q p = some (bI (decide (E - sgI T - pn pt ≠ 0)), nst σ q (bI (ngT T)) (nI (sgI T)) (nI E) (nI (bh E pt)) x, 0, 0) := fun x => by
    obtain ⟨σ', a1, a2⟩ := t_fd (σ := σ) (q := q) (a := bI (ngT T)) (b := nI (sgI T)) (x := x) (s := sgI T) hT h1 h2 FU (T.2 - sgI T) none (by omega) (by omega) (by omega) (by
      rw [show T.2 - (T.2 - sgI T) = sgI T by omega]
      exact ⟨by omega, by omega, fun j aa bb => by omega, fun k hk => by cases hk⟩)
    have e0' : scF T (T.2 - sgI T) none = (E, pt) := hst
    rw [e0'] at a1 a2
    dsimp only at a1 a2
    rw [show T.2 - (T.2 - sgI T) = sgI T by omega] at a1
    subst a2
    have ep : sgI T - sgI T - pn none = 0 := by omega
    rw [ep] at a1
    unfold f_X3_findDigits
    refine q_ob nst_q (q_b1 nst_p3 (q_b1 (gI_eq nst_q rfl) (q_b1 nst_p2 (q_b1 (gI_eq nst_q rfl) ?_))))
    refine q_bd0 a1 ?_
    by_cases hm : E - sgI T - pn pt = 0
    · rw [hm]
      exact q_t (by decide) rfl
    · refine q_f (nI_nle (by omega) (by omega)) ?_
      rw [decide_eq_true hm]; rfl
  have core : ∀ (ok : Bool) (e h : Int32) (x : Int64), (bd (f_X3_findDigits (nst σ q (bI (ngT T)) (nI (sgI T)) e0 h0 0) q p) fun x8 σ9 =>
        if x8 = 0 then (
          (isB 0).bind fun _ => some (0, σ9, 0, 0)
          ) else
        (gI σ9 3 q 2).bind fun x10 =>
        (gI σ9 4 p 1).bind fun x11 =>
        if x10 = x11 then (
          (isB 1).bind fun _ => some (1, σ9, 0, 0)
          ) else
        (gI σ9 3 q 2).bind fun x12 =>
        (f_X4_codeAt σ9 p x12).bind fun x13 =>
        jn (fun (z14 : Unit) => (
          (gI σ9 3 q 2).bind fun x15 =>
          bd (f_X3_findExponent σ9 q p (x15 + 1)) fun x16 σ17 =>
          if x16 = 0 then (
            (isB 0).bind fun _ => some (0, σ17, 0, 0)
            ) else
          (isB 1).bind fun _ => some (1, σ17, 0, 0)
          )) fun k14 =>
        if x13 = 101 then (
          k14 ()
          ) else
        if x13 = 69 then (
          k14 ()
          ) else
        (isB 0).bind fun _ => some (0, σ9, 0, 0)) = some (bI ok, nst σ q (bI (ngT T)) (nI (sgI T)) e h x, 0, 0) → f_X3_parse σ q p = some (bI ok, nst σ q (bI (ngT T)) (nI (sgI T)) e h x, 0, 0) := by
    intro ok e h x hcore
    unfold f_X3_parse
    refine q_ob hq (q_b1 (t_codeAt hT (j := 0) rfl (by decide)) ?_)
    refine q_jp (fun z2 => z2 = bI (ngT T)) ?_ ?_
    · intro z2 hz2
      subst hz2
      have p0 : pF σ 3 q 0 (.int (bI (ngT T))) = some (nst σ q (bI (ngT T)) b0 e0 h0 x0) := by
        have := nst_p0 (σ := σ) (q := q) (a := a0) (b := b0) (e := e0) (h := h0) (x := x0) (v := bI (ngT T))
        rwa [hself] at this
      refine q_b1 (bI_is _) (q_b1 p0 (q_b1 (t_hasSign (nst_t hT h1 h2) (j := 0) rfl (by decide)) ?_))
      refine q_jp (fun z5 => z5 = nI (sgI T)) ?_ ?_
      · intro z5 hz5
        subst hz5
        exact q_b1 nst_p1 (q_b1 nst_p4 hcore)
      · intro k5 hk5
        by_cases hs : 0 < T.2 ∧ (T.1 0 = 43 ∨ T.1 0 = 45)
        · refine q_f (by rw [decide_eq_true hs]; decide) (hk5 _ ?_)
          unfold sgI; rw [if_pos hs]; rfl
        · refine q_t (by rw [decide_eq_false hs]; rfl) (hk5 _ ?_)
          unfold sgI; rw [if_neg hs]; rfl
    · intro k2 hk2
      by_cases h0' : 0 < T.2
      · rw [if_pos h0']
        have t3 := (hT.2.2.2.2.2.2 0 h0').2
        by_cases h45 : T.1 0 = 45
        · refine q_t ((c_eq t3 (d := 45) (by decide)).mpr h45) (hk2 _ ?_)
          unfold ngT; rw [decide_eq_true ⟨h0', h45⟩]; rfl
        · refine q_f (fun w => h45 ((c_eq t3 (d := 45) (by decide)).mp w)) (hk2 _ ?_)
          unfold ngT; rw [decide_eq_false (fun w => h45 w.2)]; rfl
      · rw [if_neg h0']
        refine q_f (by decide) (hk2 _ ?_)
        unfold ngT; rw [decide_eq_false (fun w => h0' w.1)]; rfl
  by_cases hm : E - sgI T - pn pt = 0
  · rw [if_pos hm] at hprd
    refine ⟨false, nI E, nI (bh E pt), 0, core false _ _ _ ?_, fun _ => hprd, (fun w => by cases w)⟩
    refine q_bd0 (hfd 0) ?_
    rw [hm]
    exact q_t rfl rfl
  · rw [if_neg hm] at hprd
    have hdm : bI (decide (E - sgI T - pn pt ≠ 0)) = 1 := by rw [decide_eq_true hm]; rfl
    have hT9 : ∀ x, TT (nst σ q (bI (ngT T)) (nI (sgI T)) (nI E) (nI (bh E pt)) x) p l d T := fun x => nst_t hT h1 h2
    by_cases hET : E = T.2
    · rw [if_pos hET] at hprd
      refine ⟨true, nI E, nI (bh E pt), 0, core true _ _ _ ?_, (fun w => by cases w), fun _ => ⟨by rw [hst], bh E pt, bh E pt, ?_, by omega, by omega, hprd, Or.inl rfl⟩⟩
      · refine q_bd0 (hfd 0) ?_
        rw [hdm]
        refine q_f (by decide) (q_b1 (gI_eq nst_q rfl) (q_b1 (gI_eq (hT9 0).1 rfl) ?_))
        exact q_t (by rw [hET]) rfl
      · rw [nI_l (by omega), lZ_n, show (0 : Int64) = lZ 0 from rfl, lZ_sub, Int.sub_zero]
    · rw [if_neg hET] at hprd
      have hET' : E < T.2 := by omega
      have t3 := (hT.2.2.2.2.2.2 E hET').2
      have hcode := t_codeAt (hT9 0) (x := nI E) rfl (by omega)
      rw [if_pos hET'] at hcode
      by_cases hE : T.1 E = 101 ∨ T.1 E = 69
      · rw [if_pos hE] at hprd
        have hfr : frT T (E + 1) ≤ T.2 := by unfold frT; split <;> omega
        obtain ⟨r, v, a1, a2, a3, a4⟩ := t_fe (σ := σ) (q := q) (a := bI (ngT T)) (b := nI (sgI T)) (e := nI E) (h := nI (bh E pt)) (i2 := nI (E + 1)) (i3 := nI (frT T (E + 1))) hT h1 h2 hfr FU (T.2 - frT T (E + 1)) 0 (by omega) (by omega) (by omega) (Or.inl (by rw [show T.2 - (T.2 - frT T (E + 1)) - frT T (E + 1) = 0 by omega]; rfl))
        rw [show T.2 - (T.2 - frT T (E + 1)) = frT T (E + 1) by omega] at a1
        obtain ⟨vv, hvv⟩ : ∃ vv : Int, (if dnT T (E + 1) = true then -(v : Int) else v) = vv := ⟨_, rfl⟩
        have fexp : ∃ x, f_X3_findExponent (nst σ q (bI (ngT T)) (nI (sgI T)) (nI E) (nI (bh E pt)) 0) q p (nI (E + 1)) = some (bI (decide (frT T (E + 1) < T.2 ∧ adB T (T.2 - frT T (E + 1)) = true)), nst σ q (bI (ngT T)) (nI (sgI T)) (nI E) (nI (bh E pt)) x, 0, 0) ∧ (adB T (T.2 - frT T (E + 1)) = true → x = lZ vv) := by
          have hsign : f_X4_hasSignAt (nst σ q (bI (ngT T)) (nI (sgI T)) (nI E) (nI (bh E pt)) 0) p (nI (E + 1)) = some (bI (decide (E + 1 < T.2 ∧ (T.1 (E + 1) = 43 ∨ T.1 (E + 1) = 45)))) := t_hasSign (hT9 0) rfl (by omega)
          have wrap : ∀ (K : Int32 → Rs Int32) (y : Rs Int32), K (nI (frT T (E + 1))) = y → (jn K fun k2 => if bI (decide (E + 1 < T.2 ∧ (T.1 (E + 1) = 43 ∨ T.1 (E + 1) = 45))) = 0 then (k2 (nI (E + 1))) else k2 (nI (E + 1) + 1)) = y := by
            intro K y hK
            refine q_jn ?_
            by_cases hs : E + 1 < T.2 ∧ (T.1 (E + 1) = 43 ∨ T.1 (E + 1) = 45)
            · have : frT T (E + 1) = E + 1 + 1 := if_pos hs
              rw [this] at hK
              refine q_f (by rw [decide_eq_true hs]; decide) ?_
              rw [nI_1]; exact hK
            · have : frT T (E + 1) = E + 1 := if_neg hs
              rw [this] at hK
              exact q_t (by rw [decide_eq_false hs]; rfl) hK
          cases had : adB T (T.2 - frT T (E + 1)) with
          | false =>
            have hr := a4 had
            subst hr
            refine ⟨lN v, ?_, (fun w => by cases w)⟩
            unfold f_X3_findExponent
            refine q_ob nst_q (q_b1 hsign (wrap _ _ ?_))
            refine q_bd0 a1 ?_
            rw [decide_eq_false (fun w => by cases w.2)]
            rfl
          | true =>
            obtain ⟨hr, -⟩ := a3 had
            subst hr
            refine ⟨lZ vv, ?_, fun _ => rfl⟩
            unfold f_X3_findExponent
            refine q_ob nst_q (q_b1 hsign (wrap _ _ ?_))
            refine q_bd0 a1 ?_
            have hc2 := t_codeAt (hT9 (lN v)) (x := nI (E + 1)) rfl (by omega)
            refine q_b1 hc2 ?_
            refine q_jp (fun z15 => z15 = nst σ q (bI (ngT T)) (nI (sgI T)) (nI E) (nI (bh E pt)) (lZ vv)) ?_ ?_
            · intro z15 hz
              subst hz
              refine q_b1 (gI_eq (hT9 (lZ vv)).1 rfl) ?_
              by_cases hlt : frT T (E + 1) < T.2
              · refine q_f (nI_ge hlt (by omega)) ?_
                rw [decide_eq_true ⟨hlt, rfl⟩]; rfl
              · refine q_t (nI_le (by omega) (by omega)) ?_
                rw [decide_eq_false (fun w => hlt w.1)]; rfl
            · intro k15 hk15
              by_cases hs : E + 1 < T.2
              · rw [if_pos hs]
                have t3' := (hT.2.2.2.2.2.2 (E + 1) hs).2
                by_cases h45 : T.1 (E + 1) = 45
                · have hdn : dnT T (E + 1) = true := decide_eq_true ⟨hs, h45⟩
                  rw [if_pos hdn] at hvv
                  refine q_t ((c_eq t3' (d := 45) (by decide)).mpr h45) (q_b1 (gL_eq nst_q rfl) (q_b1 nst_p4 (hk15 _ ?_)))
                  rw [lZ_n, lZ_neg, hvv]
                · have hdn : ¬ dnT T (E + 1) = true := fun w => h45 (of_decide_eq_true w).2
                  rw [if_neg hdn] at hvv
                  refine q_f (fun w => h45 ((c_eq t3' (d := 45) (by decide)).mp w)) (hk15 _ ?_)
                  rw [← hvv, lZ_n]
              · rw [if_neg hs]
                have hdn : ¬ dnT T (E + 1) = true := fun w => hs (of_decide_eq_true w).1
                rw [if_neg hdn] at hvv
                refine q_f (by decide) (hk15 _ ?_)
                rw [← hvv, lZ_n]
        obtain ⟨xx, fx1, fx2⟩ := fexp
        have hcore2 : ∀ ok, ok = decide (frT T (E + 1) < T.2 ∧ adB T (T.2 - frT T (E + 1)) = true) → f_X3_parse σ q p = some (bI ok, nst σ q (bI (ngT T)) (nI (sgI T)) (nI E) (nI (bh E pt)) xx, 0, 0) := fun ok hok => by
          refine core ok _ _ _ ?_
          refine q_bd0 (hfd 0) ?_
          rw [hdm]
          refine q_f (by decide) (q_b1 (gI_eq nst_q rfl) (q_b1 (gI_eq (hT9 0).1 rfl) ?_))
          refine q_f (fun w => hET ((nI_eq (by omega) (by omega)).mp w)) (q_b1 (gI_eq nst_q rfl) (q_b1 hcode ?_))
          have fin : ((gI (nst σ q (bI (ngT T)) (nI (sgI T)) (nI E) (nI (bh E pt)) 0) 3 q 2).bind fun x15 => bd (f_X3_findExponent (nst σ q (bI (ngT T)) (nI (sgI T)) (nI E) (nI (bh E pt)) 0) q p (x15 + 1)) fun x16 σ17 => if x16 = 0 then ((isB 0).bind fun _ => some (0, σ17, 0, 0)) else (isB 1).bind fun _ => some (1, σ17, 0, 0)) = some (bI ok, nst σ q (bI (ngT T)) (nI (sgI T)) (nI E) (nI (bh E pt)) xx, 0, 0) := by
            refine q_b1 (gI_eq nst_q rfl) ?_
            rw [nI_1]
            refine q_bd0 fx1 ?_
            rw [← hok]
            cases ok with
            | false => exact q_t rfl rfl
            | true => exact q_f (by decide) rfl
          refine q_jn ?_
          by_cases h101 : T.1 E = 101
          · exact q_t ((c_eq t3 (d := 101) (by decide)).mpr h101) fin
          · refine q_f (fun w => h101 ((c_eq t3 (d := 101) (by decide)).mp w)) ?_
            exact q_t ((c_eq t3 (d := 69) (by decide)).mpr (hE.resolve_left h101)) fin
        by_cases hok : frT T (E + 1) < T.2 ∧ adB T (T.2 - frT T (E + 1)) = true
        · rw [if_pos hok] at hprd
          refine ⟨true, nI E, nI (bh E pt), xx, hcore2 true (decide_eq_true hok).symm, (fun w => by cases w), fun _ => ⟨by rw [hst], (bh E pt : Int) - vv, _, ?_, ?_, ?_, hprd, ?_⟩⟩
          · rw [fx2 hok.2, nI_l (by omega), lZ_n, lZ_sub]
          · split at hvv <;> omega
          · split at hvv <;> omega
          · obtain ⟨-, b2⟩ := a3 hok.2
            have eX : exT T (E + 1) = vlF T (frT T (E + 1)) (T.2 - frT T (E + 1)) := rfl
            rw [← eX] at b2
            by_cases hdn : dnT T (E + 1) = true
            · rw [if_pos hdn] at hvv ⊢
              rcases b2 with w | ⟨w1, w2⟩
              · left; omega
              · right; omega
            · rw [if_neg hdn] at hvv ⊢
              rcases b2 with w | ⟨w1, w2⟩
              · left; omega
              · right; omega
        · rw [if_neg hok] at hprd
          exact ⟨false, nI E, nI (bh E pt), xx, hcore2 false (decide_eq_false hok).symm, fun _ => hprd, (fun w => by cases w)⟩
      · rw [if_neg hE] at hprd
        refine ⟨false, nI E, nI (bh E pt), 0, core false _ _ _ ?_, fun _ => hprd, (fun w => by cases w)⟩
        refine q_bd0 (hfd 0) ?_
        rw [hdm]
        refine q_f (by decide) (q_b1 (gI_eq nst_q rfl) (q_b1 (gI_eq (hT9 0).1 rfl) ?_))
        refine q_f (fun w => hET ((nI_eq (by omega) (by omega)).mp w)) (q_b1 (gI_eq nst_q rfl) (q_b1 hcode (q_jn ?_)))
        refine q_f (fun w => hE (Or.inl ((c_eq t3 (d := 101) (by decide)).mp w))) ?_
        exact q_f (fun w => hE (Or.inr ((c_eq t3 (d := 69) (by decide)).mp w))) rfl
end CR
