/-! ===== read of the reference, whole ===== -/
theorem q_jp {β α : Type} {f : β → α} {g : (β → α) → α} {x : α} (P : β → Prop) (h1 : ∀ z, P z → f z = x) (h2 : ∀ f' : β → α, (∀ z, P z → f' z = x) → g f' = x) : jn f g = x := h2 f h1
section MRd
variable {σ : St} {o : Nat} {X : Nat → Nat → Int32} {A : AS} {T W : TS}
theorem mo_jp {R : Int32 × AS} {β : Type} {f : β → Rs Int32} {g : (β → Rs Int32) → Rs Int32} (P : β → Prop) (h1 : ∀ z, P z → Mo σ o X (f z) R) (h2 : ∀ f' : β → Rs Int32, (∀ z, P z → Mo σ o X (f' z) R) → Mo σ o X (g f') R) : Mo σ o X (jn f g) R := h2 f h1
theorem Mt.of {Y : Nat → Nat → Int32} {e : Rs Int32} {R : Int32 × AS} {T' : TS} (h : Mo σ o Y e R) (h1 : TX Y T') (h2 : WX Y W) : Mt σ o e R.1 R.2 T' W := by
  obtain ⟨X', a, b, c⟩ := h
  exact ⟨X', a, b, h1.kt c, h2.kt c⟩
theorem t_mread {d : Int32} (hR : RG X A) (hT : TX X T) (hW : WX X W) : Mt σ o (f_X6_read (mst σ o X) o d) (sRead A T d).1 (sRead A T d).2 (T.1, 0) W := by
  have hF := FU_ge
  obtain ⟨Y, hY⟩ : ∃ Y, ups X 0 (upd (X 0) 1 0) = Y := ⟨_, rfl⟩
  have yk : ∀ k, k ≠ 0 → Y k = X k := fun k q1 => by rw [← hY, ups_n q1]
  have y0 : ∀ i, i ≠ 1 → Y 0 i = X 0 i := fun i q => by rw [← hY, ups_s, pk_un q]
  have hT' : TX Y (T.1, 0) := ⟨by rw [← hY, ups_s, pk_us]; rfl, Nat.zero_le _, fun j hj => absurd hj (Nat.not_lt_zero j)⟩
  have hW' : WX Y W := by
    unfold WX
    rw [yk 8 (by decide), y0 2 (by decide)]; exact hW
  have h : RG Y A := by
    refine ⟨hR.1, fun i hi => ?_⟩
    rw [yk 1 (by decide), yk 2 (by decide), yk 3 (by decide), yk 4 (by decide)]
    exact hR.2 i hi
  have hH : TH Y T := ⟨hT.2.1, fun j hj => by rw [yk 7 (by decide)]; exact hT.2.2 j hj⟩
  have hT6 := hT.2.1
  refine Mt.of (Y := Y) ?_ hT' hW'
  unfold f_X6_read
  refine mo_ob (mo_b1 (m_i7' hT) (mo_b1 m_p7 ?_))
  rw [hY]
  refine mo_jp (fun z3 => z3 = bI (ngT T)) ?_ ?_
  · intro z3 hz3
    subst hz3
    refine mo_jp (fun z4 => z4 = nI (sgI T)) ?_ ?_
    · intro z4 hz4
      subst hz4
      have hsc := scT_ok (T := T)
      have hsg := sgI_le (T := T)
      have l1 := t_mrd1 (σ := σ) (o := o) (i1 := d) (i4 := bI (ngT T)) (i5 := nI (sgI T)) hH FU (T.2 - sgI T) none (by omega) (by omega) (fun k hk => by cases hk)
      rw [show T.2 - (T.2 - sgI T) = sgI T by omega, show pI none = -1 from rfl] at l1
      refine mo_b1 l1 ?_
      have hpr : prT T = if (scT T).1 - sgI T - pn (scT T).2 = 0 then none else if (scT T).1 = T.2 then some (bh (scT T).1 (scT T).2 : Int) else if T.1 (scT T).1 = 101 ∨ T.1 (scT T).1 = 69 then (if frT T ((scT T).1 + 1) < T.2 ∧ adB T (T.2 - frT T ((scT T).1 + 1)) = true then some (if dnT T ((scT T).1 + 1) = true then (bh (scT T).1 (scT T).2 : Int) + exT T ((scT T).1 + 1) else (bh (scT T).1 (scT T).2 : Int) - exT T ((scT T).1 + 1)) else none) else none := rfl
      have hrd : sRead A T d = match prT T with
        | none => (0, A)
        | some s => onR d A fun i => kpA i (vlF T (sgI T) ((scT T).1 - sgI T)) (ngT T) s A := rfl
      show Mo σ o Y (jn _ _) _
      have e0 : scF T (T.2 - sgI T) none = scT T := rfl
      rw [e0]
      obtain ⟨⟨e, p⟩, hst⟩ : ∃ q, scT T = q := ⟨_, rfl⟩
      rw [hst] at hsc hpr hrd ⊢
      dsimp only at hsc hpr hrd ⊢
      obtain ⟨s1, s2, s3, s4⟩ := id hsc
      have hp6 : ∀ k, p = some k → k < 6000 := fun k hk => by have := s4 k hk; omega
      have hpI : (0 : Int32) ≤ pI p ↔ p ≠ none := by
        cases p with
        | none => exact ⟨fun w => absurd w (by decide), fun w => absurd rfl w⟩
        | some k =>
          have := hp6 k rfl
          exact ⟨fun _ w => (by cases w), fun _ => (show (0 : Int32) ≤ nI k from nI_pos' (by omega))⟩
      refine mo_jp (fun z16 => z16 = nI (pn p)) ?_ ?_
      · intro z16 hz16
        subst hz16
        have hpn : pn p ≤ e - sgI T := by
          unfold pn
          cases p with
          | none => rw [if_pos rfl]; omega
          | some k => have := s4 k rfl; rw [if_neg (fun w => by cases w)]; omega
        refine mo_le (y := nI (e - sgI T - pn p)) (by rw [pk_sub s1, pk_sub hpn]) ?_
        refine mo_jp (fun z18 => z18 = lN (bh e p)) ?_ ?_
        · intro z18 hz18
          subst hz18
          have hbh : bh e p ≤ 6000 := by
            cases p with
            | none => show 0 ≤ 6000; omega
            | some k => show e - k - 1 ≤ 6000; omega
          by_cases hm : e - sgI T - pn p = 0
          · rw [if_pos hm] at hpr
            rw [hrd, hpr]
            exact mo_t (by rw [hm]; rfl) (Mo.no h rfl)
          · rw [if_neg hm] at hpr
            refine mo_f (nI_ne0 (by omega) (by omega)) ?_
            -- the number is kept
            have stay : ∀ (s s' : Int) (z : Int64), z = lZ s → -100000000000000 ≤ s → s < 100000000000000 → prT T = some s' → (s = s' ∨ ((s < -2147483648 ∨ 2147483648 ≤ s) ∧ (s' < -2147483648 ∨ 2147483648 ≤ s'))) → Mo σ o Y (if nI T.2 < nI T.2 then ((isB 0).bind fun _ => some (0, mst σ o Y, 0, 0)) else (f_X6_is (mst σ o Y) d).bind fun x20 => if x20 = 0 then ((isB 0).bind fun _ => some (0, mst σ o Y, 0, 0)) else lt (nI e - 1) fun x21 => bd (f_X6_read_L355 FU (mst σ o Y) o d (bI (ngT T)) (nI (sgI T)) (pI p) z 0 x21) fun y29 σ30 => bd (f_X6_trim σ30 o 0 y29) fun _ σ31 => jn (fun (z32 : Int32) => (bd (f_X6_store σ31 o d 0 z32 z) fun x33 σ34 => (isB x33).bind fun _ => some (x33, σ34, 0, 0))) fun k32 => if bI (ngT T) = 0 then (k32 1) else k32 (-1)) (sRead A T d) := by
              intro s s' z hz b1 b2 hps hss
              subst hz
              rw [hrd, hps]
              refine mo_f (nI_nlt (Nat.le_refl _) (by omega)) ?_
              show Mo σ o Y _ (onR d A fun i => kpA i (vlF T (sgI T) (e - sgI T)) (ngT T) s' A)
              refine q_is (P := fun e => Mo σ o Y e _) (fun hn => by rw [onR_n hn]; exact Mo.no h rfl) (fun i hi hx => ?_)
              subst hx
              rw [onR_y hi]
              obtain ⟨z', m', g', a1, a2, a3, a4, a5⟩ := t_mrd3 (σ := σ) (o := o) (i1 := nI i) (i4 := bI (ngT T)) (j9 := lZ s) hH hsc FU (e - sgI T) 0 (Y 5) (fun _ => 0) (by omega) (by omega) (by omega) (fun j hj => by omega) (fun _ _ => rfl) (by show _ = _ * 10 ^ 0 + 0; rw [Nat.pow_zero]; omega)
              rw [ups_self, show sgI T + (e - sgI T) = e by omega] at a1
              refine mo_le (y := nI e + (-1)) (Int32.sub_eq_add_neg ..) ?_
              refine mo_bd a1 ?_
              have O1 : Ot (fun q => q = 0) Y (ups Y 5 m') := Ot.m5 (fun q hq => a4 q (by omega))
              obtain ⟨X2, c1, c2, c3, c4⟩ := t_mtrim (σ := σ) (o := o) (r := 0) (x := 0) (y := nI z') (X := ups Y 5 m') (n := z') (g := g') (by decide) rfl rfl (by omega) (fun j hj => by rw [ups_s, show 17000 * 0 + j = j by omega]; exact a3 j hj)
              rw [← a5] at c2
              have O2 := O1.trans c3 (fun _ w => w)
              refine mo_bd c1 (mo_jn ?_)
              have keq : kpA i (vlF T (sgI T) (e - sgI T)) (ngT T) s' A = kpA i (vlF T (sgI T) (e - sgI T)) (ngT T) s A := by
                rcases hss with w | ⟨w1, w2⟩
                · rw [w]
                · rw [kp_out w1, kp_out w2]
              rw [keq]
              cases hn : ngT T with
              | false => exact mo_t rfl (Mo.st (r := 0) (by decide) hi rfl rfl (h.ot O2) O2.kt c2 (fun g => by rw [sg_pos g]; rfl) rfl (by omega) (by omega))
              | true => exact mo_f (by decide) (Mo.st (r := 0) (by decide) hi rfl rfl (h.ot O2) O2.kt c2 (fun g => by rw [sg_pos g]; rfl) rfl (by omega) (by omega))
            refine mo_jp (fun z19 => (∃ s s' : Int, z19 = (nI T.2, lZ s) ∧ -100000000000000 ≤ s ∧ s < 100000000000000 ∧ prT T = some s' ∧ (s = s' ∨ ((s < -2147483648 ∨ 2147483648 ≤ s) ∧ (s' < -2147483648 ∨ 2147483648 ≤ s')))) ∨ (∃ i' w, z19 = (nI i', w) ∧ i' < T.2 ∧ prT T = none)) ?_ ?_
            · intro z19 hz19
              rcases hz19 with ⟨s, s', rfl, b1, b2, b3, b4⟩ | ⟨i', w, rfl, b1, b2⟩
              · exact stay s s' (lZ s) rfl b1 b2 b3 b4
              · rw [hrd, b2]
                exact mo_t (nI_lt b1 (by omega)) (Mo.no h rfl)
            · intro k19 hk19
              by_cases heT : e = T.2
              · rw [if_pos heT] at hpr
                refine mo_t (nI_le (by omega) (by omega)) ?_
                refine hk19 _ (Or.inl ⟨bh e p, bh e p, ?_, by omega, by omega, hpr, Or.inl rfl⟩)
                rw [heT]; rfl
              · rw [if_neg heT] at hpr
                have heT' : e < T.2 := by omega
                obtain ⟨t1, t2, t3⟩ := hH.2 e heT'
                refine mo_f (nI_ge heT' (by omega)) ?_
                refine mo_b1 m_g8 (mo_b1 (ld7 hH heT' rfl) ?_)
                refine mo_jp (fun _ => T.1 e = 101 ∨ T.1 e = 69) ?_ ?_
                · intro _ hE
                  rw [if_pos hE] at hpr
                  refine mo_le (nI_1 e) ?_
                  refine mo_jp (fun z39 => z39 = bI (dnT T (e + 1))) ?_ ?_
                  · intro z39 hz39
                    subst hz39
                    refine mo_jp (fun z40 => z40 = nI (frT T (e + 1))) ?_ ?_
                    · intro z40 hz40
                      subst hz40
                      have hfr : frT T (e + 1) ≤ T.2 := by unfold frT; split <;> omega
                      by_cases hend : frT T (e + 1) = T.2
                      · rw [if_neg (by omega)] at hpr
                        rw [hrd, hpr]
                        exact mo_t (by rw [hend]) (Mo.no h rfl)
                      · refine mo_f (fun w => hend ((nI_eq (by omega) (by omega)).mp w)) ?_
                        obtain ⟨i', v', a1, a2, a3, a4, a5⟩ := t_mrd2 (σ := σ) (o := o) (i1 := d) (i4 := bI (ngT T)) (i5 := nI (sgI T)) (i6 := pI p) (i7 := nI e) (j9 := lN (bh e p)) (i11 := bI (dnT T (e + 1))) hH hfr FU (T.2 - frT T (e + 1)) 0 (by omega) (by omega) (by omega) (Or.inl (by rw [show T.2 - (T.2 - frT T (e + 1)) - frT T (e + 1) = 0 by omega]; rfl))
                        rw [show T.2 - (T.2 - frT T (e + 1)) = frT T (e + 1) by omega] at a1
                        refine mo_b1 a1 (mo_jn ?_)
                        cases had : adB T (T.2 - frT T (e + 1)) with
                        | false =>
                          rw [if_neg (fun w => by rw [had] at w; cases w.2)] at hpr
                          have := a5 had
                          have gone : ∀ w, Mo σ o Y (k19 (nI i', w)) (sRead A T d) := fun w => hk19 _ (Or.inr ⟨i', w, rfl, this, hpr⟩)
                          cases dnT T (e + 1) with
                          | false => exact mo_t rfl (gone _)
                          | true => exact mo_f (by decide) (gone _)
                        | true =>
                          rw [if_pos ⟨by omega, had⟩] at hpr
                          obtain ⟨b1, b2⟩ := a4 had
                          have eX : exT T (e + 1) = vlF T (frT T (e + 1)) (T.2 - frT T (e + 1)) := rfl
                          rw [← eX] at b2
                          subst b1
                          cases hdn : dnT T (e + 1) with
                          | false =>
                            rw [if_neg (by rw [hdn]; decide)] at hpr
                            refine mo_t rfl (hk19 _ (Or.inl ⟨(bh e p : Int) - v', _, ?_, by omega, by omega, hpr, ?_⟩))
                            · show (nI T.2, lN (bh e p) - lN v') = _
                              rw [lZ_n, lZ_n, lZ_sub]
                            · rcases b2 with w | ⟨w1, w2⟩
                              · left; rw [w]
                              · right; omega
                          | true =>
                            rw [if_pos hdn] at hpr
                            refine mo_f (by decide) (hk19 _ (Or.inl ⟨(bh e p : Int) + v', _, ?_, by omega, by omega, hpr, ?_⟩))
                            · show (nI T.2, lN (bh e p) + lN v') = _
                              rw [lZ_n, lZ_n, lZ_add]
                            · rcases b2 with w | ⟨w1, w2⟩
                              · left; rw [w]
                              · right; omega
                    · intro k40 hk40
                      refine mo_jn ?_
                      have e2 : ∀ w : frT T (e + 1) = e + 1 + 1, Mo σ o Y (lt (nI (e + 1) + 1) fun x51 => k40 x51) (sRead A T d) := fun w => mo_le (nI_1 (e + 1)) (hk40 _ (by rw [w]))
                      cases hdn : dnT T (e + 1) with
                      | false =>
                        refine mo_t rfl ?_
                        have hdn' : ¬ (e + 1 < T.2 ∧ T.1 (e + 1) = 45) := of_decide_eq_false hdn
                        by_cases hlt : e + 1 < T.2
                        · refine mo_f (nI_ge hlt (by omega)) ?_
                          refine mo_b1 m_g8 (mo_b1 (ld7 hH hlt rfl) ?_)
                          have t3' := (hH.2 _ hlt).2.2
                          by_cases h43 : T.1 (e + 1) = 43
                          · refine mo_t ((c_eq t3' (d := 43) (by decide)).mpr h43) (e2 ?_)
                            unfold frT; rw [if_pos ⟨hlt, Or.inl h43⟩]
                          · refine mo_f (fun w => h43 ((c_eq t3' (d := 43) (by decide)).mp w)) (hk40 _ ?_)
                            unfold frT; rw [if_neg (fun w => w.2.elim h43 (fun z => hdn' ⟨hlt, z⟩))]
                        · refine mo_t (nI_le (by omega) (by omega)) (hk40 _ ?_)
                          unfold frT; rw [if_neg (fun w => hlt w.1)]
                      | true =>
                        have hdn' : e + 1 < T.2 ∧ T.1 (e + 1) = 45 := of_decide_eq_true hdn
                        refine mo_f (by decide) (e2 ?_)
                        unfold frT; rw [if_pos ⟨hdn'.1, Or.inr hdn'.2⟩]
                  · intro k39 hk39
                    refine mo_jn ?_
                    by_cases hlt : e + 1 < T.2
                    · refine mo_f (nI_ge hlt (by omega)) ?_
                      refine mo_b1 m_g8 (mo_b1 (ld7 hH hlt rfl) ?_)
                      have t3' := (hH.2 _ hlt).2.2
                      by_cases h45 : T.1 (e + 1) = 45
                      · refine mo_t ((c_eq t3' (d := 45) (by decide)).mpr h45) (hk39 _ ?_)
                        unfold dnT; rw [decide_eq_true ⟨hlt, h45⟩]; rfl
                      · refine mo_f (fun w => h45 ((c_eq t3' (d := 45) (by decide)).mp w)) (hk39 _ ?_)
                        unfold dnT; rw [decide_eq_false (fun w => h45 w.2)]; rfl
                    · refine mo_t (nI_le (by omega) (by omega)) (hk39 _ ?_)
                      unfold dnT; rw [decide_eq_false (fun w => hlt w.1)]; rfl
                · intro k37 hk37
                  by_cases h101 : T.1 e = 101
                  · exact mo_t ((c_eq t3 (d := 101) (by decide)).mpr h101) (hk37 () (Or.inl h101))
                  · refine mo_f (fun w => h101 ((c_eq t3 (d := 101) (by decide)).mp w)) ?_
                    refine mo_b1 m_g8 (mo_b1 (ld7 hH heT' rfl) ?_)
                    by_cases h69 : T.1 e = 69
                    · exact mo_t ((c_eq t3 (d := 69) (by decide)).mpr h69) (hk37 () (Or.inr h69))
                    · rw [if_neg (fun w => w.elim h101 h69)] at hpr
                      refine mo_f (fun w => h69 ((c_eq t3 (d := 69) (by decide)).mp w)) ?_
                      exact hk19 _ (Or.inr ⟨e, _, rfl, heT', hpr⟩)
        · intro k18 hk18
          cases p with
          | none => exact mo_f (by decide) (hk18 _ rfl)
          | some k =>
            have := s4 k rfl
            refine mo_t (show (0 : Int32) ≤ nI k from nI_pos' (by omega)) (hk18 _ ?_)
            show (nI e - nI k - 1 : Int32).toInt64 = lN (e - k - 1)
            rw [pk_sub (by omega), show (1 : Int32) = nI 1 from rfl, pk_sub (by omega), nI_l (by omega)]
      · intro k16 hk16
        by_cases hp0 : p = none
        · refine mo_f (fun w => (hpI.mp w) hp0) (hk16 _ ?_)
          unfold pn; rw [if_pos hp0]; rfl
        · refine mo_t (hpI.mpr hp0) (hk16 _ ?_)
          unfold pn; rw [if_neg hp0]; rfl
    · intro k4 hk4
      refine mo_jn ?_
      have e1 : sgI T = 1 → Mo σ o Y (lt (0 + 1) fun x60 => k4 x60) (sRead A T d) := fun w => mo_lt (hk4 _ (by rw [w]; rfl))
      cases hng : ngT T with
      | false =>
        have hng' : ¬ (0 < T.2 ∧ T.1 0 = 45) := of_decide_eq_false hng
        refine mo_t rfl ?_
        by_cases hlt : 0 < T.2
        · refine mo_f (nI_nle hlt (by omega)) ?_
          refine mo_b1 m_g8 (mo_b1 (ld7 (j := 0) hH hlt rfl) ?_)
          have t3' := (hH.2 _ hlt).2.2
          by_cases h43 : T.1 0 = 43
          · refine mo_t ((c_eq t3' (d := 43) (by decide)).mpr h43) (e1 ?_)
            unfold sgI; rw [if_pos ⟨hlt, Or.inl h43⟩]
          · refine mo_f (fun w => h43 ((c_eq t3' (d := 43) (by decide)).mp w)) (hk4 _ ?_)
            unfold sgI; rw [if_neg (fun w => w.2.elim h43 (fun z => hng' ⟨hlt, z⟩))]; rfl
        · refine mo_t (by rw [show T.2 = 0 by omega]; decide) (hk4 _ ?_)
          unfold sgI; rw [if_neg (fun w => hlt w.1)]; rfl
      | true =>
        have hng' : 0 < T.2 ∧ T.1 0 = 45 := of_decide_eq_true hng
        refine mo_f (by decide) (e1 ?_)
        unfold sgI; rw [if_pos ⟨hng'.1, Or.inr hng'.2⟩]
  · intro k3 hk3
    refine mo_jn ?_
    by_cases hlt : 0 < T.2
    · refine mo_f (nI_nle hlt (by omega)) ?_
      refine mo_b1 m_g8 (mo_b1 (ld7 (j := 0) hH hlt rfl) ?_)
      have t3' := (hH.2 _ hlt).2.2
      by_cases h45 : T.1 0 = 45
      · refine mo_t ((c_eq t3' (d := 45) (by decide)).mpr h45) (hk3 _ ?_)
        unfold ngT; rw [decide_eq_true ⟨hlt, h45⟩]; rfl
      · refine mo_f (fun w => h45 ((c_eq t3' (d := 45) (by decide)).mp w)) (hk3 _ ?_)
        unfold ngT; rw [decide_eq_false (fun w => h45 w.2)]; rfl
    · refine mo_t (by rw [show T.2 = 0 by omega]; decide) (hk3 _ ?_)
      unfold ngT; rw [decide_eq_false (fun w => hlt w.1)]; rfl
end MRd
