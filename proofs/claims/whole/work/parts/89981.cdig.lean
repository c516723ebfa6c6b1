/-! ===== a number from typed digits ===== -/
section CD
variable {σ : St} {a L c x p l d : Nat} {T : TS}
theorem vl_term {B : Nat} {g : Nat → Nat} {n i : Nat} (hi : i < n) : g i * B ^ i ≤ vl B g n := by
  induction n with
  | zero => omega
  | succ n ih =>
    show _ ≤ vl B g n + g n * B ^ n
    by_cases h : i = n
    · subst h; omega
    · have := ih (by omega); omega
theorem t_bd_loop {s e n : Nat} {pt : Option Nat} {m0 : Nat} {f0 : Nat → Int32} (hTN : TN σ) (ha : σ.1 a = some (OO L m0)) (hL : σ.1 L = some (AA c f0)) (hT : TT σ p l d T) (hs : Sc T s e pt) (hn : n = (e - s) / 9 + 1) (hc : n ≤ c) (hc4 : c ≤ 4000) (i4 : Int32) : ∀ (f m dd : Nat) (F : Nat → Int32) (G : Nat → Nat), m < f → m ≤ e - s → dd + m ≤ e - s → (∀ j, j < n → F j = nI (G j) ∧ G j < BS) → vl BS G n < 10 ^ dd → vlF T s (e - s) = vlF T s m * 10 ^ dd + vl BS G n → ∃ F' G', f_X2_becomeDigits_L30 f (stH σ L (AA c F)) a p (nI s) i4 (nI dd) (nI (s + m) + (-1)) = some ((), stH σ L (AA c F'), 0, 0) ∧ (∀ j, j < n → F' j = nI (G' j) ∧ G' j < BS) ∧ vl BS G' n = vlF T s (e - s) := by
  obtain ⟨s1, s2, s3, s4⟩ := hs
  have hT6 := hT.2.2.2.2.2.1
  have hpL : p ≠ L := fun w => by have := hT.1; rw [w, hL] at this; cases this
  have hlL : l ≠ L := fun w => by obtain ⟨-, ⟨ff, hf, -⟩, -⟩ := hT; rw [w, hL] at hf; cases hf
  have hTs : ∀ F, TT (stH σ L (AA c F)) p l d T := fun F => by
    obtain ⟨h1, ⟨ff, h2, h3⟩, h4⟩ := hT
    exact ⟨by rw [stH_n hpL]; exact h1, ⟨ff, by rw [stH_n hlL]; exact h2, h3⟩, h4⟩
  have haL : a ≠ L := (ne_AO hL ha).symm
  have has : ∀ F, (stH σ L (AA c F)).1 a = some (OO L m0) := fun F => by rw [stH_n haL]; exact ha
  have hTNs : ∀ F, TN (stH σ L (AA c F)) := fun F => by
    obtain ⟨ff, q1, q2⟩ := id hTN
    refine ⟨ff, ?_, q2⟩
    show (stH σ L (AA c F)).1 σ.2.2 = _
    rw [stH_n (hTN.neA hL)]; exact q1
  intro f
  induction f with
  | zero => intro m dd F G h; omega
  | succ f ih =>
    intro m dd F G hf hm hdm hF hlt hv
    show ∃ F' G', b_X2_becomeDigits_L30 (f_X2_becomeDigits_L30 f) _ a p _ _ _ _ = _ ∧ _
    unfold b_X2_becomeDigits_L30
    cases m with
    | zero =>
      refine ⟨F, G, ?_, hF, by rw [hv]; show _ = 0 * 10 ^ dd + _; omega⟩
      refine q_t ?_ rfl
      rw [Nat.add_zero]
      rcases Nat.eq_zero_or_pos s with w | w
      · rw [w]; decide
      · rw [show nI s + (-1) = nI (s - 1) by rw [← Int32.sub_eq_add_neg]; exact pk_sub (b := 1) w]
        exact nI_lt (by omega) (by omega)
    | succ m =>
      have e1 : nI (s + (m + 1)) + (-1) = nI (s + m) := by rw [← Int32.sub_eq_add_neg]; exact nI_pred _
      rw [e1]
      have hjT : s + m < T.2 := by omega
      have t3 := (hT.2.2.2.2.2.2 (s + m) hjT).2
      have ev : vlF T s (m + 1) = if T.1 (s + m) = 46 then vlF T s m else vlF T s m * 10 + (T.1 (s + m) - 48) := rfl
      have hcode := t_codeAt (hTs F) (x := nI (s + m)) rfl (by omega)
      rw [if_pos hjT] at hcode
      rcases s3 (s + m) (by omega) (by omega) with ⟨w1, w2⟩ | ⟨w1, w2⟩
      · rw [ev, if_pos w2] at hv
        obtain ⟨F', G', a1, a2, a3⟩ := ih m dd F G (by omega) (by omega) (by omega) hF hlt hv
        refine ⟨F', G', ?_, a2, a3⟩
        refine q_f (nI_nlt (by omega) (by omega)) (q_b1 hcode (q_jn ?_))
        exact q_t ((c_eq t3 (d := 46) (by decide)).mpr w2) (q_lt a1)
      · obtain ⟨d1, d2⟩ := isD_y.mp w2
        rw [ev, if_neg (by omega)] at hv
        have hdn : dd / 9 < n := by omega
        obtain ⟨dg', hdg⟩ : ∃ dg', T.1 (s + m) - 48 = dg' := ⟨_, rfl⟩
        have hpow : 10 ^ dd = 10 ^ (dd % 9) * BS ^ (dd / 9) := by
          rw [BS_pow, ← Nat.pow_add]
          congr 1
          omega
        have hBp : 0 < BS ^ (dd / 9) := Nat.pow_pos (by decide)
        have hlim : G (dd / 9) < 10 ^ (dd % 9) := by
          have := vl_term (B := BS) (g := G) hdn
          rw [hpow] at hlt
          exact Nat.lt_of_mul_lt_mul_right (Nat.lt_of_le_of_lt this hlt)
        have hp9 : 10 ^ (dd % 9 + 1) ≤ BS := by
          rw [show BS = 10 ^ 9 from rfl]
          exact p10_le (by omega)
        have hnew : G (dd / 9) + dg' * 10 ^ (dd % 9) < BS := by
          have h9 : dg' * 10 ^ (dd % 9) ≤ 9 * 10 ^ (dd % 9) := Nat.mul_le_mul_right _ (by omega)
          rw [Nat.pow_succ] at hp9
          omega
        have hup := vl_upd (B := BS) (G := G) (p := dd / 9) (d := G (dd / 9) + dg' * 10 ^ (dd % 9)) n hdn
        have hval : vl BS (up1 G (dd / 9) (G (dd / 9) + dg' * 10 ^ (dd % 9))) n = vl BS G n + dg' * 10 ^ dd := by
          rw [Nat.add_mul, Nat.mul_assoc, ← hpow] at hup
          omega
        obtain ⟨F', G', a1, a2, a3⟩ := ih m (dd + 1) (upd F (dd / 9) (nI (G (dd / 9) + dg' * 10 ^ (dd % 9)))) (up1 G (dd / 9) (G (dd / 9) + dg' * 10 ^ (dd % 9))) (by omega) (by omega) (by omega) (fun j hj => by
          unfold up1
          by_cases hji : j = dd / 9
          · rw [hji, if_pos rfl, pk_us]; exact ⟨rfl, hnew⟩
          · rw [if_neg hji, pk_un hji]; exact hF j hj) (by
          rw [hval, Nat.pow_succ]
          have h9 : dg' * 10 ^ dd ≤ 9 * 10 ^ dd := Nat.mul_le_mul_right _ (by omega)
          omega) (by
          rw [hval, hv, hdg, Nat.pow_succ]
          generalize 10 ^ dd = B
          grind)
        refine ⟨F', G', ?_, a2, a3⟩
        refine q_f (nI_nlt (by omega) (by omega)) (q_b1 hcode (q_jn ?_))
        refine q_f (fun w => by have := (c_eq t3 (d := 46) (by decide)).mp w; omega) ?_
        refine q_b1 (gR_eq (has F) rfl) ?_
        refine q_b1 (dvI_eq (b := 9) rfl rfl (by omega) (by decide) (by decide)) ?_
        refine q_b1 (ldI_eq stH_s rfl (by omega) (by omega)) ?_
        refine q_b1 (rmI_eq (b := 9) rfl rfl (by omega) (by decide) (by decide)) ?_
        refine q_b1 (tens (hTNs F) rfl (by omega)) ?_
        have evv : F (dd / 9) + (nI (T.1 (s + m)) - 48) * nI (10 ^ (dd % 9)) = nI (G (dd / 9) + dg' * 10 ^ (dd % 9)) := by
          rw [(hF _ hdn).1, show nI (T.1 (s + m)) - 48 = nI dg' by rw [← hdg]; exact pk_sub (b := 48) d1, pk_mul, nI_add]
        rw [evv]
        refine q_b1 (stI_eq stH_s rfl (by omega) (by omega)) ?_
        rw [stH_stH]
        refine q_le (nI_1 dd) (q_lt a1)
theorem t_becomeDigits {s e : Nat} {pt : Option Nat} {i2 i3 : Int32} (hD : Dm σ) (hTN : TN σ) (h : NV σ a L c x) (hT : TT σ p l d T) (hs : Sc T s e pt) (h2 : i2 = nI s) (h3 : i3 = nI e) : Ye (f_X2_becomeDigits σ a p i2 i3) (PN σ a L c (vlF T s (e - s))) := by
  subst h2 h3
  have hF := FU_ge
  obtain ⟨s1, s2, s3, s4⟩ := id hs
  have hT6 := hT.2.2.2.2.2.1
  obtain ⟨n, g, f, p1, p2, p3, p4, p5, p6, p7, p8⟩ := h.split
  unfold f_X2_becomeDigits
  refine e_ob p1 (e_b1 (dvI_eq (a := e - s) (b := 9) (pk_sub s1) rfl (by omega) (by decide) (by decide)) ?_)
  obtain ⟨N, hN⟩ : ∃ N, (e - s) / 9 + 1 = N := ⟨_, rfl⟩
  refine e_le (x := nI N) (by rw [nI_1, hN]) ?_
  refine e_bd (t_makeRoom hD p1 p2 rfl (by omega) (by omega)) ?_
  rintro u σ1 kc sc ⟨L1, c1, f1, g1, g2, g3, g4, g5, g6, g7, g8, g9, g10, g11⟩
  have hc1 : c1 ≤ 4000 := by omega
  have hD1 := g8.2.2.2 hD
  have hpa : p ≠ a := fun w => by have := hT.1; rw [w, p1] at this; cases this
  have hla : l ≠ a := fun w => by obtain ⟨-, ⟨ff, hf, -⟩, -⟩ := hT; rw [w, p1] at hf; cases hf
  have hT1 : TT σ1 p l d T := by
    obtain ⟨q1, ⟨ff, q2, q3⟩, q4⟩ := hT
    exact ⟨g8.at hD q1 hpa, ⟨ff, g8.at hD q2 hla, q3⟩, q4⟩
  have hTN1 : TN σ1 := hTN.fr hD g8 (fun w => hTN.neO p1 w)
  refine e_bd0 (t_empty g1 g2 rfl g3 (by omega)) ?_
  refine e_le (x := nI e + (-1)) (Int32.sub_eq_add_neg ..) ?_
  obtain ⟨F', G', a1, a2, a3⟩ := t_bd_loop (σ := σ1) (a := a) (L := L1) (c := c1) (n := N) (i4 := nI N) hTN1 g1 g2 hT1 hs hN.symm g3 hc1 FU (e - s) 0 (zeroTo f1 N) (fun _ => 0) (by omega) (by omega) (by omega) (fun j hj => by unfold zeroTo; rw [if_pos hj]; exact ⟨rfl, by decide⟩) (by rw [vl_zero (fun _ _ => rfl)]; exact p10_pos 0) (by rw [vl_zero (fun _ _ => rfl), Nat.pow_zero]; omega)
  rw [show s + (e - s) = e by omega] at a1
  refine e_bd0 a1 ?_
  have haL : a ≠ L1 := (ne_AO g2 g1).symm
  have ha2 : (stH σ1 L1 (AA c1 F')).1 a = some (OO L1 n) := by rw [stH_n haL]; exact g1
  refine e_b1 (pF_eq ha2 (Nat.le_of_ble_eq_true rfl)) ?_
  obtain ⟨n', b1, b2, b3⟩ := t_trimV (σ := stH (stH σ1 L1 (AA c1 F')) a (OO L1 N)) (a := a) (L := L1) (c := c1) (n := N) (g := G') (f := F') stH_s (by rw [stH_n haL.symm, stH_s]) (fun j hj => (a2 j hj).1) g3 hc1 (fun j hj => (a2 j hj).2)
  rw [a3] at b3
  refine e_bd0 b2 ?_
  refine e_ret ⟨L1, c1, b3, g7, ?_, g4, g9, g10⟩
  rw [stH_stH]
  have f1' : Fr (fun q => q = L1) σ1 (stH σ1 L1 (AA c1 F')) := Fr.st g2 rfl
  have f2' : Fr (fun q => q = a) _ (stH (stH σ1 L1 (AA c1 F')) a (OO L1 n')) := Fr.st ha2 rfl
  refine ((g8.mono (fun q _ w => Or.inl w)).trans f1' (fun q hq w => ?_)).trans f2' (fun q _ w => Or.inl w)
  rcases g7 with z | z
  · exact Or.inr (w.trans z)
  · omega
end CD
