/-! ===== read of the object, whole ===== -/
section CRd
variable {t : Nat} {σ : St} {L c V : Nat → Nat} {A : AS} {T W : TS}
theorem CI.sep (h : CI t σ L c V A T W) : L 11 ≠ t + 8 ∧ L 11 ≠ t + 10 ∧ L 11 ≠ t + 12 ∧ L 11 ≠ t + 13 ∧ L 12 ≠ t + 8 ∧ L 12 ≠ t + 10 ∧ L 12 ≠ t + 12 ∧ L 12 ≠ t + 13 := by
  obtain ⟨t1, ⟨tf, t2, -⟩, -⟩ := h.ty
  obtain ⟨w1, ⟨wf, w2, -⟩, -⟩ := h.la
  obtain ⟨n1, n2, n3, n4, n5, n6⟩ := h.nu
  obtain ⟨y1, y2, y3, y4, y5, y6, y7⟩ := h.ly
  refine ⟨fun w => ?_, fun w => ?_, fun w => ?_, fun w => ?_, fun w => ?_, fun w => ?_, fun w => ?_, fun w => ?_⟩
  · rw [w, t1] at t2; cases t2
  · rw [w, w1] at t2; cases t2
  · rw [w, n6] at t2; cases t2
  · rw [w, y7] at t2; cases t2
  · rw [w, t1] at w2; cases w2
  · rw [w, w1] at w2; cases w2
  · rw [w, n6] at w2; cases w2
  · rw [w, y7] at w2; cases w2
theorem CI.nuS (h : CI t σ L c V A T W) (a b e g : Int32) (x : Int64) : CI t (nst σ (t + 12) a b e g x) L c V A T W ∧ Rl t σ L c (nst σ (t + 12) a b e g x) L c 0 0 := by
  obtain ⟨n1, n2, n3, n4, n5, n6⟩ := h.nu
  obtain ⟨s1, s2, s3, s4, s5, s6, s7, s8⟩ := h.sep
  have hF : Fr (fun q => q = t + 12) σ (nst σ (t + 12) a b e g x) := Fr.st n6 rfl
  obtain ⟨y1, y2, y3, y4, y5, y6, y7⟩ := h.ly
  refine ⟨h.upT hF (fun q w => Or.inr (Or.inr (Or.inr (Or.inr (Or.inl w))))) (h.ty.fr h.dm hF (by omega) s3) (h.la.fr h.dm hF (by omega) s7) ⟨a, b, e, g, x, stH_s⟩ ⟨y1, y2, y3, y4, y5, y6, hF.at h.dm y7 (by omega)⟩ (fun _ _ => ⟨rfl, rfl⟩) (fun _ _ => Or.inl rfl) (h.inj (by decide) (by decide) (by decide)), ?_, fun _ _ => Or.inl rfl, Nat.le_refl _, by omega⟩
  exact hF.mono (fun q _ w => Or.inl (by omega))
theorem CI.lyS (h : CI t σ L c V A T W) (a b : Int32) (u v w x : Int64) : CI t (stH σ (t + 13) (LO a b u v w x)) L c V A T W ∧ Rl t σ L c (stH σ (t + 13) (LO a b u v w x)) L c 0 0 := by
  obtain ⟨y1, y2, y3, y4, y5, y6, y7⟩ := h.ly
  obtain ⟨s1, s2, s3, s4, s5, s6, s7, s8⟩ := h.sep
  have hF : Fr (fun q => q = t + 13) σ (stH σ (t + 13) (LO a b u v w x)) := Fr.st y7 rfl
  obtain ⟨n1, n2, n3, n4, n5, n6⟩ := h.nu
  refine ⟨h.upT hF (fun q w => Or.inr (Or.inr (Or.inr (Or.inr (Or.inr w))))) (h.ty.fr h.dm hF (by omega) s4) (h.la.fr h.dm hF (by omega) s8) ⟨n1, n2, n3, n4, n5, hF.at h.dm n6 (by omega)⟩ ⟨a, b, u, v, w, x, stH_s⟩ (fun _ _ => ⟨rfl, rfl⟩) (fun _ _ => Or.inl rfl) (h.inj (by decide) (by decide) (by decide)), ?_, fun _ _ => Or.inl rfl, Nat.le_refl _, by omega⟩
  exact hF.mono (fun q _ w => Or.inl (by omega))
theorem CI.tz (h : CI t σ L c V A T W) : CI t (stH σ (t + 8) (TO (L 11) 0)) L c V A (T.1, 0) W ∧ Rl t σ L c (stH σ (t + 8) (TO (L 11) 0)) L c 0 0 ∧ pF σ 4 (t + 8) 1 (.int 0) = some (stH σ (t + 8) (TO (L 11) 0)) := by
  obtain ⟨t1, ⟨tf, t2, t3⟩, t4, t5, t6, t7, t8⟩ := h.ty
  obtain ⟨s1, s2, s3, s4, s5, s6, s7, s8⟩ := h.sep
  have hF : Fr (fun q => q = t + 8) σ (stH σ (t + 8) (TO (L 11) 0)) := Fr.st t1 rfl
  obtain ⟨n1, n2, n3, n4, n5, n6⟩ := h.nu
  obtain ⟨y1, y2, y3, y4, y5, y6, y7⟩ := h.ly
  refine ⟨h.upT hF (fun q w => Or.inl w) ⟨stH_s, ⟨tf, by rw [stH_n s1]; exact t2, fun j hj => absurd hj (Nat.not_lt_zero j)⟩, Nat.zero_le _, t5, t6, Nat.zero_le _, fun j hj => absurd hj (Nat.not_lt_zero j)⟩ (h.la.fr h.dm hF (by omega) s5) ⟨n1, n2, n3, n4, n5, hF.at h.dm n6 (by omega)⟩ ⟨y1, y2, y3, y4, y5, y6, hF.at h.dm y7 (by omega)⟩ (fun _ _ => ⟨rfl, rfl⟩) (fun _ _ => Or.inl rfl) (h.inj (by decide) (by decide) (by decide)), ⟨?_, fun _ _ => Or.inl rfl, Nat.le_refl _, by omega⟩, ?_⟩
  · exact hF.mono (fun q _ w => Or.inl (by omega))
  · exact pF_eq t1 (Nat.le_of_ble_eq_true rfl)
theorem CI.lz (h : CI t σ L c V A T W) : CI t (stH σ (t + 10) (TO (L 12) 0)) L c V A T (W.1, 0) ∧ Rl t σ L c (stH σ (t + 10) (TO (L 12) 0)) L c 0 0 ∧ pF σ 4 (t + 10) 1 (.int 0) = some (stH σ (t + 10) (TO (L 12) 0)) := by
  obtain ⟨t1, ⟨tf, t2, t3⟩, t4, t5, t6, t7, t8⟩ := h.la
  obtain ⟨s1, s2, s3, s4, s5, s6, s7, s8⟩ := h.sep
  have hF : Fr (fun q => q = t + 10) σ (stH σ (t + 10) (TO (L 12) 0)) := Fr.st t1 rfl
  obtain ⟨n1, n2, n3, n4, n5, n6⟩ := h.nu
  obtain ⟨y1, y2, y3, y4, y5, y6, y7⟩ := h.ly
  refine ⟨h.upT hF (fun q w => Or.inr (Or.inr (Or.inl w))) (h.ty.fr h.dm hF (by omega) s2) ⟨stH_s, ⟨tf, by rw [stH_n s6]; exact t2, fun j hj => absurd hj (Nat.not_lt_zero j)⟩, Nat.zero_le _, t5, t6, Nat.zero_le _, fun j hj => absurd hj (Nat.not_lt_zero j)⟩ ⟨n1, n2, n3, n4, n5, hF.at h.dm n6 (by omega)⟩ ⟨y1, y2, y3, y4, y5, y6, hF.at h.dm y7 (by omega)⟩ (fun _ _ => ⟨rfl, rfl⟩) (fun _ _ => Or.inl rfl) (h.inj (by decide) (by decide) (by decide)), ⟨?_, fun _ _ => Or.inl rfl, Nat.le_refl _, by omega⟩, ?_⟩
  · exact hF.mono (fun q _ w => Or.inl (by omega))
  · exact pF_eq t1 (Nat.le_of_ble_eq_true rfl)
/-- a step that keeps rows and costs nothing -/
theorem cc_st {σ1 : St} {e : Rs Int32} {R : Int32 × AS} {T' W' : TS} (h1 : Rl t σ L c σ1 L c 0 0) (h : Cc t σ1 L c e R T' W') : Cc t σ L c e R T' W' := by
  refine e_im h ?_
  rintro r σ2 k s ⟨e1, L', c', V', g1, g2⟩
  have := h1.trans g2
  rw [Nat.zero_add, Nat.zero_add] at this
  exact ⟨e1, L', c', V', g1, this⟩
theorem t_cread {d : Int32} (h : CI t σ L c V A T W) : Cc t σ L c (f_X5_read σ t d) (sRead A T d) (T.1, 0) W := by
  obtain ⟨n1, n2, n3, n4, n5, n6⟩ := h.nu
  obtain ⟨ok, e, g, x, p1, p2, p3⟩ := t_parse h.ty n6
  have hsc := scT_ok (T := T)
  unfold f_X5_read
  refine e_ob h.t5 (e_b1 h.g6 (e_b1 h.g4 (e_bd0 p1 ?_)))
  obtain ⟨c4, r4⟩ := h.nuS (bI (ngT T)) (nI (sgI T)) e g x
  refine cc_st r4 ?_
  obtain ⟨σ4, h4⟩ : ∃ σ4, nst σ (t + 12) (bI (ngT T)) (nI (sgI T)) e g x = σ4 := ⟨_, rfl⟩
  have q4 : σ4.1 (t + 12) = some (NO (bI (ngT T)) (nI (sgI T)) e g x) := by rw [← h4]; exact stH_s
  rw [h4] at c4 ⊢
  refine e_jq ?_
  cases ok with
  | false =>
    have hrd : sRead A T d = (0, A) := by unfold sRead; rw [p2 rfl]
    rw [hrd]
    refine e_t rfl ?_
    obtain ⟨c5, r5, f5⟩ := c4.tz
    refine e_b1 c4.g4 (e_b1 f5 ?_)
    refine cc_st r5 ?_
    exact e_t rfl (cc_no c5)
  | true =>
    obtain ⟨he, s, s', b1, b2, b3, b4, b5⟩ := p3 rfl
    subst he
    have hrd : sRead A T d = onR d A fun i => kpA i (vlF T (sgI T) ((scT T).1 - sgI T)) (ngT T) s' A := by unfold sRead; rw [b4]
    rw [hrd]
    refine e_f (by decide) ?_
    refine e_b1 c4.g1 (e_b1 c4.g4 (e_b1 c4.g6 (e_b1 (gI_eq q4 rfl) (e_b1 c4.g6 (e_b1 (gI_eq q4 rfl) ?_)))))
    refine e_bd (t_becomeDigits c4.dm c4.tn (c4.nv (i := 8) (by decide)) c4.ty hsc rfl rfl) ?_
    rintro u σ5 kc sc hP
    obtain ⟨L5, c5', g1, g2⟩ := c4.p1 (by decide) (by decide) hP
    obtain ⟨La, ca, z1, z2, z3, z4⟩ := id hP
    have q5 : σ5.1 (t + 12) = some (NO (bI (ngT T)) (nI (sgI T)) (nI (scT T).1) g x) := by
      refine z3.at c4.dm q4 (fun w => ?_)
      rcases w with w | w
      · have : nA t 8 = t + 2 := rfl
        omega
      · obtain ⟨f, hf⟩ := (c4.nv (i := 8) (by decide)).ar
        rw [w, hf] at q4; cases q4
    obtain ⟨c7, r7, f7⟩ := g1.tz
    refine e_im (P' := fun r σ' k s => r = (onR d A fun i => kpA i (vlF T (sgI T) ((scT T).1 - sgI T)) (ngT T) s' A).1 ∧ ∃ L' c' V', CI t σ' L' c' V' (onR d A fun i => kpA i (vlF T (sgI T) ((scT T).1 - sgI T)) (ngT T) s' A).2 (T.1, 0) W ∧ Rl t σ5 L5 c5' σ' L' c' k s) ?_ ?_
    · refine e_b1 g1.g4 (e_b1 f7 ?_)
      refine cc_st r7 ?_
      have q7 : (stH σ5 (t + 8) (TO (L5 11) 0)).1 (t + 12) = some (NO (bI (ngT T)) (nI (sgI T)) (nI (scT T).1) g x) := by rw [stH_n (by omega)]; exact q5
      refine e_f (show ¬ (1 : Int32) = 0 by decide) ?_
      refine e_b1 c7.g1 (e_b1 c7.g6 (e_b1 (gI_eq q7 rfl) (e_b1 c7.g6 (e_b1 (gI_eq q7 rfl) (e_b1 c7.g6 (e_b1 (gL_eq q7 rfl) ?_))))))
      have := t_ckeep (d := d) (m := 8) (n := ngT T) (z := s) (j4 := g.toInt64 - x) c7 (by decide) rfl rfl b1 (by omega) (by omega)
      rw [upA_s] at this
      refine cc_R (R := kD d (vlF T (sgI T) ((scT T).1 - sgI T)) (ngT T) s A) ?_ (cc_ok this isB_kD)
      unfold kD
      congr 1
      funext i
      rcases b5 with w | ⟨w1, w2⟩
      · rw [w]
      · rw [kp_out w1, kp_out w2]
    · rintro r σ6 k s ⟨e1, L', c', V', k1, k2⟩
      exact ⟨e1, L', c', V', k1, g2.trans k2⟩
end CRd
