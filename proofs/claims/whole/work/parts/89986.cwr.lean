/-! ===== write of the object, whole ===== -/
section LW2
variable {t : Nat} {σ : St} {L c V : Nat → Nat} {A : AS} {T W : TS} {y : Cel}
theorem CI.lzl (h : CI t σ L c V A T W) : CI t (stH σ (t + 10) (TO (L 12) 0)) L c V A T (ofL []) := by
  obtain ⟨h1, -, -⟩ := h.lz
  obtain ⟨t1, ⟨tf, t2, t3⟩, t4, t5, t6, t7, t8⟩ := h1.la
  refine ⟨h1.1, h1.2.1, h1.2.2.1, h1.2.2.2.1, h1.2.2.2.2.1, h1.2.2.2.2.2.1, h1.2.2.2.2.2.2.1, h1.2.2.2.2.2.2.2.1, ⟨t1, ⟨tf, t2, fun j hj => absurd hj (Nat.not_lt_zero j)⟩, Nat.zero_le _, t5, t6, Nat.zero_le _, fun j hj => absurd hj (Nat.not_lt_zero j)⟩, h1.2.2.2.2.2.2.2.2.2⟩
theorem t_clay {i n fr bk bp : Nat} {ng : Bool} {ex : Int} (h : CI t σ L c V A T W) (hi : i < 8) (hn : nd (A.1 i) = n) (hn4 : n ≤ 4096) (hy : y = LO (bI ng) (nI n) (lN fr) (lN bk) (lN bp) (lZ ex)) (hq : σ.1 (t + 13) = some y) (hfr : fr ≤ 3000000000) (hbk : bk ≤ 3000000000) (hbp : bp ≤ 6000000000) (h1 : -100000000000 < ex) (h2 : ex < 100000000000) (hl : ((if ng then [45] else []) ++ (bodyF (fgt (A.1 i) fr n) bp (fr + n + bk) ++ expL ex)).length ≤ 6000) : Cl t σ L c V A T y (f_X1_lay σ (t + 13) (nA t i) (t + 10)) ((if ng then [45] else []) ++ (bodyF (fgt (A.1 i) fr n) bp (fr + n + bk) ++ expL ex)) := by
  have hF := FU_ge
  rw [List.length_append, List.length_append, body_len] at hl
  obtain ⟨M0, hM0⟩ : ∃ M0, (if ng then [45] else ([] : List Nat)) = M0 := ⟨_, rfl⟩
  have hM0l : M0.length = if ng then 1 else 0 := by rw [← hM0]; split <;> rfl
  rw [hM0] at hl ⊢
  obtain ⟨-, r1, f1⟩ := h.lz
  have c1 := h.lzl
  have q1 : (stH σ (t + 10) (TO (L 12) 0)).1 (t + 13) = some y := by rw [stH_n (by omega)]; exact hq
  have len := t_length (hy ▸ q1) hn4 hfr hbk hbp h1 h2
  rw [← hM0l] at len
  obtain ⟨N, hN⟩ : ∃ N, M0.length + ((fr + n + bk) + (if bp < fr + n + bk then 1 else 0)) + (expL ex).length = N := ⟨_, rfl⟩
  rw [hN] at len
  have hN6 : N ≤ 6000 := by omega
  unfold f_X1_lay
  refine e_ob (hy ▸ hq) (e_b1 f1 (e_b1 len ?_))
  obtain ⟨σ1, hσ1⟩ : ∃ σ1, stH σ (t + 10) (TO (L 12) 0) = σ1 := ⟨_, rfl⟩
  rw [hσ1] at r1 c1 q1 ⊢
  -- from the emptied text on
  have main : Cl t σ1 L c V A T y (bd (f_X4_makeRoom σ1 (t + 10) ((lN N : Int64).toInt32)) fun _ σ3 =>
    (gI σ3 1 (t + 13) 0).bind fun x4 =>
    jn (fun (z5 : St) => (
      (gL z5 1 (t + 13) 2).bind fun l6 =>
      (gI z5 1 (t + 13) 1).bind fun x7 =>
      (gL z5 1 (t + 13) 3).bind fun l8 =>
      lt ((l6 + ((x7 : Int32).toInt64)) + l8) fun l9 =>
      bd (f_X1_lay_L46 FU z5 (t + 13) (nA t i) (t + 10) l9 0) fun y18 σ19 =>
      bd (f_X1_layExponent σ19 (t + 13) (t + 10)) fun _ σ20 =>
      some ((), σ20, 0, 0)
      )) fun k5 =>
    if x4 = 0 then (
      k5 σ3
      ) else
    bd (f_X4_append σ3 (t + 10) 45) fun _ σ21 =>
    k5 σ21) (M0 ++ (bodyF (fgt (A.1 i) fr n) bp (fr + n + bk) ++ expL ex)) := by
    have room : Cl t σ1 L c V A T y (f_X4_makeRoom σ1 (t + 10) ((lN N : Int64).toInt32)) [] := by
      refine e_im (t_tmr (m := N) c1.dm c1.la (by rw [lZ_n, lZ_i, iZ_n]) hN6) ?_
      rintro r σ2 k s hP
      obtain ⟨L2, c2, g1, g2, -⟩ := c1.pl hP
      obtain ⟨la, ca, z1, z2, z3, z4, -⟩ := hP
      refine ⟨L2, c2, g1, z4.at c1.dm q1 (fun w => ?_), g2⟩
      rcases w with w | w
      · omega
      · exact c1.sep.2.2.2.2.2.2.2 w.symm
    refine cl_bl room ?_
    intro σ3 L3 c3 h3 q3
    have q3' : σ3.1 (t + 13) = some (LO (bI ng) (nI n) (lN fr) (lN bk) (lN bp) (lZ ex)) := hy ▸ q3
    refine e_b1 (gI_eq q3' rfl) ?_
    have rest : ∀ (σ5 : St) (L5 c5 : Nat → Nat), CI t σ5 L5 c5 V A T (ofL M0) → σ5.1 (t + 13) = some y → Cl t σ5 L5 c5 V A T y ((gL σ5 1 (t + 13) 2).bind fun l6 => (gI σ5 1 (t + 13) 1).bind fun x7 => (gL σ5 1 (t + 13) 3).bind fun l8 => lt ((l6 + ((x7 : Int32).toInt64)) + l8) fun l9 => bd (f_X1_lay_L46 FU σ5 (t + 13) (nA t i) (t + 10) l9 0) fun y18 σ19 => bd (f_X1_layExponent σ19 (t + 13) (t + 10)) fun _ σ20 => some ((), σ20, 0, 0)) (M0 ++ (bodyF (fgt (A.1 i) fr n) bp (fr + n + bk) ++ expL ex)) := by
      intro σ5 L5 c5 h5 q5
      have q5' : σ5.1 (t + 13) = some (LO (bI ng) (nI n) (lN fr) (lN bk) (lN bp) (lZ ex)) := hy ▸ q5
      refine e_b1 (gL_eq q5' rfl) (e_b1 (gI_eq q5' rfl) (e_b1 (gL_eq q5' rfl) ?_))
      refine e_le (x := lN (fr + n + bk)) (by rw [nI_l (by omega), lZ_n, lZ_n, lZ_n, lZ_n, lZ_add, lZ_add]; congr 1) ?_
      refine cl_bl (t_lay46 (M := M0) (i := i) (n := n) (fr := fr) (bk := bk) (bp := bp) hi hn hn4 hy hbp (by omega) FU 0 σ5 L5 c5 (by omega) (Nat.zero_le _) (by rw [show bodyF (fgt (A.1 i) fr n) bp 0 = [] from rfl, List.append_nil]; exact h5) q5) ?_
      intro σ6 L6 c6 h6 q6
      refine cl_bl (t_layEx hy h1 h2 h6 q6 (by rw [List.length_append, body_len]; omega)) ?_
      intro σ7 L7 c7 h7 q7
      rw [List.append_assoc] at h7
      exact cl_ret h7 q7
    refine e_jq ?_
    cases ng with
    | false =>
      have e0 : M0 = [] := hM0.symm
      exact e_t rfl (rest σ3 L3 c3 (by rw [e0]; exact h3) q3)
    | true =>
      have e0 : M0 = [] ++ [45] := hM0.symm
      refine e_f (by decide) ?_
      refine cl_bl (M1 := [] ++ [45]) (t_cap h3 q3 (x := 45) rfl (by decide) (by decide) (by decide)) ?_
      intro σ4 L4 c4 h4 q4
      exact rest σ4 L4 c4 (by rw [e0]; exact h4) q4
  refine e_im main ?_
  rintro r σ2 k s ⟨L', c', g1, g2, g3⟩
  have := r1.trans g3
  rw [Nat.zero_add, Nat.zero_add] at this
  exact ⟨L', c', g1, g2, this⟩
theorem t_cwrite {a how : Int32} (h : CI t σ L c V A T W) : Cc t σ L c (f_X5_write σ t a how) ((sWrite A W a how).1, A) T (sWrite A W a how).2 := by
  have no : ∀ e : Rs Int32, e = some (-1, σ, 0, 0) → sWrite A W a how = (-1, W) → Cc t σ L c e ((sWrite A W a how).1, A) T (sWrite A W a how).2 := fun e he hw => by
    rw [hw, he]; exact e_ret ⟨rfl, L, c, V, h, Rl.rf⟩
  rcases cis_or (σ := σ) a with ⟨i, hi, rfl, e1⟩ | ⟨e1, e2⟩
  · by_cases hh0 : how < 0
    · refine no _ ?_ (if_neg (fun w => Int32.not_lt.mpr w.2.1 hh0))
      unfold f_X5_write
      exact q_ob h.t5 (q_b1 e1 (q_f (by decide) (q_t hh0 rfl)))
    · obtain ⟨hw, hhw, rfl⟩ := nI_of hh0
      by_cases hh2 : hw ≤ 2
      · have hspec : sWrite A W (nI i) (nI hw) = if (txL (A.1 i) (A.2.1 i) (A.2.2 i) hw).length ≤ 6000 then (nI (txL (A.1 i) (A.2.1 i) (A.2.2 i) hw).length, ofL (txL (A.1 i) (A.2.1 i) (A.2.2 i) hw)) else (-1, W) := by
          unfold sWrite
          rw [if_pos ⟨⟨nI_pos' (by omega), (nI_ltI (b := 8) (by omega) (by decide)).mpr hi⟩, nI_pos' (by omega), (nI_leI (b := 2) (by omega) (by decide)).mpr hh2⟩, nI_clamp (by omega), nI_clamp (by omega)]
        obtain ⟨fr, bk, bp, ex, p1, p2, p3, p4, p5, p6, p7⟩ := t_plan (how := hw) h hi rfl rfl hh2
        have hn4 := nd4 (h.ok i hi).1
        obtain ⟨y, hy⟩ : ∃ y, LO (bI (A.2.1 i)) (nI (nd (A.1 i))) (lN fr) (lN bk) (lN bp) (lZ ex) = y := ⟨_, rfl⟩
        obtain ⟨c5, r5⟩ := h.lyS (bI (A.2.1 i)) (nI (nd (A.1 i))) (lN fr) (lN bk) (lN bp) (lZ ex)
        obtain ⟨σ5, hσ5⟩ : ∃ σ5, lst σ (t + 13) (bI (A.2.1 i)) (nI (nd (A.1 i))) (lN fr) (lN bk) (lN bp) (lZ ex) = σ5 := ⟨_, rfl⟩
        have q5 : σ5.1 (t + 13) = some y := by rw [← hσ5, ← hy]; exact stH_s
        rw [show stH σ (t + 13) (LO (bI (A.2.1 i)) (nI (nd (A.1 i))) (lN fr) (lN bk) (lN bp) (lZ ex)) = σ5 from hσ5] at c5 r5
        rw [hσ5] at p1
        unfold f_X5_write
        refine e_ob h.t5 (e_b1 e1 (e_f (by decide) (e_f hh0 (e_t (nI_le (b := 2) hh2 (by decide)) ?_))))
        refine e_b1 h.g0 (e_b1 (h.gr hi rfl) (e_b1 h.g7 (e_bd0 p1 ?_)))
        refine cc_st r5 ?_
        have len := t_length (hy ▸ q5) hn4 p3 p4 p5 p6 p7
        have hlen : (txL (A.1 i) (A.2.1 i) (A.2.2 i) hw).length = (if A.2.1 i then 1 else 0) + ((fr + nd (A.1 i) + bk) + (if bp < fr + nd (A.1 i) + bk then 1 else 0)) + (expL ex).length := by
          rw [p2, List.length_append, List.length_append, body_len]
          have : (if A.2.1 i then [45] else ([] : List Nat)).length = if A.2.1 i then 1 else 0 := by split <;> rfl
          rw [this]
          omega
        rw [← hlen] at len
        refine e_b1 c5.g7 (e_b1 len ?_)
        have hxl := exp_len p6 p7
        have hb : (txL (A.1 i) (A.2.1 i) (A.2.2 i) hw).length ≤ 10000000000 := by
          rw [hlen]
          split <;> split <;> omega
        rw [hspec]
        obtain ⟨N, hN⟩ : ∃ N, (txL (A.1 i) (A.2.1 i) (A.2.2 i) hw).length = N := ⟨_, rfl⟩
        rw [hN] at hb ⊢
        by_cases hle : N ≤ 6000
        · rw [if_pos (c := N ≤ 6000) hle]
          refine e_t ((lZ_le (a := N) (b := 6000) (by omega) (by omega) (by omega) (by omega)).mpr (by omega)) ?_
          refine e_b1 c5.g7 (e_b1 (c5.d0 hi) (e_b1 c5.g5 ?_))
          have lay := t_clay (i := i) (n := nd (A.1 i)) (fr := fr) (bk := bk) (bp := bp) (ng := A.2.1 i) (ex := ex) c5 hi rfl hn4 hy.symm q5 p3 p4 p5 p6 p7 (by rw [← p2, hN]; exact hle)
          rw [← p2] at lay
          refine e_bd lay ?_
          rintro u σ6 kc sc ⟨L6, c6, g1, g2, g3⟩
          refine e_b1 g1.g5 (e_b1 (gI_eq g1.la.1 rfl) ?_)
          refine e_ret ⟨?_, L6, c6, V, g1, ?_⟩
          · show nI (txL (A.1 i) (A.2.1 i) (A.2.2 i) hw).length = nI N
            rw [hN]
          · exact g3.trans Rl.rf
        · rw [if_neg (c := N ≤ 6000) hle]
          refine e_f (fun w => by have := (lZ_le (a := N) (b := 6000) (by omega) (by omega) (by omega) (by omega)).mp w; omega) ?_
          exact e_ret ⟨rfl, L, c, V, c5, Rl.rf⟩
      · refine no _ ?_ (if_neg (fun w => hh2 ((nI_leI (b := 2) (by omega) (by decide)).mp w.2.2)))
        unfold f_X5_write
        exact q_ob h.t5 (q_b1 e1 (q_f (by decide) (q_f hh0 (q_f (nI_ge (a := 2) (by omega) (by omega)) rfl))))
  · refine no _ ?_ (if_neg (fun w => e2 w.1))
    unfold f_X5_write
    exact q_ob h.t5 (q_b1 e1 (q_t rfl rfl))
end LW2
