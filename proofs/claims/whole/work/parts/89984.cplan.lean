/-! ===== the layout: plan and length ===== -/
section LYs
variable {t : Nat} {σ : St} {L c V : Nat → Nat} {A : AS} {T W : TS}
theorem xor_s {a : Int} (h1 : -9223372036854775808 ≤ a) (h2 : a < 9223372036854775808) : (0 : Int64) ≤ lZ a ^^^ 3 ↔ 0 ≤ a := by
  have key : ∀ x : Int64, (0 : Int64) ≤ x ↔ x.toBitVec.msb = false := fun x => by
    rw [Int64.le_iff_toInt_le]
    have e0 : (0 : Int64).toInt = 0 := rfl
    rw [e0]
    show 0 ≤ x.toBitVec.toInt ↔ _
    rw [BitVec.msb_eq_toInt, decide_eq_false_iff_not]
    omega
  have e1 : (lZ a ^^^ 3).toBitVec.msb = (lZ a).toBitVec.msb := by
    rw [Int64.toBitVec_xor, BitVec.msb_xor]
    have : (3 : Int64).toBitVec.msb = false := by decide
    rw [this, Bool.xor_false]
  rw [key, e1, ← key]
  exact lZ_le (a := 0) (by decide) (by decide) h1 h2
theorem j_fm {a : Int} {x : Int64} (hx : x = lZ a) (h1 : -1000000000000 ≤ a) (h2 : a < 1000000000000) : f_J9_floorMod_f86c9 σ x 3 = some (lZ (a % 3)) := by
  subst hx
  unfold f_J9_floorMod_f86c9
  refine q_b1 (rmZ (b := 3) rfl rfl (by omega) (by omega) (by decide) (by decide)) ?_
  have hx := xor_s (a := a) (by omega) (by omega)
  have ht : a.tmod 3 = if 0 ≤ a then a % 3 else -((-a) % 3) := by
    by_cases h : 0 ≤ a
    · rw [if_pos h, Int.tmod_eq_emod_of_nonneg h]
    · rw [if_neg h]
      have : a = -(-a) := by omega
      rw [this, Int.neg_tmod, Int.tmod_eq_emod_of_nonneg (by omega)]
      omega
  by_cases h : 0 ≤ a
  · refine q_t (hx.mpr h) ?_
    rw [ht, if_pos h]
  · refine q_f (fun w => h (hx.mp w)) ?_
    rw [ht, if_neg h]
    by_cases hz : -((-a) % 3) = 0
    · refine q_t (by rw [hz]; rfl) ?_
      congr 2
      omega
    · refine q_f (fun w => hz ((lZ_eq (b := 0) (by omega) (by omega) (by omega) (by omega)).mp w)) ?_
      rw [show (3 : Int64) = lZ 3 from rfl, lZ_add]
      congr 2
      omega
abbrev lst (σ : St) (q : Nat) (a b : Int32) (u v w x : Int64) : St := stH σ q (LO a b u v w x)
section LS
variable {q : Nat} {a b : Int32} {u v w x : Int64}
theorem lst_q : (lst σ q a b u v w x).1 q = some (LO a b u v w x) := stH_s
theorem lst_p0 {z : Int32} : pF (lst σ q a b u v w x) 1 q 0 (.int z) = some (lst σ q z b u v w x) := by
  refine (pF_eq lst_q (Nat.le_of_ble_eq_true rfl)).trans ?_
  rw [stH_stH]; rfl
theorem lst_p1 {z : Int32} : pF (lst σ q a b u v w x) 1 q 1 (.int z) = some (lst σ q a z u v w x) := by
  refine (pF_eq lst_q (Nat.le_of_ble_eq_true rfl)).trans ?_
  rw [stH_stH]; rfl
theorem lst_p2 {z : Int64} : pF (lst σ q a b u v w x) 1 q 2 (.long z) = some (lst σ q a b z v w x) := by
  refine (pF_eq lst_q (Nat.le_of_ble_eq_true rfl)).trans ?_
  rw [stH_stH]; rfl
theorem lst_p3 {z : Int64} : pF (lst σ q a b u v w x) 1 q 3 (.long z) = some (lst σ q a b u z w x) := by
  refine (pF_eq lst_q (Nat.le_of_ble_eq_true rfl)).trans ?_
  rw [stH_stH]; rfl
theorem lst_p4 {z : Int64} : pF (lst σ q a b u v w x) 1 q 4 (.long z) = some (lst σ q a b u v z x) := by
  refine (pF_eq lst_q (Nat.le_of_ble_eq_true rfl)).trans ?_
  rw [stH_stH]; rfl
theorem lst_p5 {z : Int64} : pF (lst σ q a b u v w x) 1 q 5 (.long z) = some (lst σ q a b u v w z) := by
  refine (pF_eq lst_q (Nat.le_of_ble_eq_true rfl)).trans ?_
  rw [stH_stH]; rfl
end LS
/-- what a plan leaves -/
theorem t_plan {i how : Nat} {a1 : Nat} {i2 : Int32} (h : CI t σ L c V A T W) (hi : i < 8) (ha : a1 = dA t i) (h2 : i2 = nI how) (hh : how ≤ 2) : ∃ (fr bk bp : Nat) (ex : Int), f_X1_plan σ (t + 13) a1 i2 = some ((), lst σ (t + 13) (bI (A.2.1 i)) (nI (nd (A.1 i))) (lN fr) (lN bk) (lN bp) (lZ ex), 0, 0) ∧ txL (A.1 i) (A.2.1 i) (A.2.2 i) how = (if A.2.1 i then [45] else []) ++ (bodyF (fgt (A.1 i) fr (nd (A.1 i))) bp (fr + nd (A.1 i) + bk) ++ expL ex) ∧ fr ≤ 3000000000 ∧ bk ≤ 3000000000 ∧ bp ≤ 6000000000 ∧ -100000000000 < ex ∧ ex < 100000000000 := by
  subst ha h2
  obtain ⟨y1, y2, y3, y4, y5, y6, y7⟩ := h.ly
  obtain ⟨c0, c1, c2, c3⟩ := h.ok i hi
  have hn4 := nd4 c0
  have hn1 := nd_pos (A.1 i)
  have hself : lst σ (t + 13) y1 y2 y3 y4 y5 y6 = σ := stH_self y7
  obtain ⟨n, hn⟩ : ∃ n, nd (A.1 i) = n := ⟨_, rfl⟩
  rw [hn] at hn4 hn1 ⊢
  obtain ⟨ng, hng⟩ : ∃ ng, A.2.1 i = ng := ⟨_, rfl⟩
  have hD : ∀ a b u v w x, gI (lst σ (t + 13) a b u v w x) 0 (dA t i) 2 = some (iZ (A.2.2 i)) := fun a b u v w x => (h.lyS a b u v w x).1.d2 hi
  have hR : ∀ a b u v w x, gR (lst σ (t + 13) a b u v w x) 0 (dA t i) 0 = some (nA t i) := fun a b u v w x => (h.lyS a b u v w x).1.d0 hi
  have hZ : ∀ a b u v w x, f_X2_isZero (lst σ (t + 13) a b u v w x) (nA t i) = some (if A.1 i = 0 then 1 else 0) := fun a b u v w x => t_isZero ((h.lyS a b u v w x).1.nr hi)
  have hC : ∀ a b u v w x, f_X2_digitCount (lst σ (t + 13) a b u v w x) (nA t i) = some (nI n) := fun a b u v w x => hn ▸ t_digitCount (h.lyS a b u v w x).1.tn ((h.lyS a b u v w x).1.nr hi)
  have hv : hiS (A.1 i) (A.2.2 i) = (n : Int) - 1 - A.2.2 i := by unfold hiS; rw [hn]
  obtain ⟨v, hvd⟩ : ∃ v, hiS (A.1 i) (A.2.2 i) = v := ⟨_, rfl⟩
  have hvb : -5000000000 < v ∧ v < 5000000000 := by omega
  have p0 : pF σ 1 (t + 13) 0 (.int (bI ng)) = some (lst σ (t + 13) (bI ng) y2 y3 y4 y5 y6) := by
    have := lst_p0 (σ := σ) (q := t + 13) (a := y1) (b := y2) (u := y3) (v := y4) (w := y5) (x := y6) (z := bI ng)
    rwa [hself] at this
  have head : ∀ (r : Rs Unit) (K : St → Int64 → Rs Unit), K (lst σ (t + 13) (bI ng) (nI n) y3 y4 y5 y6) (lZ v) = r → ob σ 1 (t + 13) ((gI σ 0 (dA t i) 1).bind fun x1 => (isB x1).bind fun _ => (pF σ 1 (t + 13) 0 (.int x1)).bind fun σ2 => (gR σ2 0 (dA t i) 0).bind fun r3 => (f_X2_digitCount σ2 r3).bind fun x4 => (pF σ2 1 (t + 13) 1 (.int x4)).bind fun σ5 => (gI σ5 1 (t + 13) 1).bind fun x6 => (gI σ5 0 (dA t i) 2).bind fun x7 => lt ((((x6 : Int32).toInt64) - 1) - ((x7 : Int32).toInt64)) fun l8 => K σ5 l8) = r := by
    intro r K hK
    refine q_ob y7 (q_b1 (hng ▸ h.d1 hi) (q_b1 (bI_is _) (q_b1 p0 ?_)))
    refine q_b1 (hR _ _ _ _ _ _) (q_b1 (hC _ _ _ _ _ _) (q_b1 lst_p1 (q_b1 (gI_eq lst_q rfl) (q_b1 (hD _ _ _ _ _ _) (q_le (y := lZ v) ?_ hK)))))
    rw [nI_l (by omega), iZ_l c1 c2, lZ_n, show (1 : Int64) = lZ 1 from rfl, lZ_sub, lZ_sub, ← hvd, hv]
  have tx : txL (A.1 i) (A.2.1 i) (A.2.2 i) how = (if ng then [45] else []) ++ (if isPl (A.1 i) (A.2.2 i) how = true then bodyF (fgt (A.1 i) (plF (A.1 i) (A.2.2 i)) n) (plB (A.1 i) (A.2.2 i)) (plA (A.1 i) (A.2.2 i)) else bodyF (fgt (A.1 i) 0 n) (exB (A.1 i) (A.2.2 i) how) (exA (A.1 i) (A.2.2 i) how) ++ expL (exX (A.1 i) (A.2.2 i) how)) := by unfold txL; rw [hn, hng]
  rw [tx, hng]
  have hh1 : nI how = 1 ↔ how = 1 := nI_eq (b := 1) (by omega) (by decide)
  by_cases hpl : isPl (A.1 i) (A.2.2 i) how = true
  · rw [if_pos hpl]
    have pp : ∃ bk, f_X1_planPlain (lst σ (t + 13) (bI ng) (nI n) y3 y4 y5 y6) (t + 13) (dA t i) = some ((), lst σ (t + 13) (bI ng) (nI n) (lN (plF (A.1 i) (A.2.2 i))) (lN bk) (lN (plB (A.1 i) (A.2.2 i))) (lZ 0), 0, 0) ∧ plF (A.1 i) (A.2.2 i) + n + bk = plA (A.1 i) (A.2.2 i) ∧ plF (A.1 i) (A.2.2 i) ≤ 3000000000 ∧ bk ≤ 3000000000 ∧ plB (A.1 i) (A.2.2 i) ≤ 6000000000 := by
      unfold f_X1_planPlain
      by_cases hs : A.2.2 i < 0
      · obtain ⟨f1, f2, f3⟩ := pl_np (m := A.1 i) (s := A.2.2 i) (by omega)
        rw [hn] at f2
        obtain ⟨bk, hbk⟩ : ∃ bk, (if A.1 i = 0 then 0 else (-A.2.2 i).toNat) = bk := ⟨_, rfl⟩
        rw [hbk] at f2
        have hbb : bk ≤ 3000000000 := by rw [← hbk]; split <;> omega
        refine ⟨bk, ?_, by rw [f1, f2]; omega, by omega, hbb, by rw [f3, f2]; omega⟩
        refine q_ob lst_q (q_b1 lst_p5 (q_b1 (hD _ _ _ _ _ _) ?_))
        refine q_t ((iZ_lt (b := 0) (by omega) (by omega) (by omega) (by omega)).mpr hs) ?_
        refine q_b1 lst_p2 (q_b1 (hR _ _ _ _ _ _) (q_b1 (hZ _ _ _ _ _ _) ?_))
        refine q_jp (fun z6 => z6 = lN bk) ?_ ?_
        · intro z6 hz
          subst hz
          refine q_b1 lst_p3 (q_b1 (gI_eq lst_q rfl) (q_b1 (gL_eq lst_q rfl) (q_b1 lst_p4 ?_)))
          have e1 : (nI n : Int32).toInt64 + lN bk = lN (plB (A.1 i) (A.2.2 i)) := by
            rw [f3, f2, nI_l (by omega), lZ_n, lZ_n, lZ_n, lZ_add]
            congr 1
          rw [e1, f1]
          rfl
        · intro k6 hk6
          by_cases hz : A.1 i = 0
          · rw [if_pos hz] at hbk ⊢
            refine q_f (by decide) (hk6 _ ?_)
            rw [← hbk]; rfl
          · rw [if_neg hz] at hbk ⊢
            refine q_t rfl (q_b1 (hD _ _ _ _ _ _) (hk6 _ ?_))
            rw [iZ_l c1 c2, lZ_neg, lZ_n]
            congr 1
            omega
      · obtain ⟨s, hsn⟩ : ∃ s : Nat, A.2.2 i = s := ⟨(A.2.2 i).toNat, by omega⟩
        have hF' : plF (A.1 i) (A.2.2 i) = s + 1 - n := by unfold plF; rw [if_pos (by omega), hn, hsn]; omega
        have hA' : plA (A.1 i) (A.2.2 i) = (s + 1 - n) + n := by unfold plA; rw [if_pos (by omega), hF', hn]
        have hB' : plB (A.1 i) (A.2.2 i) = (s + 1 - n) + n - s := by unfold plB; rw [if_pos (by omega), hA', hsn]; rfl
        refine ⟨0, ?_, by rw [hF', hA']; omega, by omega, by omega, by omega⟩
        refine q_ob lst_q (q_b1 lst_p5 (q_b1 (hD _ _ _ _ _ _) ?_))
        refine q_f (fun z => hs ((iZ_lt (b := 0) (by omega) (by omega) (by omega) (by omega)).mp z)) ?_
        refine q_b1 (hD _ _ _ _ _ _) (q_b1 (gI_eq lst_q rfl) ?_)
        refine q_b1 (j_maxLZ (a := 0) (b := A.2.2 i + 1 - n) rfl (by rw [iZ_l c1 c2, nI_l (by omega), lZ_n, show (1 : Int64) = lZ 1 from rfl, lZ_add, lZ_sub]) (by omega) (by omega) (by omega) (by omega)) ?_
        have e1 : lZ (max 0 (A.2.2 i + 1 - n)) = lN (plF (A.1 i) (A.2.2 i)) := by rw [lZ_n, hF', hsn]; congr 1; omega
        rw [e1]
        refine q_b1 lst_p2 (q_b1 lst_p3 (q_b1 (gL_eq lst_q rfl) (q_b1 (gI_eq lst_q rfl) (q_b1 (hD _ _ _ _ _ _) (q_b1 lst_p4 ?_)))))
        have e2 : lN (plF (A.1 i) (A.2.2 i)) + (nI n : Int32).toInt64 - (iZ (A.2.2 i) : Int32).toInt64 = lN (plB (A.1 i) (A.2.2 i)) := by
          rw [hF', hB', nI_l (by omega), iZ_l c1 c2, lZ_n, lZ_n, lZ_n, lZ_add, lZ_sub, hsn]
          congr 1
          omega
        rw [e2]
        rfl
    obtain ⟨bk, r1, r2, r3, r4, r5⟩ := pp
    refine ⟨plF (A.1 i) (A.2.2 i), bk, plB (A.1 i) (A.2.2 i), 0, ?_, ?_, r3, r4, r5, by omega, by omega⟩
    · unfold f_X1_plan
      refine head _ _ ?_
      refine q_jp (fun _ => True) (fun _ _ => q_bd0 r1 rfl) ?_
      intro k9 hk9
      by_cases hw2 : how = 2
      · exact q_t (by rw [hw2]; rfl) (hk9 () trivial)
      · refine q_f (fun w => hw2 ((nI_eq (b := 2) (by omega) (by decide)).mp w)) (q_b1 (hD _ _ _ _ _ _) (q_jn ?_))
        unfold isPl at hpl
        rw [decide_eq_false hw2, Bool.false_or, Bool.and_eq_true, hvd] at hpl
        have g1 := of_decide_eq_true hpl.1
        have g2 := of_decide_eq_true hpl.2
        refine q_f (fun w => by have := (iZ_lt (b := 0) (by omega) (by omega) (by omega) (by omega)).mp w; omega) ?_
        refine q_f (fun w => ?_) (hk9 () trivial)
        rw [show (-6 : Int64) = lZ (-6) by decide] at w
        have := (lZ_lt (by omega) (by omega) (by decide) (by decide)).mp w
        omega
    · rw [r2]
      have : expL 0 = [] := rfl
      rw [this, List.append_nil]
  · rw [if_neg hpl]
    have xb : -100000000000 < exX (A.1 i) (A.2.2 i) how ∧ exX (A.1 i) (A.2.2 i) how < 100000000000 := by
      unfold exX
      rw [hvd]
      split
      · split <;> omega
      · omega
    have rest : ∃ bk, (∀ K9 : Unit → Rs Unit, (jn K9 fun k9 => if nI how = 2 then (k9 ()) else (gI (lst σ (t + 13) (bI ng) (nI n) y3 y4 y5 y6) 0 (dA t i) 2).bind fun x11 => jn (fun (z12 : Unit) => ((pF (lst σ (t + 13) (bI ng) (nI n) y3 y4 y5 y6) 1 (t + 13) 2 (.long 0)).bind fun σ13 => (gR σ13 0 (dA t i) 0).bind fun r14 => (f_X2_isZero σ13 r14).bind fun x15 => if x15 = 0 then (jn (fun (z16 : Int64) => ((pF σ13 1 (t + 13) 4 (.long (1 + z16))).bind fun σ17 => (gL σ17 1 (t + 13) 4).bind fun l18 => (gI σ17 1 (t + 13) 1).bind fun x19 => (f_J9_max_f86c9 σ17 0 (l18 - ((x19 : Int32).toInt64))).bind fun l20 => (pF σ17 1 (t + 13) 3 (.long l20)).bind fun σ21 => (pF σ21 1 (t + 13) 5 (.long (lZ v - z16))).bind fun σ22 => some ((), σ22, 0, 0))) fun k16 => if nI how = 1 then ((f_J9_floorMod_f86c9 σ13 (lZ v) 3).bind fun l23 => k16 l23) else k16 0) else jn (fun (z24 : Int64) => ((pF σ13 1 (t + 13) 3 (.long z24)).bind fun σ25 => (pF σ25 1 (t + 13) 4 (.long 1)).bind fun σ26 => (gL σ26 1 (t + 13) 3).bind fun l27 => (pF σ26 1 (t + 13) 5 (.long (lZ v + l27))).bind fun σ28 => some ((), σ28, 0, 0))) fun k24 => if nI how = 1 then ((f_J9_floorMod_f86c9 σ13 (-lZ v) 3).bind fun l29 => k24 l29) else k24 0)) fun k12 => if x11 < 0 then (k12 ()) else if lZ v < (-6) then (k12 ()) else k9 ()) = some ((), lst σ (t + 13) (bI ng) (nI n) (lN 0) (lN bk) (lN (exB (A.1 i) (A.2.2 i) how)) (lZ (exX (A.1 i) (A.2.2 i) how)), 0, 0)) ∧ 0 + n + bk = exA (A.1 i) (A.2.2 i) how ∧ bk ≤ 3 ∧ exB (A.1 i) (A.2.2 i) how ≤ 3 := by
      have enter : ∀ (K9 K12 : Unit → Rs Unit) (r : Rs Unit), K12 () = r → (jn K9 fun k9 => if nI how = 2 then (k9 ()) else (gI (lst σ (t + 13) (bI ng) (nI n) y3 y4 y5 y6) 0 (dA t i) 2).bind fun x11 => jn K12 fun k12 => if x11 < 0 then (k12 ()) else if lZ v < (-6) then (k12 ()) else k9 ()) = r := by
        intro K9 K12 r hr
        refine q_jn ?_
        unfold isPl at hpl
        rw [Bool.or_eq_true, Bool.and_eq_true, hvd] at hpl
        have hw2 : how ≠ 2 := fun w => hpl (Or.inl (decide_eq_true w))
        refine q_f (fun w => hw2 ((nI_eq (b := 2) (by omega) (by decide)).mp w)) (q_b1 (hD _ _ _ _ _ _) (q_jn ?_))
        by_cases hs : A.2.2 i < 0
        · exact q_t ((iZ_lt (b := 0) (by omega) (by omega) (by omega) (by omega)).mpr hs) hr
        · refine q_f (fun w => hs ((iZ_lt (b := 0) (by omega) (by omega) (by omega) (by omega)).mp w)) ?_
          have h6 : v < -6 := by
            refine Int.not_le.mp fun w => hpl (Or.inr ⟨decide_eq_true (by omega), decide_eq_true w⟩)
          refine q_t ?_ hr
          rw [show (-6 : Int64) = lZ (-6) by decide]
          exact (lZ_lt (by omega) (by omega) (by decide) (by decide)).mpr h6
      by_cases hz : A.1 i = 0
      · have hn0 : n = 1 := by rw [← hn, hz]; rfl
        obtain ⟨bk, hbk⟩ : ∃ bk : Nat, (if how = 1 then (-v) % 3 else 0) = bk := ⟨(if how = 1 then (-v) % 3 else 0).toNat, by split <;> omega⟩
        have eB : exB (A.1 i) (A.2.2 i) how = 1 := by unfold exB; rw [if_pos hz]
        have eA : exA (A.1 i) (A.2.2 i) how = 1 + bk := by
          unfold exA
          rw [if_pos hz, hvd]
          by_cases h1 : how = 1
          · rw [if_pos h1] at hbk ⊢; omega
          · rw [if_neg h1] at hbk ⊢; omega
        have eX : exX (A.1 i) (A.2.2 i) how = v + bk := by
          unfold exX
          rw [hvd]
          by_cases h1 : how = 1
          · rw [if_pos h1] at hbk ⊢; rw [if_pos hz]; omega
          · rw [if_neg h1] at hbk ⊢; omega
        refine ⟨bk, fun K9 => enter K9 _ _ ?_, by omega, by split at hbk <;> omega, by omega⟩
        refine q_b1 lst_p2 (q_b1 (hR _ _ _ _ _ _) (q_b1 (hZ _ _ _ _ _ _) ?_))
        rw [if_pos hz]
        refine q_f (by decide) ?_
        refine q_jp (fun z24 => z24 = lN bk) ?_ ?_
        · intro z24 h24
          subst h24
          refine q_b1 lst_p3 (q_b1 lst_p4 (q_b1 (gL_eq lst_q rfl) (q_b1 lst_p5 ?_)))
          rw [eB, eX, lZ_n, lZ_add]
          rfl
        · intro k24 hk24
          by_cases h1 : how = 1
          · rw [if_pos h1] at hbk
            refine q_t (hh1.mpr h1) (q_b1 (j_fm (a := -v) (by rw [lZ_neg]) (by omega) (by omega)) (hk24 _ ?_))
            rw [hbk, lZ_n]
          · rw [if_neg h1] at hbk
            refine q_f (fun w => h1 (hh1.mp w)) (hk24 _ ?_)
            rw [lZ_n, ← hbk]; rfl
      · obtain ⟨mo, hmo⟩ : ∃ mo : Nat, (if how = 1 then v % 3 else 0) = mo := ⟨(if how = 1 then v % 3 else 0).toNat, by split <;> omega⟩
        have eB : exB (A.1 i) (A.2.2 i) how = 1 + mo := by
          unfold exB
          rw [if_neg hz, hvd]
          by_cases h1 : how = 1
          · rw [if_pos h1] at hmo ⊢; omega
          · rw [if_neg h1] at hmo ⊢; omega
        have hmo3 : mo ≤ 2 := by split at hmo <;> omega
        have eA : exA (A.1 i) (A.2.2 i) how = max n (1 + mo) := by
          unfold exA
          rw [if_neg hz, eB, hn]
        have eX : exX (A.1 i) (A.2.2 i) how = v - mo := by
          unfold exX
          rw [hvd]
          by_cases h1 : how = 1
          · rw [if_pos h1] at hmo ⊢; rw [if_neg hz]; omega
          · rw [if_neg h1] at hmo ⊢; omega
        refine ⟨1 + mo - n, fun K9 => enter K9 _ _ ?_, by omega, by omega, by omega⟩
        refine q_b1 lst_p2 (q_b1 (hR _ _ _ _ _ _) (q_b1 (hZ _ _ _ _ _ _) ?_))
        rw [if_neg hz]
        refine q_t rfl ?_
        refine q_jp (fun z16 => z16 = lN mo) ?_ ?_
        · intro z16 h16
          subst h16
          refine q_b1 lst_p4 (q_b1 (gL_eq lst_q rfl) (q_b1 (gI_eq lst_q rfl) ?_))
          refine q_b1 (j_maxLZ (a := 0) (b := (1 + mo : Int) - n) rfl (by rw [nI_l (by omega), lZ_n, lZ_n, show (1 : Int64) = lZ 1 from rfl, lZ_add, lZ_sub]) (by omega) (by omega) (by omega) (by omega)) ?_
          refine q_b1 lst_p3 (q_b1 lst_p5 ?_)
          have e1 : lZ (max 0 ((1 + mo : Int) - n)) = lN (1 + mo - n) := by rw [lZ_n]; congr 1; omega
          have e2 : (1 : Int64) + lN mo = lN (1 + mo) := by rw [show (1 : Int64) = lZ 1 from rfl, lZ_n, lZ_n, lZ_add]; congr 1
          rw [e1, e2, eB, eX, lZ_n mo, lZ_sub]
          rfl
        · intro k16 hk16
          by_cases h1 : how = 1
          · rw [if_pos h1] at hmo
            refine q_t (hh1.mpr h1) (q_b1 (j_fm (a := v) rfl (by omega) (by omega)) (hk16 _ ?_))
            rw [hmo, lZ_n]
          · rw [if_neg h1] at hmo
            refine q_f (fun w => h1 (hh1.mp w)) (hk16 _ ?_)
            rw [lZ_n, ← hmo]; rfl
    obtain ⟨bk, r1, r2, r3, r4⟩ := rest
    refine ⟨0, bk, exB (A.1 i) (A.2.2 i) how, exX (A.1 i) (A.2.2 i) how, ?_, by rw [r2], by omega, by omega, by omega, xb.1, xb.2⟩
    unfold f_X1_plan
    refine head _ _ ?_
    exact r1 _
end LYs
