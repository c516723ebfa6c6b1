/-! ===== write and characterAt of the reference ===== -/
def sChar (W : TS) (k : Int32) : Int32 := if 0 ≤ k ∧ k < nI W.2 then nI (W.1 k.toNatClampNeg) else -1
theorem pl_np {m : Nat} {s : Int} (h : s ≤ 0) : plF m s = 0 ∧ plA m s = nd m + (if m = 0 then 0 else (-s).toNat) ∧ plB m s = plA m s := by
  have hn1 := nd_pos m
  have eF : plF m s = 0 := by unfold plF; split <;> omega
  have eA : plA m s = nd m + (if m = 0 then 0 else (-s).toNat) := by
    unfold plA
    rw [eF]
    by_cases w : 0 ≤ s
    · rw [if_pos w]; split <;> omega
    · rw [if_neg w]
  refine ⟨eF, eA, ?_⟩
  unfold plB
  split <;> omega
theorem pl_ps {m s : Nat} (h : 0 < s) : plF m s = s + 1 - nd m ∧ plA m s = (s + 1 - nd m) + nd m ∧ plB m s = (s + 1 - nd m) + nd m - s := by
  have eF : plF m s = s + 1 - nd m := by unfold plF; rw [if_pos (by omega)]; omega
  have eA : plA m s = (s + 1 - nd m) + nd m := by unfold plA; rw [if_pos (by omega), eF]
  refine ⟨eF, eA, ?_⟩
  unfold plB
  rw [if_pos (by omega), eA]
  rfl
section MWr3
variable {σ : St} {o : Nat} {X : Nat → Nat → Int32} {A : AS} {T W : TS} {L : List Nat}
theorem t_mchar {k : Int32} (hW : WX X W) : f_X6_characterAt (mst σ o X) o k = some (sChar W k) := by
  obtain ⟨w1, w2, w3⟩ := hW
  unfold f_X6_characterAt sChar
  refine q_ob m_o ?_
  by_cases hk : k < 0
  · refine q_t hk ?_
    rw [if_neg (fun w => Int32.not_lt.mpr w.1 hk)]
  · refine q_f hk ?_
    obtain ⟨j, hj, rfl⟩ := nI_of hk
    have e9 : gI (mst σ o X) 6 o 9 = some (nI W.2) := by rw [m_i9, w1]
    refine q_b1 e9 ?_
    by_cases hlt : j < W.2
    · refine q_t (nI_lt hlt (by omega)) ?_
      rw [if_pos ⟨nI_pos' (by omega), nI_lt hlt (by omega)⟩, nI_clamp (by omega)]
      refine q_b1 m_g10 (q_b1 (ldM (k := 8) (i := j) (by decide) (by decide) rfl (by show j < 6000; omega)) ?_)
      rw [(w3 j hlt).1]
    · have : ¬ nI j < nI W.2 := fun w => hlt ((nI_ltI (by omega) (by omega)).mp w)
      refine q_f this ?_
      rw [if_neg (fun w => this w.2)]
theorem tm3 {j : Int} : j.tmod 3 = 0 ↔ j % 3 = 0 := by
  rw [← Int.dvd_iff_tmod_eq_zero, Int.dvd_iff_emod_eq_zero]
theorem t_mw148 {l4 : Int64} : ∀ (f : Nat) (j : Int), ((-j) % 3).toNat < f → -1000000000000 < j → j < 1000000000000 → f_X6_write_L148 f (mst σ o X) o l4 (lZ j) = some (lZ (j + (-j) % 3)) := by
  intro f
  induction f with
  | zero => intro j h; omega
  | succ f ih =>
    intro j hf h1 h2
    show b_X6_write_L148 (f_X6_write_L148 f) _ o _ _ = _
    unfold b_X6_write_L148
    refine q_b1 (rmZ (b := 3) rfl rfl (by omega) (by omega) (by decide) (by decide)) ?_
    have hb : (j.tmod 3).natAbs ≤ j.natAbs := by rw [Int.natAbs_tmod]; exact Nat.mod_le _ _
    have ht := tm3 (j := j)
    generalize j.tmod 3 = z at hb ht ⊢
    by_cases hz : z = 0
    · refine q_t (by rw [hz]; rfl) ?_
      have : (-j) % 3 = 0 := by have := ht.mp hz; omega
      rw [this, Int.add_zero]
    · refine q_f (fun w => hz ((lZ_eq (b := 0) (by omega) (by omega) (by omega) (by omega)).mp w)) ?_
      have hne : j % 3 ≠ 0 := fun w => hz (ht.mpr w)
      refine q_le (y := lZ (j + 1)) (by rw [show (1 : Int64) = lZ 1 from rfl, lZ_add]) ?_
      by_cases hend : j + 1 < 1000000000000
      · rw [ih (j + 1) (by omega) (by omega) hend]
        congr 2
        omega
      · omega
theorem t_mw234 {i1 i3 : Int32} {l4 : Int64} {how : Nat} {i2 : Int32} (h2 : i2 = nI how) (hh : how ≤ 2) : ∀ (f : Nat) (j : Int), (j % 3).toNat < f → -1000000000000 < j → j < 1000000000000 → f_X6_write_L234 f (mst σ o X) o i1 i2 i3 l4 (lZ j) = some (lZ (if how = 1 then j - j % 3 else j)) := by
  subst h2
  intro f
  induction f with
  | zero => intro j h; omega
  | succ f ih =>
    intro j hf h1 h2
    show b_X6_write_L234 (f_X6_write_L234 f) _ o _ _ _ _ _ = _
    unfold b_X6_write_L234
    by_cases hw : how = 1
    · refine q_t (by rw [hw]; rfl) ?_
      refine q_b1 (rmZ (b := 3) rfl rfl (by omega) (by omega) (by decide) (by decide)) ?_
      have hb : (j.tmod 3).natAbs ≤ j.natAbs := by rw [Int.natAbs_tmod]; exact Nat.mod_le _ _
      have ht := tm3 (j := j)
      generalize j.tmod 3 = z at hb ht ⊢
      by_cases hz : z = 0
      · refine q_t (by rw [hz]; rfl) ?_
        have := ht.mp hz
        rw [if_pos hw, this, Int.sub_zero]
      · refine q_f (fun w => hz ((lZ_eq (b := 0) (by omega) (by omega) (by omega) (by omega)).mp w)) ?_
        have hne : j % 3 ≠ 0 := fun w => hz (ht.mpr w)
        refine q_le (y := lZ (j - 1)) (by rw [show (1 : Int64) = lZ 1 from rfl, lZ_sub]) ?_
        by_cases hend : -1000000000000 < j - 1
        · rw [ih (j - 1) (by omega) hend (by omega), if_pos hw, if_pos hw]
          congr 2
          omega
        · omega
    · refine q_f (fun w => hw ((nI_eq (b := 1) (by omega) (by decide)).mp w)) ?_
      rw [if_neg hw]
theorem t_mw196 {e x : Int} (he : -1000000000000 < e) (hx : x < 1000000000000) (hex : e ≤ x) : ∀ (f n : Nat) (X : Nat → Nat → Int32) (L : List Nat), n < f → (n : Int) ≤ x - e → MW X A T L → L.length + n ≤ 6000 → ∃ X', f_X6_write_L196 f (mst σ o X) o (lZ x) (lZ (x - n)) = some ((), mst σ o X', 0, 0) ∧ MW X' A T (L ++ List.replicate n 48) := by
  intro f
  induction f with
  | zero => intro n X L h; omega
  | succ f ih =>
    intro n X L hf hn hM hl
    show ∃ X', b_X6_write_L196 (f_X6_write_L196 f) _ o _ _ = _ ∧ _
    unfold b_X6_write_L196
    cases n with
    | zero =>
      refine ⟨X, q_t ((lZ_le (by omega) (by omega) (by omega) (by omega)).mpr (by omega)) rfl, ?_⟩
      rw [List.replicate_zero, List.append_nil]; exact hM
    | succ n =>
      obtain ⟨X1, a1, a2⟩ := t_mmark (σ := σ) (o := o) (c := 48) (x := 48) hM (by omega) (by decide) rfl
      obtain ⟨X', b1, b2⟩ := ih n X1 _ (by omega) (by omega) a2 (by rw [List.length_append]; show L.length + 1 + n ≤ 6000; omega)
      refine ⟨X', ?_, ?_⟩
      · refine q_f (fun w => by have := (lZ_le (by omega) (by omega) (by omega) (by omega)).mp w; omega) ?_
        refine q_bd0 a1 ?_
        refine q_le (y := lZ (x - n)) (by rw [show (1 : Int64) = lZ 1 from rfl, lZ_add]; congr 1; omega) b1
      · rw [List.append_assoc] at b2
        rw [List.replicate_succ]
        exact b2
theorem t_mplainSize {i : Nat} {a : Int32} (hi : i < 8) (ha : a = nI i) (h : RG X A) : f_X6_plainSize (mst σ o X) o a = some (lN ((if A.2.1 i then 1 else 0) + (plA (A.1 i) (A.2.2 i) + if plB (A.1 i) (A.2.2 i) < plA (A.1 i) (A.2.2 i) then 1 else 0))) := by
  subst ha
  obtain ⟨c0, c1, c2, c3⟩ := h.1 i hi
  have hn4 := nd4 c0
  have hn1 := nd_pos (A.1 i)
  have s4 : ldI (mst σ o X) (o + 4) (nI i) = some (iZ (A.2.2 i)) := by rw [ld4 rfl hi, (h.2 i hi).2.2.2]
  have s3 : ldI (mst σ o X) (o + 3) (nI i) = some (sg (A.1 i) (A.2.1 i)) := by rw [ld3 rfl hi, sgn_r h hi]
  have s2 : ldI (mst σ o X) (o + 2) (nI i) = some (nI (sz (A.1 i))) := by rw [ld2 rfl hi, (h.2 i hi).1]
  unfold f_X6_plainSize
  refine q_ob m_o (q_b1 (t_mdigitsOf h hi rfl) (q_b1 m_g3 (q_b1 s4 ?_)))
  obtain ⟨b, hb⟩ : ∃ b, plA (A.1 i) (A.2.2 i) + (if plB (A.1 i) (A.2.2 i) < plA (A.1 i) (A.2.2 i) then 1 else 0) = b := ⟨_, rfl⟩
  rw [hb]
  refine q_jp (fun z4 => z4 = lN b) ?_ ?_
  · intro z4 hz
    subst hz
    refine q_b1 m_g2 (q_b1 s3 ?_)
    cases hn : A.2.1 i with
    | true =>
      refine q_f (fun w => absurd (sg_lt.mpr ⟨c3 hn, rfl⟩) (Int32.not_lt.mpr w)) ?_
      rw [if_pos rfl, show (1 : Int64) = lZ 1 from rfl, lZ_n, lZ_n, lZ_add]
      congr 2
      omega
    | false =>
      refine q_t (Int32.not_lt.mp fun w => by cases (sg_lt.mp w).2) ?_
      rw [if_neg (by decide), Nat.zero_add]
  · intro k4 hk4
    by_cases hs0 : A.2.2 i ≤ 0
    · obtain ⟨p1, p2, p3⟩ := pl_np (m := A.1 i) hs0
      rw [p3, if_neg (by omega), p2, Nat.add_zero] at hb
      refine q_t ((iZ_le (b := 0) (by omega) (by omega) (by omega) (by omega)).mpr hs0) ?_
      refine q_jp (fun _ => A.2.2 i = 0 ∨ A.1 i = 0) ?_ ?_
      · intro _ hz
        refine hk4 _ ?_
        rw [nI_l (by omega)]
        congr 1
        rcases hz with w | w
        · rw [w] at hb
          split at hb <;> omega
        · rw [if_pos w] at hb; omega
      · intro k7 hk7
        by_cases w : 0 ≤ A.2.2 i
        · exact q_t ((iZ_le (a := 0) (by omega) (by omega) (by omega) (by omega)).mpr w) (hk7 () (Or.inl (by omega)))
        · refine q_f (fun z => w ((iZ_le (a := 0) (by omega) (by omega) (by omega) (by omega)).mp z)) ?_
          refine q_b1 m_g1 (q_b1 s2 ?_)
          rcases Nat.eq_zero_or_pos (A.1 i) with g | g
          · exact q_t (by rw [g]; decide) (hk7 () (Or.inr g))
          · refine q_f (nI_nle (sz_pos g) (by omega)) (hk4 _ ?_)
            rw [if_neg (by omega)] at hb
            rw [nI_l (by omega), iZ_l c1 c2, lZ_n, lZ_n, lZ_sub]
            congr 1
            omega
    · refine q_f (fun z => hs0 ((iZ_le (b := 0) (by omega) (by omega) (by omega) (by omega)).mp z)) ?_
      obtain ⟨s, hs⟩ : ∃ s : Nat, A.2.2 i = s := ⟨(A.2.2 i).toNat, by omega⟩
      obtain ⟨p1, p2, p3⟩ := pl_ps (m := A.1 i) (s := s) (by omega)
      rw [hs, p3, p2, if_pos (by omega)] at hb
      have ei : iZ (A.2.2 i) = nI s := by rw [hs]; rfl
      rw [ei]
      by_cases w : nd (A.1 i) ≤ s
      · refine q_t (nI_le w (by omega)) (hk4 _ ?_)
        rw [nI_l (by omega), show (2 : Int64) = lZ 2 from rfl, lZ_n, lZ_n, lZ_add]
        congr 1
        omega
      · refine q_f (nI_ge (by omega) (by omega)) (hk4 _ ?_)
        rw [nI_l (by omega), show (1 : Int64) = lZ 1 from rfl, lZ_n, lZ_n, lZ_add]
        congr 1
        omega
theorem exp_len {x : Int} (h1 : -100000000000 < x) (h2 : x < 100000000000) : (expL x).length ≤ 15 := by
  unfold expL
  split
  · exact Nat.zero_le _
  · rw [List.length_append, num_len]
    have hv : x.natAbs < 10 ^ 12 := by
      have e12 : (10 : Nat) ^ 12 = 1000000000000 := by decide
      omega
    have := (nd_le (x := x.natAbs) (d := 12) (by decide)).mpr hv
    show 2 + (nd x.natAbs - 1 + 1) ≤ 15
    omega
theorem t_mwrite {a how : Int32} (hR : RG X A) (hT : TX X T) (hW : WX X W) : Mt σ o (f_X6_write (mst σ o X) o a how) (sWrite A W a how).1 A T (sWrite A W a how).2 := by
  have hF := FU_ge
  have no : ∀ e : Rs Int32, e = some (-1, mst σ o X, 0, 0) → sWrite A W a how = (-1, W) → Mt σ o e (sWrite A W a how).1 A T (sWrite A W a how).2 := fun e he hw => by
    rw [hw]; exact ⟨X, he, hR, hT, hW⟩
  unfold f_X6_write
  rcases is_or (σ := mst σ o X) a with ⟨i, hi, rfl⟩ | ⟨e1, e2⟩
  · by_cases hh0 : how < 0
    · exact no _ (q_ob m_o (q_b1 (is_y hi) (q_f (by decide) (q_t hh0 rfl)))) (if_neg (fun w => Int32.not_lt.mpr w.2.1 hh0))
    · obtain ⟨h, hh, rfl⟩ := nI_of hh0
      by_cases hh2 : h ≤ 2
      · have hspec : sWrite A W (nI i) (nI h) = if (txL (A.1 i) (A.2.1 i) (A.2.2 i) h).length ≤ 6000 then (nI (txL (A.1 i) (A.2.1 i) (A.2.2 i) h).length, ofL (txL (A.1 i) (A.2.1 i) (A.2.2 i) h)) else (-1, W) := by
          unfold sWrite
          rw [if_pos ⟨⟨nI_pos' (by omega), (nI_ltI (b := 8) (by omega) (by decide)).mpr hi⟩, nI_pos' (by omega), (nI_leI (b := 2) (by omega) (by decide)).mpr hh2⟩, nI_clamp (by omega), nI_clamp (by omega)]
        obtain ⟨c0, c1, c2, c3⟩ := hR.1 i hi
        have hn4 := nd4 c0
        have hn1 := nd_pos (A.1 i)
        have s4 : ldI (mst σ o X) (o + 4) (nI i) = some (iZ (A.2.2 i)) := by rw [ld4 rfl hi, (hR.2 i hi).2.2.2]
        obtain ⟨v, hv⟩ : ∃ v, hiS (A.1 i) (A.2.2 i) = v := ⟨_, rfl⟩
        have hvb : -5000000000 < v ∧ v < 5000000000 := by unfold hiS at hv; omega
        obtain ⟨L0, hL0⟩ : ∃ L0, (if A.2.1 i then [45] else []) = L0 := ⟨_, rfl⟩
        have hL0l : L0.length ≤ 1 := by rw [← hL0]; split <;> decide
        have htx : txL (A.1 i) (A.2.1 i) (A.2.2 i) h = L0 ++ (if isPl (A.1 i) (A.2.2 i) h = true then bodyF (fgt (A.1 i) (plF (A.1 i) (A.2.2 i)) (nd (A.1 i))) (plB (A.1 i) (A.2.2 i)) (plA (A.1 i) (A.2.2 i)) else bodyF (fgt (A.1 i) 0 (nd (A.1 i))) (exB (A.1 i) (A.2.2 i) h) (exA (A.1 i) (A.2.2 i) h) ++ expL (exX (A.1 i) (A.2.2 i) h)) := by unfold txL; rw [hL0]
        -- the text is laid
        have lay : (txL (A.1 i) (A.2.1 i) (A.2.2 i) h).length ≤ 6000 → ∃ X', ((pF (mst σ o X) 6 o 9 (.int 0)).bind fun σ8 =>
          (gR σ8 6 o 2).bind fun r9 =>
          (ldI σ8 r9 (nI i)).bind fun x10 =>
          jn (fun (z11 : Int32 × St) => (
            jn (fun (z12 : St) => (
              (gI z12 6 o 9).bind fun x13 =>
              some (x13, z12, 0, 0)
              )) fun k12 =>
            if bI (isPl (A.1 i) (A.2.2 i) h) = 0 then (
              jn (fun (z14 : Unit) => (
                (f_X6_write_L234 FU z11.2 o (nI i) (nI h) (nI (nd (A.1 i))) (lZ v) (lZ v)).bind fun y17 =>
                lt (1 + ((lZ v - y17 : Int64).toInt32)) fun x18 =>
                bd (f_X6_write_L272 FU z11.2 o (nI i) (nI (nd (A.1 i))) y17 x18 0) fun y27 σ28 =>
                bd (f_X6_putExponent σ28 o y17) fun _ σ29 =>
                k12 σ29
                )) fun k14 =>
              if nI h = 1 then (
                (gR z11.2 6 o 1).bind fun r30 =>
                (ldI z11.2 r30 (nI i)).bind fun x31 =>
                if x31 = 0 then (
                  (f_X6_write_L148 FU z11.2 o (lZ v) (lZ v)).bind fun y34 =>
                  bd (f_X6_mark z11.2 o 48) fun x35 σ36 =>
                  jn (fun (z37 : St) => (
                    bd (f_X6_write_L196 FU z37 o y34 (lZ v)) fun y41 σ42 =>
                    bd (f_X6_putExponent σ42 o y34) fun _ σ43 =>
                    k12 σ43
                    )) fun k37 =>
                  if y34 ≤ lZ v then (
                    k37 σ36
                    ) else
                  bd (f_X6_mark σ36 o 46) fun x44 σ45 =>
                  k37 σ45
                  ) else
                k14 ()
                ) else
              k14 ()
              ) else
            bd (f_X6_plain z11.2 o (nI i)) fun _ σ46 =>
            k12 σ46
            )) fun k11 =>
          jn (fun (z47 : St) => (
            k11 (1, z47)
            )) fun k47 =>
          if 0 ≤ x10 then (
            k47 σ8
            ) else
          bd (f_X6_mark σ8 o 45) fun x48 σ49 =>
          if x48 = 0 then (
            k11 (0, σ49)
            ) else
          k47 σ49) = some (nI (txL (A.1 i) (A.2.1 i) (A.2.2 i) h).length, mst σ o X', 0, 0) ∧ MW X' A T (txL (A.1 i) (A.2.1 i) (A.2.2 i) h) := by
          intro hlen
          obtain ⟨Y, hY⟩ : ∃ Y, ups X 0 (upd (X 0) 2 0) = Y := ⟨_, rfl⟩
          have yk : ∀ k, k ≠ 0 → Y k = X k := fun k q1 => by rw [← hY, ups_n q1]
          have y0 : ∀ i, i ≠ 2 → Y 0 i = X 0 i := fun i q => by rw [← hY, ups_s, pk_un q]
          have hY0 : MW Y A T [] := by
            refine ⟨⟨hR.1, fun i hi => ?_⟩, ?_, ?_⟩
            · rw [yk 1 (by decide), yk 2 (by decide), yk 3 (by decide), yk 4 (by decide)]
              exact hR.2 i hi
            · unfold TX
              rw [yk 7 (by decide), y0 1 (by decide)]; exact hT
            · exact ⟨by rw [← hY, ups_s, pk_us]; rfl, Nat.zero_le _, fun j hj => absurd hj (Nat.not_lt_zero j)⟩
          have y3 : ldI (mst σ o Y) (o + 3) (nI i) = some (sg (A.1 i) (A.2.1 i)) := by rw [ld3 rfl hi, sgn_r hY0.1 hi]
          -- the sign
          obtain ⟨X1, g1, g2⟩ : ∃ X1, MW X1 A T L0 ∧ (if A.2.1 i = true then f_X6_mark (mst σ o Y) o 45 = some (1, mst σ o X1, 0, 0) else X1 = Y) := by
            cases hn : A.2.1 i with
            | true =>
              obtain ⟨X1, b1, b2⟩ := t_mmark (σ := σ) (o := o) (c := 45) (x := 45) hY0 (by decide) (by decide) rfl
              refine ⟨X1, ?_, by rw [if_pos rfl]; exact b1⟩
              rw [← hL0, hn]; exact b2
            | false =>
              refine ⟨Y, ?_, by rw [if_neg (by decide)]⟩
              rw [← hL0, hn]; exact hY0
          have fin : ∀ X', MW X' A T (txL (A.1 i) (A.2.1 i) (A.2.2 i) h) → ((gI (mst σ o X') 6 o 9).bind fun x13 => some (x13, mst σ o X', 0, 0)) = some (nI (txL (A.1 i) (A.2.1 i) (A.2.2 i) h).length, mst σ o X', 0, 0) := fun X' hX' => by
            have : gI (mst σ o X') 6 o 9 = some (nI (txL (A.1 i) (A.2.1 i) (A.2.2 i) h).length) := by rw [m_i9, hX'.2.2.1]; rfl
            exact q_b1 this rfl
          have wrap : ∀ (X' : Nat → Nat → Int32) (K : Int32 × St → Rs Int32), K (1, mst σ o X1) = some (nI (txL (A.1 i) (A.2.1 i) (A.2.2 i) h).length, mst σ o X', 0, 0) → ((pF (mst σ o X) 6 o 9 (.int 0)).bind fun σ8 => (gR σ8 6 o 2).bind fun r9 => (ldI σ8 r9 (nI i)).bind fun x10 => jn K fun k11 => jn (fun (z47 : St) => (k11 (1, z47))) fun k47 => if 0 ≤ x10 then (k47 σ8) else bd (f_X6_mark σ8 o 45) fun x48 σ49 => if x48 = 0 then (k11 (0, σ49)) else k47 σ49) = some (nI (txL (A.1 i) (A.2.1 i) (A.2.2 i) h).length, mst σ o X', 0, 0) := by
            intro X' K hK
            refine q_b1 m_p9 ?_
            rw [hY]
            refine q_b1 m_g2 (q_b1 y3 (q_jn (q_jn ?_)))
            by_cases hn : A.2.1 i = true
            · rw [if_pos hn] at g2
              refine q_f (fun w => absurd (sg_lt.mpr ⟨c3 hn, hn⟩) (Int32.not_lt.mpr w)) ?_
              refine q_bd0 g2 ?_
              exact q_f (by decide) hK
            · rw [if_neg hn] at g2
              refine q_t (Int32.not_lt.mp fun w => hn (sg_lt.mp w).2) ?_
              rw [← g2]; exact hK
          cases hpl : isPl (A.1 i) (A.2.2 i) h with
          | true =>
            rw [hpl, if_pos rfl] at htx
            obtain ⟨X2, b1, b2⟩ := t_mplain (σ := σ) (o := o) hi rfl g1 (by rw [← htx]; exact hlen)
            rw [← htx] at b2
            refine ⟨X2, wrap X2 _ ?_, b2⟩
            refine q_jn ?_
            refine q_f (by decide) ?_
            exact q_bd0 b1 (fin X2 b2)
          | false =>
            rw [hpl, if_neg (by decide)] at htx
            have hh1 : nI h = 1 ↔ h = 1 := nI_eq (b := 1) (by omega) (by decide)
            have xb : -100000000000 < exX (A.1 i) (A.2.2 i) h ∧ exX (A.1 i) (A.2.2 i) h < 100000000000 := by
              unfold exX
              rw [hv]
              split
              · split <;> omega
              · omega
            have xl := exp_len xb.1 xb.2
            have y2 : ldI (mst σ o X1) (o + 2) (nI i) = some (nI (sz (A.1 i))) := by rw [ld2 rfl hi, (g1.1.2 i hi).1]
            by_cases hz : h = 1 ∧ A.1 i = 0
            · obtain ⟨hz1, hz2⟩ := hz
              have eX : exX (A.1 i) (A.2.2 i) h = v + (-v) % 3 := by unfold exX; rw [if_pos hz1, if_pos hz2, hv]
              have eB : exB (A.1 i) (A.2.2 i) h = 1 := by unfold exB; rw [if_pos hz2]
              have eA : exA (A.1 i) (A.2.2 i) h = 1 + ((-v) % 3).toNat := by unfold exA; rw [if_pos hz2, if_pos hz1, hv]
              obtain ⟨n, hn⟩ : ∃ n, ((-v) % 3).toNat = n := ⟨_, rfl⟩
              have hn3 : n < 3 := by omega
              have l148 := t_mw148 (σ := σ) (o := o) (X := X1) (l4 := lZ v) FU v (by omega) (by omega) (by omega)
              rw [← eX] at l148
              obtain ⟨X2, b1, b2⟩ := t_mmark (σ := σ) (o := o) (c := 48) (x := 48) g1 (by omega) (by decide) rfl
              have hl2 : (L0 ++ [48]).length ≤ 2 := by rw [List.length_append]; show L0.length + 1 ≤ 2; omega
              obtain ⟨X3, d1, d2⟩ : ∃ X3, MW X3 A T (L0 ++ [48] ++ (if 0 < n then [46] else [])) ∧ (if 0 < n then f_X6_mark (mst σ o X2) o 46 = some (1, mst σ o X3, 0, 0) else X3 = X2) := by
                by_cases h0 : 0 < n
                · obtain ⟨X3, p1, p2⟩ := t_mmark (σ := σ) (o := o) (c := 46) (x := 46) b2 (by omega) (by decide) rfl
                  exact ⟨X3, by rw [if_pos h0]; exact p2, by rw [if_pos h0]; exact p1⟩
                · exact ⟨X2, by rw [if_neg h0, List.append_nil]; exact b2, by rw [if_neg h0]⟩
              have hl3 : (L0 ++ [48] ++ (if 0 < n then [46] else [])).length ≤ 3 := by
                rw [List.length_append]
                by_cases h0 : 0 < n
                · rw [if_pos h0]; show _ + 1 ≤ 3; omega
                · rw [if_neg h0]; show _ + 0 ≤ 3; omega
              obtain ⟨X4, f1, f2⟩ := t_mw196 (σ := σ) (o := o) (e := v) (x := exX (A.1 i) (A.2.2 i) h) (by omega) (by omega) (by omega) FU n X3 _ (by omega) (by omega) d1 (by omega)
              have ev : exX (A.1 i) (A.2.2 i) h - n = v := by omega
              rw [ev] at f1
              have ebd : L0 ++ [48] ++ (if 0 < n then [46] else []) ++ List.replicate n 48 = L0 ++ bodyF (fgt (A.1 i) 0 (nd (A.1 i))) (exB (A.1 i) (A.2.2 i) h) (exA (A.1 i) (A.2.2 i) h) := by
                rw [eB, eA, hn]
                have ef : ∀ k, fgt (A.1 i) 0 (nd (A.1 i)) k = 0 := fun k => by
                  unfold fgt
                  rw [hz2, dg_hi (Nat.zero_le _)]
                  split <;> rfl
                rw [List.append_assoc, List.append_assoc]
                congr 1
                have hc : n = 0 ∨ n = 1 ∨ n = 2 := by omega
                rcases hc with rfl | rfl | rfl
                · show _ = [] ++ [] ++ [48 + fgt (A.1 i) 0 (nd (A.1 i)) 0]; rw [ef]; rfl
                · show _ = [] ++ [] ++ [48 + fgt (A.1 i) 0 (nd (A.1 i)) 0] ++ [46] ++ [48 + fgt (A.1 i) 0 (nd (A.1 i)) 1]; rw [ef, ef]; rfl
                · show _ = [] ++ [] ++ [48 + fgt (A.1 i) 0 (nd (A.1 i)) 0] ++ [46] ++ [48 + fgt (A.1 i) 0 (nd (A.1 i)) 1] ++ [] ++ [48 + fgt (A.1 i) 0 (nd (A.1 i)) 2]; rw [ef, ef, ef]; rfl
              have hl4 : (L0 ++ [48] ++ (if 0 < n then [46] else []) ++ List.replicate n 48).length ≤ 5 := by rw [List.length_append, List.length_replicate]; omega
              obtain ⟨X5, k1, k2⟩ := t_mpex (σ := σ) (o := o) (x := exX (A.1 i) (A.2.2 i) h) rfl xb.1 xb.2 f2 (by omega)
              rw [ebd, List.append_assoc, ← htx] at k2
              refine ⟨X5, wrap X5 _ ?_, k2⟩
              refine q_jn (q_t rfl (q_jn ?_))
              refine q_t (hh1.mpr hz1) ?_
              refine q_b1 m_g1 (q_b1 y2 ?_)
              refine q_t (by rw [hz2]; rfl) ?_
              refine q_b1 l148 (q_bd0 b1 ?_)
              refine q_jp (fun z37 => z37 = mst σ o X3) ?_ ?_
              · intro z hz
                subst hz
                exact q_bd0 f1 (q_bd0 k1 (fin X5 k2))
              · intro k37 hk37
                by_cases h0 : 0 < n
                · rw [if_pos h0] at d2
                  refine q_f (fun w => by have := (lZ_le (by omega) (by omega) (by omega) (by omega)).mp w; omega) ?_
                  exact q_bd0 d2 (hk37 _ rfl)
                · rw [if_neg h0] at d2
                  exact q_t ((lZ_le (by omega) (by omega) (by omega) (by omega)).mpr (by omega)) (hk37 _ (by rw [d2]))
            · have eX : exX (A.1 i) (A.2.2 i) h = if h = 1 then v - v % 3 else v := by
                unfold exX
                by_cases h1 : h = 1
                · rw [if_pos h1, if_pos h1, if_neg (fun w => hz ⟨h1, w⟩), hv]
                · rw [if_neg h1, if_neg h1, hv]
              have l234 := t_mw234 (σ := σ) (o := o) (X := X1) (i1 := nI i) (i3 := nI (nd (A.1 i))) (l4 := lZ v) (how := h) rfl hh2 FU v (by omega) (by omega) (by omega)
              rw [← eX] at l234
              have eB : (exB (A.1 i) (A.2.2 i) h : Int) = 1 + (v - exX (A.1 i) (A.2.2 i) h) := by
                unfold exB
                rw [eX]
                by_cases h1 : h = 1
                · rw [if_neg (fun w => hz ⟨h1, w⟩), if_pos h1, if_pos h1, hv]
                  omega
                · rw [if_neg h1, if_neg h1]
                  split <;> omega
              have hB3 : exB (A.1 i) (A.2.2 i) h ≤ 3 := by
                rw [eX] at eB
                split at eB <;> omega
              have eA : exA (A.1 i) (A.2.2 i) h = max (nd (A.1 i)) (exB (A.1 i) (A.2.2 i) h) := by
                unfold exA
                by_cases hm : A.1 i = 0
                · have h1 : h ≠ 1 := fun w => hz ⟨w, hm⟩
                  rw [if_pos hm, if_neg h1]
                  have : nd (A.1 i) = 1 := by rw [hm]; rfl
                  rw [this]
                  unfold exB
                  rw [if_pos hm]
                  rfl
                · rw [if_neg hm]
              obtain ⟨X2, b1, b2⟩ := t_mw272 (σ := σ) (o := o) (L := L0) (i := i) (lead := exB (A.1 i) (A.2.2 i) h) (p := nd (A.1 i)) (all := exA (A.1 i) (A.2.2 i) h) (j8 := lZ (exX (A.1 i) (A.2.2 i) h)) (i10 := nI (exB (A.1 i) (A.2.2 i) h)) hi rfl rfl rfl eA (by omega) (by omega) (by omega) FU 0 X1 (by omega) (by omega) (by rw [show bodyF (fgt (A.1 i) 0 (nd (A.1 i))) (exB (A.1 i) (A.2.2 i) h) 0 = [] from rfl, List.append_nil]; exact g1)
              have hlb : (L0 ++ bodyF (fgt (A.1 i) 0 (nd (A.1 i))) (exB (A.1 i) (A.2.2 i) h) (exA (A.1 i) (A.2.2 i) h)).length ≤ 4200 := by
                rw [List.length_append, body_len]
                split <;> omega
              obtain ⟨X5, k1, k2⟩ := t_mpex (σ := σ) (o := o) (x := exX (A.1 i) (A.2.2 i) h) rfl xb.1 xb.2 b2 (by omega)
              rw [List.append_assoc, ← htx] at k2
              refine ⟨X5, wrap X5 _ ?_, k2⟩
              refine q_jn (q_t rfl ?_)
              refine q_jp (fun _ => True) ?_ ?_
              · intro _ _
                refine q_b1 l234 ?_
                refine q_le (y := nI (exB (A.1 i) (A.2.2 i) h)) (by rw [lZ_sub, lZ_i, show (1 : Int32) = iZ 1 from rfl, iZ_add, iZ_n, eB]) ?_
                exact q_bd0 b1 (q_bd0 k1 (fin X5 k2))
              · intro k14 hk14
                by_cases h1 : h = 1
                · refine q_t (hh1.mpr h1) ?_
                  refine q_b1 m_g1 (q_b1 y2 ?_)
                  have : 0 < A.1 i := Nat.pos_of_ne_zero fun w => hz ⟨h1, w⟩
                  exact q_f (nI_ne0 (sz_pos this) (by omega)) (hk14 () trivial)
                · exact q_f (fun w => h1 (hh1.mp w)) (hk14 () trivial)
        have start : ∀ (v' : Int32) (σ' : St) (K : Int32 → Rs Int32), K (bI (isPl (A.1 i) (A.2.2 i) h)) = some (v', σ', 0, 0) → (jn K fun k6 => jn (fun (z51 : Unit) => (k6 1)) fun k51 => if nI h = 2 then (k51 ()) else (gR (mst σ o X) 6 o 3).bind fun r52 => (ldI (mst σ o X) r52 (nI i)).bind fun x53 => jn (fun (z54 : Unit) => (k6 0)) fun k54 => if x53 < 0 then (k54 ()) else if lZ v < (-6) then (k54 ()) else k51 ()) = some (v', σ', 0, 0) := by
          intro v' σ' K hK
          refine q_jn (q_jn ?_)
          unfold isPl at hK
          rw [hv] at hK
          by_cases h2 : h = 2
          · rw [decide_eq_true h2, Bool.true_or] at hK
            exact q_t (by rw [h2]; rfl) hK
          · rw [decide_eq_false h2, Bool.false_or] at hK
            refine q_f (fun w => h2 ((nI_eq (b := 2) (by omega) (by decide)).mp w)) ?_
            refine q_b1 m_g3 (q_b1 s4 (q_jn ?_))
            by_cases hs : A.2.2 i < 0
            · rw [decide_eq_false (by omega), Bool.false_and] at hK
              exact q_t ((iZ_lt (b := 0) (by omega) (by omega) (by omega) (by omega)).mpr hs) hK
            · rw [decide_eq_true (by omega), Bool.true_and] at hK
              refine q_f (fun w => hs ((iZ_lt (b := 0) (by omega) (by omega) (by omega) (by omega)).mp w)) ?_
              have l6 : lZ v < (-6) ↔ v < -6 := by
                rw [show (-6 : Int64) = lZ (-6) by decide]
                exact lZ_lt (by omega) (by omega) (by decide) (by decide)
              by_cases h6 : v < -6
              · rw [decide_eq_false (by omega)] at hK
                exact q_t (l6.mpr h6) hK
              · rw [decide_eq_true (by omega)] at hK
                exact q_f (fun w => h6 (l6.mp w)) hK
        have pre : ∀ (v' : Int32) (σ' : St) (K : Int32 → Int64 → Rs Int32), K (nI (nd (A.1 i))) (lZ v) = some (v', σ', 0, 0) → ob (mst σ o X) 6 o ((f_X6_is (mst σ o X) (nI i)).bind fun x1 => if x1 = 0 then (some ((-1), mst σ o X, 0, 0)) else if nI h < 0 then (some ((-1), mst σ o X, 0, 0)) else if nI h ≤ 2 then ((f_X6_digitsOf (mst σ o X) o (nI i)).bind fun x2 => (gR (mst σ o X) 6 o 3).bind fun r3 => (ldI (mst σ o X) r3 (nI i)).bind fun x4 => lt ((((x2 : Int32).toInt64) - 1) - ((x4 : Int32).toInt64)) fun l5 => K x2 l5) else some ((-1), mst σ o X, 0, 0)) = some (v', σ', 0, 0) := by
          intro v' σ' K hK
          refine q_ob m_o (q_b1 (is_y hi) (q_f (by decide) (q_f hh0 (q_t (nI_le (b := 2) hh2 (by decide)) ?_))))
          refine q_b1 (t_mdigitsOf hR hi rfl) (q_b1 m_g3 (q_b1 s4 ?_))
          refine q_le (y := lZ v) ?_ hK
          rw [nI_l (by omega), iZ_l c1 c2, lZ_n, show (1 : Int64) = lZ 1 from rfl, lZ_sub, lZ_sub, ← hv]
          rfl
        by_cases hlen : (txL (A.1 i) (A.2.1 i) (A.2.2 i) h).length ≤ 6000
        · obtain ⟨X', l1, l2, l3, l4⟩ := lay hlen
          rw [hspec, if_pos hlen]
          refine ⟨X', ?_, l2, l3, l4⟩
          refine pre _ _ _ ?_
          refine start _ _ _ ?_
          refine q_jn ?_
          cases hpl : isPl (A.1 i) (A.2.2 i) h with
          | true =>
            rw [hpl] at l1
            refine q_f (by decide) ?_
            refine q_b1 (t_mplainSize hi rfl hR) ?_
            rw [htx, hpl, if_pos rfl, List.length_append, body_len] at hlen
            have e0 : L0.length = if A.2.1 i then 1 else 0 := by rw [← hL0]; split <;> rfl
            rw [e0] at hlen
            generalize hq : (if A.2.1 i then 1 else 0) + (plA (A.1 i) (A.2.2 i) + if plB (A.1 i) (A.2.2 i) < plA (A.1 i) (A.2.2 i) then 1 else 0) = q at hlen ⊢
            exact q_t ((lZ_le (a := q) (b := 6000) (by omega) (by omega) (by omega) (by omega)).mpr (by omega)) l1
          | false =>
            rw [hpl] at l1
            exact q_t rfl l1
        · refine no _ ?_ (by rw [hspec, if_neg hlen])
          refine pre _ _ _ ?_
          refine start _ _ _ ?_
          refine q_jn ?_
          cases hpl : isPl (A.1 i) (A.2.2 i) h with
          | true =>
            refine q_f (by decide) ?_
            refine q_b1 (t_mplainSize hi rfl hR) ?_
            rw [htx, hpl, if_pos rfl, List.length_append, body_len] at hlen
            have e0 : L0.length = if A.2.1 i then 1 else 0 := by rw [← hL0]; split <;> rfl
            rw [e0] at hlen
            have hbA : plA (A.1 i) (A.2.2 i) ≤ 3000000000 := by
              unfold plA plF
              split
              · omega
              · split <;> omega
            generalize hq : (if A.2.1 i then 1 else 0) + (plA (A.1 i) (A.2.2 i) + if plB (A.1 i) (A.2.2 i) < plA (A.1 i) (A.2.2 i) then 1 else 0) = q at hlen ⊢
            have hq2 : q ≤ 3000000002 := by
              rw [← hq]
              split <;> split <;> omega
            exact q_f (fun w => by have := (lZ_le (a := q) (b := 6000) (by omega) (by omega) (by omega) (by omega)).mp w; omega) rfl
          | false =>
            exfalso
            apply hlen
            rw [htx, hpl, if_neg (by decide), List.length_append, List.length_append, body_len]
            have xb : -100000000000 < exX (A.1 i) (A.2.2 i) h ∧ exX (A.1 i) (A.2.2 i) h < 100000000000 := by
              unfold exX
              rw [hv]
              split
              · split <;> omega
              · omega
            have xl := exp_len xb.1 xb.2
            have hB : exB (A.1 i) (A.2.2 i) h ≤ 3 := by
              unfold exB
              rw [hv]
              split
              · omega
              · split <;> omega
            have hA : exA (A.1 i) (A.2.2 i) h ≤ 4096 := by
              unfold exA
              rw [hv]
              split
              · split <;> omega
              · omega
            split <;> omega
      · refine no _ (q_ob m_o (q_b1 (is_y hi) (q_f (by decide) (q_f hh0 (q_f (nI_ge (a := 2) (by omega) (by omega)) rfl))))) (if_neg (fun w => hh2 ((nI_leI (b := 2) (by omega) (by decide)).mp w.2.2)))
  · exact no _ (q_ob m_o (q_b1 e1 (q_t rfl rfl))) (if_neg (fun w => e2 w.1))
end MWr3
