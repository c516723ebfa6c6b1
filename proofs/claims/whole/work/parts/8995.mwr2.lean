/-! ===== write of the reference, whole ===== -/
theorem body_s {f : Nat → Nat} {bp i : Nat} : bodyF f bp (i + 1) = bodyF f bp i ++ (if i = bp then [46] else []) ++ [48 + f i] := rfl
section MWr2
variable {σ : St} {o : Nat} {X : Nat → Nat → Int32} {A : AS} {T W : TS} {L : List Nat}
/-- digits, with a point before place lead -/
theorem t_mw272 {i lead p all : Nat} {j8 : Int64} {i1 i3 i10 : Int32} (hi : i < 8) (e1 : i1 = nI i) (e3 : i3 = nI p) (e10 : i10 = nI lead) (hall : all = max p lead) (hp : p ≤ 5000) (hld : lead ≤ 10) (hL : L.length + all + 1 ≤ 6000) : ∀ (f k : Nat) (X : Nat → Nat → Int32), all - k < f → k ≤ all → MW X A T (L ++ bodyF (fgt (A.1 i) 0 (nd (A.1 i))) lead k) → ∃ X', f_X6_write_L272 f (mst σ o X) o i1 i3 j8 i10 (nI k) = some ((), mst σ o X', 0, 0) ∧ MW X' A T (L ++ bodyF (fgt (A.1 i) 0 (nd (A.1 i))) lead all) := by
  subst e1 e3 e10
  intro f
  induction f with
  | zero => intro k X h; omega
  | succ f ih =>
    intro k X hf hk hM
    show ∃ X', b_X6_write_L272 (f_X6_write_L272 f) _ o _ _ _ _ _ = _ ∧ _
    unfold b_X6_write_L272
    have hlen := body_len (f := fgt (A.1 i) 0 (nd (A.1 i))) (bp := lead) k
    by_cases he : k = all
    · subst he
      refine ⟨X, ?_, hM⟩
      refine q_jn ?_
      refine q_f (nI_nlt (by omega) (by omega)) ?_
      exact q_t (nI_le (by omega) (by omega)) rfl
    · have hlb : (L ++ bodyF (fgt (A.1 i) 0 (nd (A.1 i))) lead k).length = L.length + (k + if lead < k then 1 else 0) := by rw [List.length_append, hlen]
      obtain ⟨X1, a1, a2⟩ : ∃ X1, MW X1 A T (L ++ bodyF (fgt (A.1 i) 0 (nd (A.1 i))) lead k ++ (if k = lead then [46] else [])) ∧ (if k = lead then f_X6_mark (mst σ o X) o 46 = some (1, mst σ o X1, 0, 0) else X1 = X) := by
        by_cases hkl : k = lead
        · obtain ⟨X1, b1, b2⟩ := t_mmark (σ := σ) (o := o) (c := 46) (x := 46) hM (by rw [hlb, if_neg (by omega)]; omega) (by decide) rfl
          exact ⟨X1, by rw [if_pos hkl]; exact b2, by rw [if_pos hkl]; exact b1⟩
        · exact ⟨X, by rw [if_neg hkl, List.append_nil]; exact hM, by rw [if_neg hkl]⟩
      have fl := fgt_lt (A.1 i) 0 (nd (A.1 i)) k
      have hl1 : (L ++ bodyF (fgt (A.1 i) 0 (nd (A.1 i))) lead k ++ (if k = lead then [46] else [])).length < 6000 := by
        rw [List.length_append, hlb]
        by_cases hkl : k = lead
        · rw [if_pos hkl, if_neg (by omega)]; show L.length + (k + 0) + 1 < 6000; omega
        · rw [if_neg hkl]; show L.length + (k + _) + 0 < 6000; split <;> omega
      obtain ⟨X2, c1, c2⟩ := t_mmark (σ := σ) (o := o) (c := 48 + fgt (A.1 i) 0 (nd (A.1 i)) k) a1 hl1 (by omega) rfl
      have e : L ++ bodyF (fgt (A.1 i) 0 (nd (A.1 i))) lead k ++ (if k = lead then [46] else []) ++ [48 + fgt (A.1 i) 0 (nd (A.1 i)) k] = L ++ bodyF (fgt (A.1 i) 0 (nd (A.1 i))) lead (k + 1) := by
        rw [body_s, List.append_assoc, List.append_assoc, List.append_assoc]
      rw [e] at c2
      obtain ⟨X', d1, d2⟩ := ih (k + 1) X2 (by omega) (by omega) c2
      refine ⟨X', ?_, d2⟩
      refine q_jp (fun _ => True) ?_ ?_
      · intro _ _
        refine q_jp (fun z20 => z20 = mst σ o X1) ?_ ?_
        · intro z20 hz
          subst hz
          refine q_b1 (t_mfront a1.1 hi (by omega) rfl rfl) ?_
          refine q_bd0 c1 ?_
          exact q_le (nI_1 k) d1
        · intro k20 hk20
          by_cases hkl : k = lead
          · rw [if_pos hkl] at a2
            refine q_t (by rw [hkl]) ?_
            exact q_bd0 a2 (hk20 _ rfl)
          · rw [if_neg hkl] at a2
            refine q_f (fun w => hkl ((nI_eq (by omega) (by omega)).mp w)) (hk20 _ (by rw [a2]))
      · intro k19 hk19
        by_cases hkl : k < lead
        · exact q_t (nI_lt hkl (by omega)) (hk19 () trivial)
        · refine q_f (nI_nlt (by omega) (by omega)) ?_
          exact q_f (nI_ge (by omega) (by omega)) (hk19 () trivial)
theorem t_mw101 {i p all : Nat} {i1 i2 i3 : Int32} (hi : i < 8) (e1 : i1 = nI i) (e2 : i2 = nI p) (hp : p ≤ 5000) (hpa : p ≤ all) (hL : L.length + p ≤ 6000) : ∀ (f k : Nat) (X : Nat → Nat → Int32), p - k < f → k ≤ p → MW X A T (L ++ bodyF (fgt (A.1 i) 0 (nd (A.1 i))) all k) → ∃ X', f_X6_plain_L101 f (mst σ o X) o i1 i2 i3 (nI k) = some ((), mst σ o X', 0, 0) ∧ MW X' A T (L ++ bodyF (fgt (A.1 i) 0 (nd (A.1 i))) all p) := by
  subst e1 e2
  intro f
  induction f with
  | zero => intro k X h; omega
  | succ f ih =>
    intro k X hf hk hM
    show ∃ X', b_X6_plain_L101 (f_X6_plain_L101 f) _ o _ _ _ _ = _ ∧ _
    unfold b_X6_plain_L101
    have hlen := body_len (f := fgt (A.1 i) 0 (nd (A.1 i))) (bp := all) k
    by_cases he : k = p
    · subst he
      exact ⟨X, q_t (nI_le (by omega) (by omega)) rfl, hM⟩
    · have fl := fgt_lt (A.1 i) 0 (nd (A.1 i)) k
      obtain ⟨X2, c1, c2⟩ := t_mmark (σ := σ) (o := o) (c := 48 + fgt (A.1 i) 0 (nd (A.1 i)) k) hM (by rw [List.length_append, hlen, if_neg (by omega)]; omega) (by omega) rfl
      have e : L ++ bodyF (fgt (A.1 i) 0 (nd (A.1 i))) all k ++ [48 + fgt (A.1 i) 0 (nd (A.1 i)) k] = L ++ bodyF (fgt (A.1 i) 0 (nd (A.1 i))) all (k + 1) := by
        rw [body_s, if_neg (by omega), List.append_nil, List.append_assoc]
      rw [e] at c2
      obtain ⟨X', d1, d2⟩ := ih (k + 1) X2 (by omega) (by omega) c2
      refine ⟨X', ?_, d2⟩
      refine q_f (nI_ge (by omega) (by omega)) ?_
      refine q_b1 (t_mfront hM.1 hi (by omega) rfl rfl) ?_
      refine q_bd0 c1 ?_
      exact q_le (nI_1 k) d1
theorem t_mw129 {i p b : Nat} {i1 i3 : Int32} (hi : i < 8) (e1 : i1 = nI i) (h3 : i3 = iZ (-b)) (hg : 0 < A.1 i) (hp : p = nd (A.1 i)) (hL : L.length + p + b ≤ 6000) : ∀ (f k : Nat) (X : Nat → Nat → Int32), b - k < f → k ≤ b → MW X A T (L ++ bodyF (fgt (A.1 i) 0 (nd (A.1 i))) (p + b) (p + k)) → ∃ X', f_X6_plain_L129 f (mst σ o X) o i1 i3 (nI k) = some ((), mst σ o X', 0, 0) ∧ MW X' A T (L ++ bodyF (fgt (A.1 i) 0 (nd (A.1 i))) (p + b) (p + b)) := by
  subst e1
  intro f
  induction f with
  | zero => intro k X h; omega
  | succ f ih =>
    intro k X hf hk hM
    show ∃ X', b_X6_plain_L129 (f_X6_plain_L129 f) _ o _ _ _ = _ ∧ _
    unfold b_X6_plain_L129
    have hlen := body_len (f := fgt (A.1 i) 0 (nd (A.1 i))) (bp := p + b) (p + k)
    have e3 : -i3 = nI b := by rw [h3, iZ_neg, iZ_n]; congr 1; omega
    rw [e3]
    by_cases he : k = b
    · subst he
      exact ⟨X, q_t (nI_le (by omega) (by omega)) rfl, hM⟩
    · obtain ⟨X2, c1, c2⟩ := t_mmark (σ := σ) (o := o) (c := 48) (x := 48) hM (by rw [List.length_append, hlen, if_neg (by omega)]; omega) (by decide) rfl
      have ef : fgt (A.1 i) 0 (nd (A.1 i)) (p + k) = 0 := by unfold fgt; rw [if_neg (by omega)]
      have e : L ++ bodyF (fgt (A.1 i) 0 (nd (A.1 i))) (p + b) (p + k) ++ [48] = L ++ bodyF (fgt (A.1 i) 0 (nd (A.1 i))) (p + b) (p + (k + 1)) := by
        rw [← Nat.add_assoc, body_s, if_neg (by omega), List.append_nil, ef, List.append_assoc]
      rw [e] at c2
      obtain ⟨X', d1, d2⟩ := ih (k + 1) X2 (by omega) (by omega) c2
      refine ⟨X', ?_, d2⟩
      have hs := (hM.1.1 i hi).1
      have y2 : ldI (mst σ o X) (o + 2) (nI i) = some (nI (sz (A.1 i))) := by rw [ld2 rfl hi, (hM.1.2 i hi).1]
      refine q_f (nI_ge (by omega) (by omega)) ?_
      refine q_b1 m_g1 (q_b1 y2 ?_)
      refine q_f (nI_nle (sz_pos hg) (by omega)) ?_
      refine q_bd0 c1 ?_
      exact q_le (nI_1 k) d1
/-- the plain form with places behind the point -/
theorem t_mw34 {i s all fr : Nat} {i1 i3 : Int32} (hi : i < 8) (e1 : i1 = nI i) (e3 : i3 = nI s) (hs0 : 0 < s) (hall : all = fr + nd (A.1 i)) (hsa : s < all) (ha6 : L.length + all + 1 ≤ 6000) : ∀ (f k : Nat) (X : Nat → Nat → Int32), k < f → k ≤ all → MW X A T (L ++ bodyF (fgt (A.1 i) fr (nd (A.1 i))) (all - s) (all - k) ++ (if all - k = all - s then [46] else [])) → ∃ X', f_X6_plain_L34 f (mst σ o X) o i1 i3 (nI k + (-1)) = some ((), mst σ o X', 0, 0) ∧ MW X' A T (L ++ bodyF (fgt (A.1 i) fr (nd (A.1 i))) (all - s) all) := by
  subst e1 e3
  intro f
  induction f with
  | zero => intro k X h; omega
  | succ f ih =>
    intro k X hf hk hM
    show ∃ X', b_X6_plain_L34 (f_X6_plain_L34 f) _ o _ _ _ = _ ∧ _
    unfold b_X6_plain_L34
    rcases Nat.eq_zero_or_pos k with h0 | h0
    · subst h0
      rw [Nat.sub_zero, if_neg (by omega), List.append_nil] at hM
      exact ⟨X, q_t (by decide) rfl, hM⟩
    · obtain ⟨j, rfl⟩ : ∃ j, k = j + 1 := ⟨k - 1, by omega⟩
      have ej : nI (j + 1) + (-1) = nI j := by rw [← Int32.sub_eq_add_neg]; exact nI_pred j
      rw [ej]
      obtain ⟨n, hn⟩ : ∃ n, all - (j + 1) = n := ⟨_, rfl⟩
      rw [hn] at hM
      have hlen := body_len (f := fgt (A.1 i) fr (nd (A.1 i))) (bp := all - s) n
      have hl1 : (L ++ bodyF (fgt (A.1 i) fr (nd (A.1 i))) (all - s) n ++ (if n = all - s then [46] else [])).length < 6000 := by
        rw [List.length_append, List.length_append, hlen]
        by_cases hkl : n = all - s
        · rw [if_pos hkl, if_neg (by omega)]; show L.length + (n + 0) + 1 < 6000; omega
        · rw [if_neg hkl]; show L.length + (n + _) + 0 < 6000; split <;> omega
      have fl := fgt_lt (A.1 i) fr (nd (A.1 i)) n
      have efd : fgt (A.1 i) fr (nd (A.1 i)) n = dg (A.1 i) j := by
        unfold fgt
        rw [if_pos (by omega)]
        congr 1
        omega
      obtain ⟨X1, c1, c2⟩ := t_mmark (σ := σ) (o := o) (c := 48 + fgt (A.1 i) fr (nd (A.1 i)) n) hM hl1 (by omega) rfl
      have e : L ++ bodyF (fgt (A.1 i) fr (nd (A.1 i))) (all - s) n ++ (if n = all - s then [46] else []) ++ [48 + fgt (A.1 i) fr (nd (A.1 i)) n] = L ++ bodyF (fgt (A.1 i) fr (nd (A.1 i))) (all - s) (n + 1) := by
        rw [body_s, List.append_assoc, List.append_assoc, List.append_assoc]
      rw [e] at c2
      have en : all - j = n + 1 := by omega
      have hlen2 := body_len (f := fgt (A.1 i) fr (nd (A.1 i))) (bp := all - s) (n + 1)
      obtain ⟨X2, a1, a2⟩ : ∃ X2, MW X2 A T (L ++ bodyF (fgt (A.1 i) fr (nd (A.1 i))) (all - s) (all - j) ++ (if all - j = all - s then [46] else [])) ∧ (if j = s then f_X6_mark (mst σ o X1) o 46 = some (1, mst σ o X2, 0, 0) else X2 = X1) := by
        rw [en]
        by_cases hkl : j = s
        · obtain ⟨X2, b1, b2⟩ := t_mmark (σ := σ) (o := o) (c := 46) (x := 46) c2 (by rw [List.length_append, hlen2, if_neg (by omega)]; omega) (by decide) rfl
          exact ⟨X2, by rw [if_pos (by omega)]; exact b2, by rw [if_pos hkl]; exact b1⟩
        · exact ⟨X1, by rw [if_neg (by omega), List.append_nil]; exact c2, by rw [if_neg hkl]⟩
      obtain ⟨X', d1, d2⟩ := ih j X2 (by omega) (by omega) a1
      refine ⟨X', ?_, d2⟩
      have hs := (hM.1.1 i hi).1
      have y2 : ldI (mst σ o X) (o + 2) (nI i) = some (nI (sz (A.1 i))) := by rw [ld2 rfl hi, (hM.1.2 i hi).1]
      refine q_f (nI_pos (by omega)) ?_
      refine q_b1 m_g1 (q_b1 y2 ?_)
      refine q_jp (fun z20 => z20 = nI (48 + fgt (A.1 i) fr (nd (A.1 i)) n)) ?_ ?_
      · intro z20 hz
        subst hz
        refine q_bd0 c1 ?_
        refine q_jp (fun z23 => z23 = mst σ o X2) ?_ ?_
        · intro z23 hz
          subst hz
          exact q_lt d1
        · intro k23 hk23
          by_cases hkl : j = s
          · rw [if_pos hkl] at a2
            refine q_t (by rw [hkl]) ?_
            exact q_bd0 a2 (hk23 _ rfl)
          · rw [if_neg hkl] at a2
            exact q_f (fun w => hkl ((nI_eq (by omega) (by omega)).mp w)) (hk23 _ (by rw [a2]))
      · intro k20 hk20
        rw [efd] at hk20
        by_cases hjs : sz (A.1 i) ≤ j
        · refine q_t (nI_le hjs (by omega)) (hk20 _ ?_)
          rw [dg_hi hjs]; rfl
        · refine q_f (nI_ge (by omega) (by omega)) ?_
          refine q_b1 m_g0 (q_b1 (ld1 (i := 4096 * i + j) nI_q (by omega)) (hk20 _ ?_))
          rw [(hM.1.2 i hi).2.1 j (by omega), show (48 : Int32) = nI 48 from rfl, nI_add]
theorem nd4 {x : Nat} (h : sz x ≤ 4096) : nd x ≤ 4096 := by rw [nd_sz]; split <;> omega
theorem t_mplain {i : Nat} {a : Int32} (hi : i < 8) (ha : a = nI i) (hM : MW X A T L) (hL : (L ++ bodyF (fgt (A.1 i) (plF (A.1 i) (A.2.2 i)) (nd (A.1 i))) (plB (A.1 i) (A.2.2 i)) (plA (A.1 i) (A.2.2 i))).length ≤ 6000) : ∃ X', f_X6_plain (mst σ o X) o a = some ((), mst σ o X', 0, 0) ∧ MW X' A T (L ++ bodyF (fgt (A.1 i) (plF (A.1 i) (A.2.2 i)) (nd (A.1 i))) (plB (A.1 i) (A.2.2 i)) (plA (A.1 i) (A.2.2 i))) := by
  subst ha
  have hF := FU_ge
  obtain ⟨c0, c1, c2, c3⟩ := hM.1.1 i hi
  have hn4 := nd4 c0
  have hn1 := nd_pos (A.1 i)
  have s4 : ldI (mst σ o X) (o + 4) (nI i) = some (iZ (A.2.2 i)) := by rw [ld4 rfl hi, (hM.1.2 i hi).2.2.2]
  rw [List.length_append, body_len] at hL
  have dof := t_mdigitsOf (σ := σ) (o := o) hM.1 hi rfl
  by_cases hs0 : A.2.2 i ≤ 0
  · have eF : plF (A.1 i) (A.2.2 i) = 0 := by
      unfold plF
      split <;> omega
    have eA : plA (A.1 i) (A.2.2 i) = nd (A.1 i) + (if A.1 i = 0 then 0 else (-A.2.2 i).toNat) := by
      unfold plA
      rw [eF]
      by_cases w : 0 ≤ A.2.2 i
      · rw [if_pos w]
        split <;> omega
      · rw [if_neg w]
    have eB : plB (A.1 i) (A.2.2 i) = plA (A.1 i) (A.2.2 i) := by
      unfold plB
      split <;> omega
    rw [eB, if_neg (by omega)] at hL
    rw [eF, eB]
    obtain ⟨X1, a1, a2⟩ := t_mw101 (σ := σ) (o := o) (L := L) (i := i) (p := nd (A.1 i)) (all := plA (A.1 i) (A.2.2 i)) (i1 := nI i) (i2 := nI (nd (A.1 i))) (i3 := iZ (A.2.2 i)) hi rfl rfl (by omega) (by omega) (by omega) FU 0 X (by omega) (by omega) (by rw [show bodyF (fgt (A.1 i) 0 (nd (A.1 i))) (plA (A.1 i) (A.2.2 i)) 0 = [] from rfl, List.append_nil]; exact hM)
    rcases Nat.eq_zero_or_pos (A.1 i) with g | g
    · rw [if_pos g, Nat.add_zero] at eA
      rw [eA] at a2 ⊢
      refine ⟨X1, ?_, a2⟩
      unfold f_X6_plain
      refine q_ob m_o (q_b1 dof (q_b1 m_g3 (q_b1 s4 ?_)))
      refine q_t ((iZ_le (b := 0) (by omega) (by omega) (by omega) (by omega)).mpr hs0) ?_
      refine q_bd0 a1 ?_
      have l2 : f_X6_plain_L129 FU (mst σ o X1) o (nI i) (iZ (A.2.2 i)) 0 = some ((), mst σ o X1, 0, 0) := by
        obtain ⟨F, hF'⟩ : ∃ F, FU = F + 1 := ⟨FU - 1, by omega⟩
        rw [hF']
        show b_X6_plain_L129 _ _ o _ _ _ = _
        unfold b_X6_plain_L129
        by_cases w : -iZ (A.2.2 i) ≤ 0
        · exact q_t w rfl
        · refine q_f w ?_
          have y2 : ldI (mst σ o X1) (o + 2) (nI i) = some (nI (sz (A.1 i))) := by rw [ld2 rfl hi, (a2.1.2 i hi).1]
          refine q_b1 m_g1 (q_b1 y2 ?_)
          exact q_t (by rw [g]; decide) rfl
      exact q_bd0 l2 rfl
    · rw [if_neg (by omega)] at eA
      obtain ⟨b, hb⟩ : ∃ b, (-A.2.2 i).toNat = b := ⟨_, rfl⟩
      rw [hb] at eA
      rw [eA] at a2 hL ⊢
      obtain ⟨X2, b1, b2⟩ := t_mw129 (σ := σ) (o := o) (L := L) (i := i) (p := nd (A.1 i)) (b := b) (i1 := nI i) (i3 := iZ (A.2.2 i)) hi rfl (by congr 1; omega) g rfl (by omega) FU 0 X1 (by omega) (by omega) a2
      refine ⟨X2, ?_, b2⟩
      unfold f_X6_plain
      refine q_ob m_o (q_b1 dof (q_b1 m_g3 (q_b1 s4 ?_)))
      refine q_t ((iZ_le (b := 0) (by omega) (by omega) (by omega) (by omega)).mpr hs0) ?_
      exact q_bd0 a1 (q_bd0 b1 rfl)
  · obtain ⟨s, hs⟩ : ∃ s : Nat, A.2.2 i = s := ⟨(A.2.2 i).toNat, by omega⟩
    have eF : plF (A.1 i) (A.2.2 i) = s + 1 - nd (A.1 i) := by
      unfold plF
      rw [if_pos (by omega), hs]
      omega
    have eA : plA (A.1 i) (A.2.2 i) = (s + 1 - nd (A.1 i)) + nd (A.1 i) := by
      unfold plA
      rw [if_pos (by omega), eF]
    have eB : plB (A.1 i) (A.2.2 i) = (s + 1 - nd (A.1 i)) + nd (A.1 i) - s := by
      unfold plB
      rw [if_pos (by omega), eA, hs]
      rfl
    obtain ⟨fr, hfr⟩ : ∃ fr, s + 1 - nd (A.1 i) = fr := ⟨_, rfl⟩
    rw [hfr] at eF eA eB
    rw [eA, eB, if_pos (by omega)] at hL
    rw [eF, eA, eB]
    obtain ⟨X1, a1, a2⟩ := t_mw34 (σ := σ) (o := o) (L := L) (i := i) (s := s) (all := fr + nd (A.1 i)) (fr := fr) (i1 := nI i) (i3 := iZ (A.2.2 i)) hi rfl (by rw [hs]; rfl) (by omega) rfl (by omega) (by omega) FU (fr + nd (A.1 i)) X (by omega) (by omega) (by
      rw [Nat.sub_self, if_neg (by omega), List.append_nil, show bodyF (fgt (A.1 i) fr (nd (A.1 i))) (fr + nd (A.1 i) - s) 0 = [] from rfl, List.append_nil]; exact hM)
    refine ⟨X1, ?_, a2⟩
    unfold f_X6_plain
    refine q_ob m_o (q_b1 dof (q_b1 m_g3 (q_b1 s4 ?_)))
    refine q_f (fun w => hs0 ((iZ_le (b := 0) (by omega) (by omega) (by omega) (by omega)).mp w)) ?_
    refine q_jp (fun z17 => z17 = nI (fr + nd (A.1 i)) + (-1)) ?_ ?_
    · intro z hz
      subst hz
      exact q_bd0 a1 rfl
    · intro k17 hk17
      have ei : iZ (A.2.2 i) = nI s := by rw [hs]; rfl
      rw [ei]
      by_cases w : nd (A.1 i) ≤ s
      · refine q_t (nI_le w (by omega)) (hk17 _ ?_)
        rw [← Int32.sub_eq_add_neg, show fr + nd (A.1 i) = s + 1 by omega]
        exact (nI_pred s).symm
      · refine q_f (nI_ge (by omega) (by omega)) (hk17 _ ?_)
        rw [← Int32.sub_eq_add_neg, show fr + nd (A.1 i) = nd (A.1 i) by omega]
end MWr2
