def iSt (n0 tT b L : Nat) (xs f : Nat → Int32) : St := (fun q => if q = b then some (.inr (.inr (L, xs))) else if q = tT then some (.inr (.inr (10, f))) else none, n0, tT)
def tensF (j : Nat) : Int32 := nI (10 ^ j)
/-- the law as a function answers 1, within its room -/
def LawPure : Prop := ∀ (n0 tT b L : Nat) (xs f : Nat → Int32), L ≤ 3072 → b < n0 → tT < n0 → (∀ j, j < 10 → f j = tensF j) → (b = tT → L = 10 ∧ ∀ j, j < 10 → xs j = f j) → ∃ (σ' : St) (k s : Nat), f_L_law (iSt n0 tT b L xs f) b = some (1, σ', k, s) ∧ k ≤ 600000 ∧ s ≤ 7302250
set_option maxHeartbeats 8000000 in
set_option maxRecDepth 100000 in
theorem whole_of (hLP : LawPure) {p : Program} {e : Env} {s : State} {m : MethodId} {below : List Frame} {meth : Method} {c : Code} (l : Launch) {b L : Nat} {xs : Nat → Int32} (hL : L ≤ 3072) (C0 : lw_At p s m meth c b L xs) : W p l e room_1 s m #[Value.ref b] below meth c s.heap [] 0 0 (lw_Z below #[Value.ref b] s) (entryFrame m ([Value.ref b] : List Value).toArray 4) := by
  obtain ⟨hx, hb, hr, hml, hown, hts, hX, hbl, hlocks, hgv⟩ := id C0
  have htsG : ∀ w ∈ GT, w.before #[Value.ref b] s = true := fun w h => hts w (GT_in w h)
  obtain ⟨c0, iS0, hKn0⟩ := u_known (C := "TensMill$Decimal") (T := TX0) (N := 3) (n := 3) htsG ut_0 (htsG _ w_162)
  obtain ⟨c1, iS1, hKn1⟩ := u_known (C := "TensMill$Layout") (T := TX1) (N := 6) (n := 6) htsG ut_1 (htsG _ w_138)
  obtain ⟨c2, iS2, hKn2⟩ := u_known (C := "TensMill$Natural") (T := TX2) (N := 2) (n := 2) htsG ut_2 (htsG _ w_80)
  obtain ⟨c3, iS3, hKn3⟩ := u_known (C := "TensMill$Numeral") (T := TX3) (N := 5) (n := 5) htsG ut_3 (htsG _ w_111)
  obtain ⟨c4, iS4, hKn4⟩ := u_known (C := "TensMill$Text") (T := TX4) (N := 2) (n := 2) htsG ut_4 (htsG _ w_94)
  obtain ⟨c5, iS5, hKn5⟩ := u_known (C := "TensMill") (T := TX5) (N := 8) (n := 8) htsG ut_5 (htsG _ w_70)
  obtain ⟨c6, iS6, hKn6⟩ := u_known (C := "TensMillModel") (T := TX6) (N := 11) (n := 11) htsG ut_6 (htsG _ w_651)
  obtain ⟨dC, dI, hKc⟩ : ∃ (dC : Nat → ClassId) (dI : Nat → Nat → Nat), ∀ (k : Nat) (q : vw_C), vwCl[k]? = some q → u_Kn s q.1 q.2.1 q.2.2 (dC k) (dI k) := by
    refine ⟨fun k => if k = 0 then c0 else if k = 1 then c1 else if k = 2 then c2 else if k = 3 then c3 else if k = 4 then c4 else if k = 5 then c5 else c6, fun k => if k = 0 then iS0 else if k = 1 then iS1 else if k = 2 then iS2 else if k = 3 then iS3 else if k = 4 then iS4 else if k = 5 then iS5 else iS6, ?_⟩
    intro k q hq
    match k, hq with
    | 0, hq => cases hq; exact hKn0
    | 1, hq => cases hq; exact hKn1
    | 2, hq => cases hq; exact hKn2
    | 3, hq => cases hq; exact hKn3
    | 4, hq => cases hq; exact hKn4
    | 5, hq => cases hq; exact hKn5
    | 6, hq => cases hq; exact hKn6
    | k + 7, hq => simp [vwCl] at hq
  have hq := flat_of_before _ hgv
  obtain ⟨cI, kI, mI, i1, i2, i3⟩ := Cond.arrayClass_spec (htsG (Cond.arrayClass .int) w_92)
  obtain ⟨cB, kB, mB, b1, b2, b3⟩ := Cond.arrayClass_spec (htsG (Cond.arrayClass .byte) w_109)
  have hAO : va_AO "TensMill$Decimal" s := va_AO.of (hts (Cond.arrayOver (.object "TensMill$Decimal")) (List.mem_append_right _ (List.mem_append_left _ (List.mem_of_getElem? (i := 21) rfl))))
  obtain ⟨mD, cD, kD, e1, e2, e3, e4, e5⟩ := Cond.arrayOver_spec hAO
  have hold : ∀ a : Nat, a < s.heap.size → ¬ s.heap.size ≤ a := fun a h => Nat.not_le.mpr h
  obtain ⟨tT, ht, hT⟩ := va_Tof (args := #[Value.ref b]) (s := s) (tm := .static "TensMill" "TENS" "[I") (ty := .int) (N := 10) (f := fun j => .int (tensF j)) (A := fun q => s.heap.size ≤ q) (by decide) (hq _ (by decide +kernel)) (va_eqt (hq _ (by decide +kernel))) (fun j hj => match j, hj with
    | 0, _ => (by show _ = some (Value.int (tensF 0)); exact va_eqt (hq _ (by decide +kernel)))
    | 1, _ => (by show _ = some (Value.int (tensF 1)); exact va_eqt (hq _ (by decide +kernel)))
    | 2, _ => (by show _ = some (Value.int (tensF 2)); exact va_eqt (hq _ (by decide +kernel)))
    | 3, _ => (by show _ = some (Value.int (tensF 3)); exact va_eqt (hq _ (by decide +kernel)))
    | 4, _ => (by show _ = some (Value.int (tensF 4)); exact va_eqt (hq _ (by decide +kernel)))
    | 5, _ => (by show _ = some (Value.int (tensF 5)); exact va_eqt (hq _ (by decide +kernel)))
    | 6, _ => (by show _ = some (Value.int (tensF 6)); exact va_eqt (hq _ (by decide +kernel)))
    | 7, _ => (by show _ = some (Value.int (tensF 7)); exact va_eqt (hq _ (by decide +kernel)))
    | 8, _ => (by show _ = some (Value.int (tensF 8)); exact va_eqt (hq _ (by decide +kernel)))
    | 9, _ => (by show _ = some (Value.int (tensF 9)); exact va_eqt (hq _ (by decide +kernel)))
    | j + 10, hj => absurd hj (by omega)) hold
  have hZ := va_Zof (A := fun q => s.heap.size ≤ q) (hts (Cond.laysStatic "TensMill" "TENS" "[I") (List.mem_append_right _ (List.mem_append_left _ (List.mem_of_getElem? (i := 180) rfl)))) (htsG _ w_58) ht hold
  obtain ⟨scr, x1, x2, x3, x4, x5⟩ := hX
  obtain ⟨cell, t1, t2, t3, t4, t5, t6, t7⟩ := hT
  have htl : tT < s.heap.size := Nat.not_le.mp t7
  have hbt : b = tT → L = 10 ∧ ∀ j, j < 10 → xs j = tensF j := by
    intro h
    subst h
    cases x1.symm.trans t1
    have hL10 : L = 10 := by
      rw [x4] at t5
      have h1 : Int32.ofNat L = Int32.ofNat 10 := t5
      exact (nI_eq (a := L) (b := 10) (by omega) (by decide)).mp h1
    subst hL10
    refine ⟨rfl, fun j hj => ?_⟩
    have h2 := (x5 j hj).symm.trans (t6 j hj)
    simpa using h2
  let ro : Nat → Option (Nat × (Nat → Int32)) := fun q => if q = b then some (L, xs) else if q = tT then some (10, tensF) else none
  let G : Gm := ((dC, dI), (fun ty => if ty = .int then cI else if ty = .byte then cB else cD), s.heap, tT, ro)
  have hKK : KK G s := by
    refine ⟨⟨hKc, fun k q h => by simp at h⟩, ?_, hZ, ?_, fun w hw => va_Nw.of (NW_tab w hw) (hts w (NW_in w hw)), hAO⟩
    · intro ty hty
      rcases hty with rfl | rfl | rfl
      · exact ⟨fun n z => ⟨fun k h => (by cases h), kI, i2, mI, i3⟩, i1⟩
      · exact ⟨fun n z => ⟨fun k h => (by cases h), kB, b2, mB, b3⟩, b1⟩
      · exact ⟨fun n z => ⟨fun k h => (by cases h), kD, e3, mD, e4⟩, kD, mD, e3, e4, e1, e5⟩
    · intro q y hy
      have hy' : (if q = b then some (L, xs) else if q = tT then some (10, tensF) else none) = some y := hy
      by_cases hqb : q = b
      · rw [if_pos hqb] at hy'
        cases hy'
        subst hqb
        exact ⟨scr, x1, x2, x3, Nat.le_of_eq x4.symm, by rw [x4], x5, Nat.not_le.mpr hbl⟩
      · rw [if_neg hqb] at hy'
        by_cases hqt : q = tT
        · rw [if_pos hqt] at hy'
          cases hy'
          subst hqt
          exact ⟨cell, t1, t2, t3, t4, t5, t6, t7⟩
        · rw [if_neg hqt] at hy'; cases hy'
  obtain ⟨σ', k, sl, hf, hk, hs⟩ := hLP s.heap.size tT b L xs tensF hL hbl htl (fun _ _ => rfl) hbt
  have hP : Pic G (iSt s.heap.size tT b L xs tensF) s.heap := by
    refine ⟨rfl, Nat.le_refl _, fun _ _ => rfl, rfl, fun q y hy => ?_⟩
    have hy' : (if q = b then some (.inr (.inr (L, xs))) else if q = tT then some (.inr (.inr (10, tensF))) else none : Option Cel) = some y := hy
    by_cases hqb : q = b
    · rw [if_pos hqb] at hy'
      cases hy'
      refine ⟨?_, fun h => h.elim⟩
      show ro q = some (L, xs)
      simp only [ro, if_pos hqb]
    · rw [if_neg hqb] at hy'
      by_cases hqt : q = tT
      · rw [if_pos hqt] at hy'
        cases hy'
        refine ⟨?_, fun h => h.elim⟩
        show ro q = some (10, tensF)
        simp only [ro, if_neg hqb, if_pos hqt]
      · rw [if_neg hqt] at hy'; cases hy'
  have hAo : ∀ q, Aof (iSt s.heap.size tT b L xs tensF) q → s.heap.size ≤ q := by
    intro q h
    rcases h with ⟨y, hy, hw⟩ | h
    · have hy' : (if q = b then some (.inr (.inr (L, xs))) else if q = tT then some (.inr (.inr (10, tensF))) else none : Option Cel) = some y := hy
      by_cases hqb : q = b
      · rw [if_pos hqb] at hy'; cases hy'; exact hw.elim
      · rw [if_neg hqb] at hy'
        by_cases hqt : q = tT
        · rw [if_pos hqt] at hy'; cases hy'; exact hw.elim
        · rw [if_neg hqt] at hy'; cases hy'
    · exact h
  have hl := lv_entry ([.ref b]) (n := 4) (Nat.le_of_ble_eq_true rfl)
  rw [lg_entry_eq]
  exact law_walk (K := (G, p, l, e, room_1, s, m, #[Value.ref b], below, meth, c, 4, (fun q => s.heap.size ≤ q), lw_Z below #[Value.ref b] s, k, sl)) (k0 := 600000) (s0 := 7302250) ⟨hx, hb, hml, hown, htsG, hKK, hk, hs, fun q h => h⟩ rfl rfl hf ⟨rfl, rfl, rfl, rfl, hr, hlocks, ⟨b, rfl⟩, hk, hs⟩ s.heap [] _ 0 0 hP va_S.rf hAo hl (Nat.zero_add _) (Nat.zero_add _)
