abbrev AA (c : Nat) (f : Nat → Int32) : Cel := .inl (.int, c, .inl f)
abbrev OO (L n : Nat) : Cel := .inr (.inl (2, [.ref L, .int (nI n)]))
theorem stH_stH {σ : St} {a : Nat} {e e' : Cel} : stH (stH σ a e) a e' = stH σ a e' := by
  unfold stH
  rw [bx_uu]
theorem stH_self {σ : St} {a : Nat} {e : Cel} (h : σ.1 a = some e) : stH σ a e = σ := by
  obtain ⟨h0, n0, t0⟩ := σ
  unfold stH
  congr 1
  funext q
  by_cases hq : q = a
  · subst hq; simp [va_up]; exact h.symm
  · simp [va_up, hq]
theorem ne_AO {σ : St} {a L c n L' : Nat} {f : Nat → Int32} (h1 : σ.1 L = some (AA c f)) (h2 : σ.1 a = some (OO L' n)) : L ≠ a := fun e => by
  subst e
  rw [h1] at h2
  cases h2
theorem ne_OA {σ : St} {a L c n L' : Nat} {f : Nat → Int32} (h1 : σ.1 L = some (AA c f)) (h2 : σ.1 a = some (OO L' n)) : a ≠ L := (ne_AO h1 h2).symm
/-- nothing is at the addresses that are not yet given out -/
def Dm (σ : St) : Prop := ∀ q, σ.2.1 ≤ q → σ.1 q = none
/-- from σ to σ' only cells in S have changed; new ones may have come -/
def Fr (S : Nat → Prop) (σ σ' : St) : Prop := (∀ q, q < σ.2.1 → ¬ S q → σ'.1 q = σ.1 q) ∧ σ.2.1 ≤ σ'.2.1 ∧ σ'.2.2 = σ.2.2 ∧ (Dm σ → Dm σ')
theorem Fr.rf {S : Nat → Prop} {σ : St} : Fr S σ σ := ⟨fun _ _ _ => rfl, Nat.le_refl _, rfl, id⟩
theorem Fr.trans {S S1 : Nat → Prop} {σ σ1 σ2 : St} (h1 : Fr S σ σ1) (h2 : Fr S1 σ1 σ2) (hS : ∀ q, q < σ.2.1 → S1 q → S q) : Fr S σ σ2 :=
  ⟨fun q a b => (h2.1 q (Nat.lt_of_lt_of_le a h1.2.1) (fun z => b (hS q a z))).trans (h1.1 q a b), Nat.le_trans h1.2.1 h2.2.1, h2.2.2.1.trans h1.2.2.1, fun d => h2.2.2.2 (h1.2.2.2 d)⟩
theorem Fr.mono {S S1 : Nat → Prop} {σ σ1 : St} (h1 : Fr S σ σ1) (hS : ∀ q, q < σ.2.1 → S q → S1 q) : Fr S1 σ σ1 := ⟨fun q a b => h1.1 q a (fun z => b (hS q a z)), h1.2⟩
theorem Dm.lt {σ : St} (h : Dm σ) {q : Nat} {e : Cel} (hq : σ.1 q = some e) : q < σ.2.1 := Nat.not_le.mp fun z => by rw [h q z] at hq; cases hq
theorem Fr.st {S : Nat → Prop} {σ : St} {a : Nat} {e0 e : Cel} (h : σ.1 a = some e0) (ha : S a) : Fr S σ (stH σ a e) := by
  refine ⟨fun q _ b => stH_n (fun z => b (z ▸ ha)), Nat.le_refl _, rfl, fun d q hq => ?_⟩
  have hlt := d.lt h
  rw [stH_n (by show q ≠ a; have : σ.2.1 ≤ q := hq; omega)]
  exact d q hq
theorem Fr.nw {S : Nat → Prop} {σ : St} {e : Cel} : Fr S σ (nwH σ e) := by
  refine ⟨fun q a _ => nwH_n (Nat.ne_of_lt a), Nat.le_succ _, rfl, fun d q hq => ?_⟩
  have hq' : σ.2.1 + 1 ≤ q := hq
  rw [nwH_n (by omega)]
  exact d q (by omega)
theorem Fr.at {S : Nat → Prop} {σ σ1 : St} (h : Fr S σ σ1) {q : Nat} {e : Cel} (hD : Dm σ) (hq : σ.1 q = some e) (hS : ¬ S q) : σ1.1 q = some e := by rw [h.1 q (hD.lt hq) hS]; exact hq
theorem j_max {σ : St} {a b : Nat} {x y : Int32} (hx : x = nI a) (hy : y = nI b) (ha : a < 2 ^ 31) (hb : b < 2 ^ 31) : f_J9_max_7cf53 σ x y = some (nI (max a b)) := by
  subst hx hy
  unfold f_J9_max_7cf53
  by_cases h : a < b
  · rw [if_pos ((nI_ltI ha hb).mpr h), Nat.max_eq_right (by omega)]
  · rw [if_neg (fun z => h ((nI_ltI ha hb).mp z)), Nat.max_eq_left (by omega)]
theorem j_min {σ : St} {a b : Nat} {x y : Int32} (hx : x = nI a) (hy : y = nI b) (ha : a < 2 ^ 31) (hb : b < 2 ^ 31) : f_J9_min_7cf53 σ x y = some (nI (min a b)) := by
  subst hx hy
  unfold f_J9_min_7cf53
  by_cases h : b < a
  · rw [if_pos ((nI_ltI hb ha).mpr h), Nat.min_eq_right (by omega)]
  · rw [if_neg (fun z => h ((nI_ltI hb ha).mp z)), Nat.min_eq_left (by omega)]
/-- Arrays.copyOf of ints, to a greater length -/
theorem t_copyOf {σ : St} {L c m : Nat} {f : Nat → Int32} {x : Int32} (hD : Dm σ) (hL : σ.1 L = some (AA c f)) (hx : x = nI m) (hc : c < m) (hm : m ≤ 1000000) : f_J7_copyOf_59c91 σ L x = some (σ.2.1, stH (nwH σ (arI x)) σ.2.1 (AA m (va_cpy f (fun _ => 0) 0 0 c)), 1, m) := by
  subst hx
  unfold f_J7_copyOf_59c91
  have hne : L ≠ σ.2.1 := Nat.ne_of_lt (hD.lt hL)
  have hL1 : (nwH σ (arI (nI m))).1 L = some (AA c f) := (nwH_n hne).trans hL
  have ha : arI (nI m) = AA m (fun _ => 0) := by unfold arI; rw [nI_clamp (by omega)]
  have hN : (nwH σ (arI (nI m))).1 σ.2.1 = some (AA m (fun _ => 0)) := by rw [nwH_s, ha]
  refine q_b1 (aLn_eq hL) ?_
  refine q_f (fun z => by have := (nI_eq (by omega) (by omega)).mp z; omega) ?_
  refine q_b1 (lenOk_eq rfl hm) ?_
  have h := q_nw (σ := σ) (e := arI (nI m)) (n := (nI m).toNatClampNeg) (f := fun r2 σ3 => (aLn σ3 L).bind fun x4 => (f_J9_min_7cf53 σ3 x4 (nI m)).bind fun x5 => (cpy σ3 L 0 r2 0 x5).bind fun σ6 => some (r2, σ6, 0, 0)) (r := σ.2.1) (σ2 := stH (nwH σ (arI (nI m))) σ.2.1 (AA m (va_cpy f (fun _ => 0) 0 0 c))) (k' := 0) (s' := 0) (by
    refine q_b1 (aLn_eq hL1) ?_
    refine q_b1 (j_min rfl rfl (by omega) (by omega)) ?_
    rw [Nat.min_eq_left (by omega)]
    refine q_b1 (cpy_eq hL1 hN (sp := 0) (dp := 0) rfl rfl rfl (by omega) (by omega) (by omega) (by omega)) ?_
    rfl)
  rw [nI_clamp (by omega)] at h ⊢
  exact h
/-- room for m limbs -/
theorem t_makeRoom {σ : St} {a L c m n : Nat} {f : Nat → Int32} {x : Int32} (hD : Dm σ) (ha : σ.1 a = some (OO L n)) (hL : σ.1 L = some (AA c f)) (hx : x = nI m) (hc : c ≤ 10000) (hm : m ≤ 10000) :
    Ye (f_X2_makeRoom σ a x) (fun _ σ' k s => ∃ L' c' f', σ'.1 a = some (OO L' n) ∧ σ'.1 L' = some (AA c' f') ∧ m ≤ c' ∧ c ≤ c' ∧ c' ≤ max c (2 * m) ∧ (∀ j, j < c → f' j = f j) ∧ (L' = L ∨ σ.2.1 ≤ L') ∧ Fr (fun q => q = a) σ σ' ∧ k ≤ s ∧ s + 2 * c ≤ 2 * c' ∧ (c < m → 2 * c ≤ c')) := by
  subst hx
  unfold f_X2_makeRoom
  refine e_ob ha ?_
  refine e_b1 (gR_eq ha rfl) ?_
  refine e_b1 (aLn_eq hL) ?_
  refine e_if (fun h => ?_) (fun h => ?_)
  · have hle : m ≤ c := (nI_leI (by omega) (by omega)).mp h
    exact e_ret ⟨L, c, f, ha, hL, hle, Nat.le_refl _, Nat.le_max_left _ _, fun _ _ => rfl, Or.inl rfl, Fr.rf, Nat.le_refl _, by omega, fun z => by omega⟩
  · have hlt : c < m := Nat.not_le.mp fun z => h ((nI_leI (by omega) (by omega)).mpr z)
    refine e_b1 (gR_eq ha rfl) ?_
    refine e_b1 (gR_eq ha rfl) ?_
    refine e_b1 (aLn_eq hL) ?_
    refine e_b1 (j_max rfl (b := 2 * c) (by rw [show (2 : Int32) = nI 2 from rfl, pk_mul]) (by omega) (by omega)) ?_
    have hmx : c < max m (2 * c) := Nat.lt_of_lt_of_le hlt (Nat.le_max_left _ _)
    have hmb : max m (2 * c) ≤ 20000 := Nat.max_le.mpr ⟨by omega, by omega⟩
    have hcp := t_copyOf (x := nI (max m (2 * c))) hD hL rfl hmx (by omega)
    refine e_bd (Q := fun r σ1 k s => r = σ.2.1 ∧ σ1 = stH (nwH σ (arI (nI (max m (2 * c))))) σ.2.1 (AA (max m (2 * c)) (va_cpy f (fun _ => 0) 0 0 c)) ∧ k = 1 ∧ s = max m (2 * c)) ⟨_, _, _, _, hcp, rfl, rfl, rfl, rfl⟩ ?_
    rintro r σ1 kc sc ⟨rfl, rfl, rfl, rfl⟩
    have hna : a ≠ σ.2.1 := Nat.ne_of_lt (hD.lt ha)
    have ha1 : (stH (nwH σ (arI (nI (max m (2 * c))))) σ.2.1 (AA (max m (2 * c)) (va_cpy f (fun _ => 0) 0 0 c))).1 a = some (OO L n) := by rw [stH_n hna, nwH_n hna]; exact ha
    refine e_b1 (pF_eq ha1 (Nat.le_of_ble_eq_true rfl)) ?_
    refine e_ret ⟨σ.2.1, max m (2 * c), va_cpy f (fun _ => 0) 0 0 c, stH_s, ?_, Nat.le_max_left _ _, by omega, ?_, ?_, Or.inr (Nat.le_refl _), ?_, by omega, by have := Nat.le_max_right m (2 * c); omega, fun _ => Nat.le_max_right _ _⟩
    · rw [stH_n hna.symm, stH_s]
    · have := Nat.le_max_right c (2 * m)
      have h3 : max m (2 * c) ≤ 2 * m := Nat.max_le.mpr ⟨by omega, by omega⟩
      omega
    · intro j hj
      rw [pk_cpy_in (Nat.zero_le _) (by omega)]
      congr 1
      omega
    · have f1 : Fr (fun q => q = a) σ (nwH σ (arI (nI (max m (2 * c))))) := Fr.nw
      have f2 : Fr (fun q => q = σ.2.1) (nwH σ (arI (nI (max m (2 * c))))) (stH (nwH σ (arI (nI (max m (2 * c))))) σ.2.1 (AA (max m (2 * c)) (va_cpy f (fun _ => 0) 0 0 c))) := Fr.st nwH_s rfl
      have f3 : Fr (fun q => q = a) _ (stH (stH (nwH σ (arI (nI (max m (2 * c))))) σ.2.1 (AA (max m (2 * c)) (va_cpy f (fun _ => 0) 0 0 c))) a (.inr (.inl (2, [Value.ref L, .int (nI n)].set 0 (.ref σ.2.1))))) := Fr.st ha1 rfl
      exact (f1.trans f2 (fun q h z => absurd z (Nat.ne_of_lt h))).trans f3 (fun q _ z => z)
theorem t_trim_loop {a L c : Nat} {f : Nat → Int32} (hc : c < 2 ^ 31) : ∀ (k n : Nat) (σ : St), n < k → n ≤ c → σ.1 a = some (OO L n) → σ.1 L = some (AA c f) → ∃ n', n' ≤ n ∧ f_X2_trim_L0 k σ a = some ((), stH σ a (OO L n'), 0, 0) ∧ (∀ j, n' ≤ j → j < n → f j = 0) ∧ (0 < n' → f (n' - 1) ≠ 0) := by
  intro k
  induction k with
  | zero => intro n σ h; omega
  | succ k ih =>
    intro n σ hk hn ha hL
    show ∃ n', n' ≤ n ∧ b_X2_trim_L0 (f_X2_trim_L0 k) σ a = _ ∧ _
    unfold b_X2_trim_L0
    rw [gI_eq ha rfl]
    show ∃ n', n' ≤ n ∧ (if nI n ≤ 0 then _ else _) = _ ∧ _
    by_cases h0 : n = 0
    · subst h0
      rw [if_pos (show nI 0 ≤ 0 by decide)]
      exact ⟨0, Nat.le_refl _, by rw [stH_self ha], fun j _ h => by omega, fun h => by omega⟩
    · rw [if_neg (nI_nle (by omega) (by omega)), gR_eq ha rfl]
      have e1 : nI n - 1 = nI (n - 1) := by
        obtain ⟨m, rfl⟩ : ∃ m, n = m + 1 := ⟨n - 1, by omega⟩
        rw [nI_pred]; rfl
      show ∃ n', n' ≤ n ∧ (ldI σ L (nI n - 1)).bind _ = _ ∧ _
      rw [ldI_eq hL e1 (by omega) hc]
      show ∃ n', n' ≤ n ∧ (if f (n - 1) = 0 then _ else _) = _ ∧ _
      by_cases h1 : f (n - 1) = 0
      · rw [if_pos h1]
        show ∃ n', n' ≤ n ∧ (pF σ 2 a 1 (.int (nI n - 1))).bind _ = _ ∧ _
        rw [e1, pF_eq ha (Nat.le_of_ble_eq_true rfl)]
        obtain ⟨n', g1, g2, g3, g4⟩ := ih (n - 1) (stH σ a (OO L (n - 1))) (by omega) (by omega) stH_s (by rw [stH_n (ne_AO hL ha)]; exact hL)
        refine ⟨n', by omega, ?_, fun j hj hj2 => ?_, g4⟩
        · rw [stH_stH] at g2
          exact g2
        · by_cases hj3 : j = n - 1
          · rw [hj3]; exact h1
          · exact g3 j hj (by omega)
      · rw [if_neg h1]
        exact ⟨n, Nat.le_refl _, by rw [stH_self ha], fun j _ h => by omega, fun _ => h1⟩
theorem t_trim {σ : St} {a L c n : Nat} {f : Nat → Int32} (ha : σ.1 a = some (OO L n)) (hL : σ.1 L = some (AA c f)) (hn : n ≤ c) (hc : c ≤ 1000000) : ∃ n', n' ≤ n ∧ f_X2_trim σ a = some ((), stH σ a (OO L n'), 0, 0) ∧ (∀ j, n' ≤ j → j < n → f j = 0) ∧ (0 < n' → f (n' - 1) ≠ 0) := by
  have hF := FU_ge
  obtain ⟨n', h1, h2, h3, h4⟩ := t_trim_loop (a := a) (L := L) (c := c) (f := f) (by omega) FU n σ (by omega) hn ha hL
  refine ⟨n', h1, ?_, h3, h4⟩
  unfold f_X2_trim ob
  rw [ha]
  show (if (2 : Nat) = 2 then bd (f_X2_trim_L0 FU σ a) _ else none) = _
  rw [if_pos rfl, h2]
  rfl
def zeroTo (f : Nat → Int32) (n : Nat) : Nat → Int32 := fun j => if j < n then 0 else f j
theorem t_empty_loop {a L c m n : Nat} {f : Nat → Int32} (hc : c < 2 ^ 31) (hm : m ≤ c) (σ0 : St) (ha : σ0.1 a = some (OO L n)) (hL : σ0.1 L = some (AA c f)) : ∀ (k i : Nat), m - i < k → i ≤ m → f_X2_emptyLimbs_L2 k (stH σ0 L (AA c (zeroTo f i))) a (nI m) (nI i) = some ((), stH σ0 L (AA c (zeroTo f m)), 0, 0) := by
  intro k
  induction k with
  | zero => intro i h; omega
  | succ k ih =>
    intro i hk hi
    show b_X2_emptyLimbs_L2 (f_X2_emptyLimbs_L2 k) _ a (nI m) (nI i) = _
    unfold b_X2_emptyLimbs_L2
    have ha1 : (stH σ0 L (AA c (zeroTo f i))).1 a = some (OO L n) := by rw [stH_n (ne_OA hL ha)]; exact ha
    by_cases h : i = m
    · subst h
      rw [if_pos (nI_le (Nat.le_refl _) (by omega))]
    · rw [if_neg (nI_ge (by omega) (by omega)), gR_eq ha1 rfl]
      show (aLn _ L).bind _ = _
      rw [aLn_eq stH_s]
      show (if nI c ≤ nI i then _ else _) = _
      refine q_f (nI_ge (by omega) (by omega)) ?_
      refine q_b1 rfl ?_
      refine q_b1 (stI_eq (i := i) stH_s rfl (by omega) hc) ?_
      show f_X2_emptyLimbs_L2 k (stH (stH σ0 L _) L _) a (nI m) (nI i + 1) = _
      rw [stH_stH, nI_1]
      have e : upd (zeroTo f i) i 0 = zeroTo f (i + 1) := by
        funext j
        unfold zeroTo upd
        by_cases h1 : j = i
        · subst h1; rw [if_pos rfl, if_pos (by omega)]
        · rw [if_neg h1]
          show (if j < i then 0 else f j) = _
          by_cases h2 : j < i
          · rw [if_pos h2, if_pos (by omega)]
          · rw [if_neg h2, if_neg (by omega)]
      rw [e]
      exact ih (i + 1) (by omega) (by omega)
theorem t_empty {σ : St} {a L c m n : Nat} {f : Nat → Int32} {x : Int32} (ha : σ.1 a = some (OO L n)) (hL : σ.1 L = some (AA c f)) (hx : x = nI m) (hm : m ≤ c) (hc : c ≤ 1000000) : f_X2_emptyLimbs σ a x = some ((), stH σ L (AA c (zeroTo f m)), 0, 0) := by
  subst hx
  have hF := FU_ge
  have h := t_empty_loop (c := c) (m := m) (n := n) (f := f) (by omega) hm σ ha hL FU 0 (by omega) (by omega)
  have e : zeroTo f 0 = f := by funext j; unfold zeroTo; rw [if_neg (by omega)]
  rw [e, stH_self hL] at h
  unfold f_X2_emptyLimbs ob
  rw [ha]
  show (if (2 : Nat) = 2 then bd (f_X2_emptyLimbs_L2 FU σ a (nI m) 0) _ else none) = _
  rw [if_pos rfl, show (0 : Int32) = nI 0 from rfl, h]
  rfl
