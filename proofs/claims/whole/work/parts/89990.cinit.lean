/-! ===== new cells, one behind another ===== -/
def adL (σ : St) (es : List Cel) : St := (fun q => if σ.2.1 ≤ q ∧ q < σ.2.1 + es.length then es[q - σ.2.1]? else σ.1 q, σ.2.1 + es.length, σ.2.2)
section AD
variable {σ : St} {es : List Cel} {e : Cel} {i : Nat}
theorem ad_at (h : es[i]? = some e) : (adL σ es).1 (σ.2.1 + i) = some e := by
  have hi : i < es.length := (List.getElem?_eq_some_iff.mp h).1
  show (if σ.2.1 ≤ σ.2.1 + i ∧ σ.2.1 + i < σ.2.1 + es.length then es[σ.2.1 + i - σ.2.1]? else σ.1 (σ.2.1 + i)) = _
  rw [if_pos (by omega), Nat.add_sub_cancel_left]
  exact h
theorem ad_old {q : Nat} (h : q < σ.2.1) : (adL σ es).1 q = σ.1 q := by
  show (if σ.2.1 ≤ q ∧ q < σ.2.1 + es.length then es[q - σ.2.1]? else σ.1 q) = _
  rw [if_neg (by omega)]
theorem ad_nil : adL σ [] = σ := by
  unfold adL
  obtain ⟨f, n, t⟩ := σ
  congr 1
  funext q
  show (if n ≤ q ∧ q < n + 0 then _ else f q) = f q
  rw [if_neg (by omega)]
theorem ad_nw : nwH (adL σ es) e = adL σ (es ++ [e]) := by
  unfold nwH adL
  refine Prod.ext ?_ (Prod.ext ?_ rfl)
  · funext q
    show va_up _ (σ.2.1 + es.length) (some e) q = (if σ.2.1 ≤ q ∧ q < σ.2.1 + (es ++ [e]).length then (es ++ [e])[q - σ.2.1]? else σ.1 q)
    have hl : (es ++ [e]).length = es.length + 1 := by rw [List.length_append]; rfl
    rw [hl]
    unfold va_up
    by_cases h : q = σ.2.1 + es.length
    · rw [if_pos h, if_pos (by omega), h, Nat.add_sub_cancel_left, List.getElem?_append_right (Nat.le_refl _), Nat.sub_self]; rfl
    · rw [if_neg h]
      dsimp only
      by_cases h2 : σ.2.1 ≤ q ∧ q < σ.2.1 + es.length
      · rw [if_pos h2, if_pos (by omega), List.getElem?_append_left (by omega)]
      · rw [if_neg h2, if_neg (by omega)]
  · show σ.2.1 + es.length + 1 = σ.2.1 + (es ++ [e]).length
    rw [List.length_append]; rfl
theorem ad_st (h : i < es.length) : stH (adL σ es) (σ.2.1 + i) e = adL σ (es.set i e) := by
  unfold stH adL
  refine Prod.ext ?_ (Prod.ext ?_ rfl)
  · funext q
    show va_up _ (σ.2.1 + i) (some e) q = (if σ.2.1 ≤ q ∧ q < σ.2.1 + (es.set i e).length then (es.set i e)[q - σ.2.1]? else σ.1 q)
    rw [List.length_set]
    unfold va_up
    by_cases hq : q = σ.2.1 + i
    · rw [if_pos hq, if_pos (by omega), hq, Nat.add_sub_cancel_left, List.getElem?_set_self h]
    · rw [if_neg hq]
      dsimp only
      by_cases h2 : σ.2.1 ≤ q ∧ q < σ.2.1 + es.length
      · rw [if_pos h2, if_pos h2, List.getElem?_set_ne (by omega)]
      · rw [if_neg h2, if_neg h2]
  · show σ.2.1 + es.length = σ.2.1 + (es.set i e).length
    rw [List.length_set]
theorem ad_pF {ci k : Nat} {fs : List Value} {v : Value} (h : es[i]? = some (.inr (.inl (ci, fs)))) (hk : k < fs.length) : pF (adL σ es) ci (σ.2.1 + i) k v = some (adL σ (es.set i (.inr (.inl (ci, fs.set k v))))) := by
  rw [pF_eq (ad_at h) hk, ad_st (List.getElem?_eq_some_iff.mp h).1]
theorem ad_dm (h : Dm σ) : Dm (adL σ es) := by
  intro q hq
  have hq' : σ.2.1 + es.length ≤ q := hq
  show (if σ.2.1 ≤ q ∧ q < σ.2.1 + es.length then es[q - σ.2.1]? else σ.1 q) = none
  rw [if_neg (by omega)]
  exact h q (by omega)
theorem ad_n : (adL σ es).2.1 = σ.2.1 + es.length := rfl
/-- a new cell, then the rest -/
theorem e_na {ρ : Type} {P : ρ → St → Nat → Nat → Prop} {n m : Nat} {f : Nat → St → Rs ρ} (hm : es.length = m) (k : Ye (f (σ.2.1 + m) (adL σ (es ++ [e]))) (fun r σ2 k' s' => P r σ2 (1 + k') (n + s'))) : Ye (nw (adL σ es) e n f) P := by
  refine e_nw ?_
  rw [ad_nw, ad_n, hm]
  exact k
end AD
section IN
variable {σ : St} {es : List Cel}
/-- a new Natural: object at m, row behind it -/
theorem t_nin {m : Nat} (hm : es.length = m) : f_X2_init (adL σ (es ++ [.inr (.inl (2, [.null, .int 0]))])) (σ.2.1 + m) = some ((), adL σ (es ++ [OO (σ.2.1 + (m + 1)) 0, AA 4 (fun _ => 0)]), 1, 4) := by
  unfold f_X2_init
  refine q_b1 (lenOk_eq (n := 4) rfl (by decide)) ?_
  have h := q_nw (σ := adL σ (es ++ [.inr (.inl (2, [.null, .int 0]))])) (e := arI 4) (n := (4 : Int32).toNatClampNeg) (f := fun r1 σ2 => (pF σ2 2 (σ.2.1 + m) 0 (.ref r1)).bind fun σ3 => some ((), σ3, 0, 0)) (r := ()) (σ2 := adL σ (es ++ [OO (σ.2.1 + (m + 1)) 0, AA 4 (fun _ => 0)])) (k' := 0) (s' := 0) (by
    rw [ad_nw, ad_n]
    have hl : (es ++ [(.inr (.inl (2, [.null, .int 0])) : Cel)]).length = m + 1 := by rw [List.length_append, hm]; rfl
    rw [hl]
    refine q_b1 (ad_pF (i := m) (fs := [.null, .int 0]) ?_ (by decide)) ?_
    · rw [List.append_assoc, List.getElem?_append_right (by omega), hm, Nat.sub_self]; rfl
    · congr 3
      rw [List.append_assoc, List.set_append_right _ _ (by omega), hm, Nat.sub_self]
      rfl)
  exact h
/-- a new Text -/
theorem t_tin {m : Nat} (hm : es.length = m) : f_X4_init (adL σ (es ++ [.inr (.inl (4, [.null, .int 0]))])) (σ.2.1 + m) = some ((), adL σ (es ++ [TO (σ.2.1 + (m + 1)) 0, BA 16 (fun _ => 0)]), 1, 16) := by
  unfold f_X4_init
  refine q_b1 (lenOk_eq (n := 16) rfl (by decide)) ?_
  have h := q_nw (σ := adL σ (es ++ [.inr (.inl (4, [.null, .int 0]))])) (e := arB 16) (n := (16 : Int32).toNatClampNeg) (f := fun r1 σ2 => (pF σ2 4 (σ.2.1 + m) 0 (.ref r1)).bind fun σ3 => some ((), σ3, 0, 0)) (r := ()) (σ2 := adL σ (es ++ [TO (σ.2.1 + (m + 1)) 0, BA 16 (fun _ => 0)])) (k' := 0) (s' := 0) (by
    rw [ad_nw, ad_n]
    have hl : (es ++ [(.inr (.inl (4, [.null, .int 0])) : Cel)]).length = m + 1 := by rw [List.length_append, hm]; rfl
    rw [hl]
    refine q_b1 (ad_pF (i := m) (fs := [.null, .int 0]) ?_ (by decide)) ?_
    · rw [List.append_assoc, List.getElem?_append_right (by omega), hm, Nat.sub_self]; rfl
    · congr 3
      rw [List.append_assoc, List.set_append_right _ _ (by omega), hm, Nat.sub_self]
      rfl)
  exact h
/-- the cells of the eight registers -/
def rgs (n : Nat) : Nat → List Cel
  | 0 => []
  | i + 1 => rgs n i ++ [DO (n + (15 + 3 * i)) false 0, OO (n + (16 + 3 * i)) 0, AA 4 (fun _ => 0)]
theorem rgs_len {n : Nat} : ∀ i : Nat, (rgs n i).length = 3 * i
  | 0 => rfl
  | i + 1 => by unfold rgs; rw [List.length_append, rgs_len i]; show 3 * i + 3 = _; omega
theorem rgs_at {n k : Nat} : ∀ i : Nat, k < i → (rgs n i)[3 * k]? = some (DO (n + (15 + 3 * k)) false 0) ∧ (rgs n i)[3 * k + 1]? = some (OO (n + (16 + 3 * k)) 0) ∧ (rgs n i)[3 * k + 2]? = some (AA 4 (fun _ => 0))
  | 0, h => by omega
  | i + 1, h => by
    unfold rgs
    have hl := rgs_len (n := n) i
    by_cases e : k = i
    · subst e
      rw [List.getElem?_append_right (by omega), List.getElem?_append_right (by omega), List.getElem?_append_right (by omega), hl, show 3 * k - 3 * k = 0 by omega, show 3 * k + 1 - 3 * k = 1 by omega, show 3 * k + 2 - 3 * k = 2 by omega]
      exact ⟨rfl, rfl, rfl⟩
    · rw [List.getElem?_append_left (by omega), List.getElem?_append_left (by omega), List.getElem?_append_left (by omega)]
      exact rgs_at i (by omega)
/-- the first fourteen cells of the object -/
def b14 (n : Nat) (f : Nat → Option Nat) : List Cel := [T5 n, RA f, OO (n + 3) 0, AA 4 (fun _ => 0), OO (n + 5) 0, AA 4 (fun _ => 0), OO (n + 7) 0, AA 4 (fun _ => 0), TO (n + 9) 0, BA 16 (fun _ => 0), TO (n + 11) 0, BA 16 (fun _ => 0), NO 0 0 0 0 0, LO 0 0 0 0 0 0]
theorem t_in_loop : ∀ (f i : Nat) (g : Nat → Option Nat), 8 - i < f → i ≤ 8 → (∀ j, j < i → g j = some (dA σ.2.1 j)) → Ye (f_X5_init_L92 f (adL σ (b14 σ.2.1 g ++ rgs σ.2.1 i)) σ.2.1 (nI i)) (fun _ σ' k s => ∃ g', σ' = adL σ (b14 σ.2.1 g' ++ rgs σ.2.1 8) ∧ (∀ j, j < 8 → g' j = some (dA σ.2.1 j)) ∧ k ≤ 3 * (8 - i) ∧ s ≤ 9 * (8 - i)) := by
  intro f
  induction f with
  | zero => intro i g h; omega
  | succ f ih =>
    intro i g hf hi hg
    show Ye (b_X5_init_L92 (f_X5_init_L92 f) _ _ _) _
    unfold b_X5_init_L92
    obtain ⟨n, hn⟩ : ∃ n, σ.2.1 = n := ⟨_, rfl⟩
    have h0 : (adL σ (b14 σ.2.1 g ++ rgs σ.2.1 i)).1 σ.2.1 = some (T5 σ.2.1) := ad_at (σ := σ) (i := 0) rfl
    have h1 : (adL σ (b14 σ.2.1 g ++ rgs σ.2.1 i)).1 (σ.2.1 + 1) = some (RA g) := ad_at (σ := σ) (i := 1) rfl
    refine e_b1 (gR_eq h0 rfl) (e_b1 (aLn_eq h1) ?_)
    by_cases he : i = 8
    · subst he
      refine e_t (by decide) (e_ret ⟨g, rfl, hg, by omega, by omega⟩)
    · refine e_f (nI_ge (b := 8) (by omega) (by decide)) (e_b1 (gR_eq h0 rfl) ?_)
      have hl : (b14 σ.2.1 g ++ rgs σ.2.1 i).length = 14 + 3 * i := by rw [List.length_append, rgs_len]; rfl
      refine e_na (m := 14 + 3 * i) hl ?_
      have i0 : Ye (f_X0_init (adL σ (b14 σ.2.1 g ++ rgs σ.2.1 i ++ [.inr (.inl (0, [.null, .int 0, .int 0]))])) (σ.2.1 + (14 + 3 * i))) (fun _ σ' k s => σ' = adL σ (b14 σ.2.1 g ++ rgs σ.2.1 (i + 1)) ∧ k ≤ 2 ∧ s ≤ 6) := by
        unfold f_X0_init
        have hl2 : (b14 σ.2.1 g ++ rgs σ.2.1 i ++ [(.inr (.inl (0, [.null, .int 0, .int 0])) : Cel)]).length = 15 + 3 * i := by rw [List.length_append, hl]; show 14 + 3 * i + 1 = _; omega
        refine e_na (m := 15 + 3 * i) hl2 ?_
        refine e_bd1 (t_nin hl2) ?_
        have hat : (b14 σ.2.1 g ++ rgs σ.2.1 i ++ [(.inr (.inl (0, [.null, .int 0, .int 0])) : Cel)] ++ [OO (σ.2.1 + (15 + 3 * i + 1)) 0, AA 4 (fun _ => 0)])[14 + 3 * i]? = some (.inr (.inl (0, [.null, .int 0, .int 0]))) := by
          rw [List.append_assoc, List.getElem?_append_right (by omega), hl, Nat.sub_self]; rfl
        refine e_b1 (ad_pF hat (by decide)) (e_ret ⟨?_, by omega, by omega⟩)
        congr 1
        rw [List.append_assoc, List.set_append_right _ _ (by omega), hl, Nat.sub_self]
        show b14 σ.2.1 g ++ rgs σ.2.1 i ++ [DO (σ.2.1 + (15 + 3 * i)) false 0, OO (σ.2.1 + (15 + 3 * i + 1)) 0, AA 4 (fun _ => 0)] = _
        rw [List.append_assoc, show 15 + 3 * i + 1 = 16 + 3 * i by omega]
        rfl
      refine e_bd i0 ?_
      rintro u σ1 kc sc ⟨rfl, k1, s1⟩
      have hl3 : (b14 σ.2.1 g ++ rgs σ.2.1 (i + 1)).length = 14 + 3 * (i + 1) := by rw [List.length_append, rgs_len]; rfl
      have d1 : (adL σ (b14 σ.2.1 g ++ rgs σ.2.1 (i + 1))).1 (σ.2.1 + (14 + 3 * i)) = some (DO (σ.2.1 + (15 + 3 * i)) false 0) := by
        refine ad_at ?_
        rw [List.getElem?_append_right (show (b14 σ.2.1 g).length ≤ 14 + 3 * i by show 14 ≤ _; omega)]
        show (rgs σ.2.1 (i + 1))[14 + 3 * i - 14]? = _
        rw [show 14 + 3 * i - 14 = 3 * i by omega]
        exact (rgs_at (i + 1) (by omega)).1
      have h1' : (adL σ (b14 σ.2.1 g ++ rgs σ.2.1 (i + 1))).1 (σ.2.1 + 1) = some (RA g) := ad_at (σ := σ) (i := 1) rfl
      have sta : stA (adL σ (b14 σ.2.1 g ++ rgs σ.2.1 (i + 1))) (σ.2.1 + 1) (nI i) (σ.2.1 + (14 + 3 * i)) = some (adL σ (b14 σ.2.1 (va_up g i (some (σ.2.1 + (14 + 3 * i)))) ++ rgs σ.2.1 (i + 1))) := by
        unfold stA
        rw [h1', d1]
        show (if (0 : Nat) = 0 then (if nI i < 0 ∨ 8 ≤ (nI i).toNatClampNeg then none else some (stH (adL σ (b14 σ.2.1 g ++ rgs σ.2.1 (i + 1))) (σ.2.1 + 1) (RA (va_up g (nI i).toNatClampNeg (some (σ.2.1 + (14 + 3 * i))))))) else none) = _
        rw [if_pos rfl, nI_clamp (by omega), if_neg (fun w => w.elim (nI_pos (by omega)) (fun z => by omega)), ad_st (by rw [hl3]; omega)]
        rfl
      refine e_b1 sta (e_le (nI_1 i) ?_)
      refine e_im (ih (i + 1) (va_up g i (some (σ.2.1 + (14 + 3 * i)))) (by omega) (by omega) (fun j hj => ?_)) ?_
      · unfold va_up
        by_cases e : j = i
        · rw [if_pos e, e]
          unfold dA
          rw [Nat.add_assoc]
        · rw [if_neg e]; exact hg j (by omega)
      · rintro r σ2 k' s' ⟨g', z1, z2, z3, z4⟩
        exact ⟨g', z1, z2, by omega, by omega⟩
theorem t_cinit : Ye (f_X5_init (adL σ [.inr (.inl (5, [.null, .null, .null, .null, .null, .null, .null, .null]))]) σ.2.1) (fun _ σ' k s => ∃ g, σ' = adL σ (b14 σ.2.1 g ++ rgs σ.2.1 8) ∧ (∀ j, j < 8 → g j = some (dA σ.2.1 j)) ∧ k ≤ 100 ∧ s ≤ 1000) := by
  have hF := FU_ge
  have p : ∀ {es : List Cel} {k : Nat} {fs : List Value} {v : Value}, es[0]? = some (.inr (.inl (5, fs))) → k < fs.length → pF (adL σ es) 5 σ.2.1 k v = some (adL σ (es.set 0 (.inr (.inl (5, fs.set k v))))) := fun h hk => ad_pF (i := 0) h hk
  unfold f_X5_init
  refine e_b1 (lenOk_eq (n := 8) rfl (by decide)) ?_
  refine e_na (m := 1) rfl (e_b1 (p rfl (Nat.le_of_ble_eq_true rfl)) ?_)
  refine e_na (m := 2) rfl (e_bd1 (t_nin (m := 2) rfl) (e_b1 (p rfl (Nat.le_of_ble_eq_true rfl)) ?_))
  refine e_na (m := 4) rfl (e_bd1 (t_nin (m := 4) rfl) (e_b1 (p rfl (Nat.le_of_ble_eq_true rfl)) ?_))
  refine e_na (m := 6) rfl (e_bd1 (t_nin (m := 6) rfl) (e_b1 (p rfl (Nat.le_of_ble_eq_true rfl)) ?_))
  refine e_na (m := 8) rfl (e_bd1 (t_tin (m := 8) rfl) (e_b1 (p rfl (Nat.le_of_ble_eq_true rfl)) ?_))
  refine e_na (m := 10) rfl (e_bd1 (t_tin (m := 10) rfl) (e_b1 (p rfl (Nat.le_of_ble_eq_true rfl)) ?_))
  refine e_na (m := 12) rfl (e_bd0 rfl (e_b1 (p rfl (Nat.le_of_ble_eq_true rfl)) ?_))
  refine e_na (m := 13) rfl (e_bd0 rfl (e_b1 (p rfl (Nat.le_of_ble_eq_true rfl)) ?_))
  refine e_bd (t_in_loop (σ := σ) FU 0 (fun _ => none) (by omega) (by omega) (fun j hj => by omega)) ?_
  rintro u σ1 kc sc ⟨g, z1, z2, z3, z4⟩
  refine e_ret ⟨g, z1, z2, ?_, ?_⟩
  · omega
  · have e8 : (8 : Int32).toNatClampNeg = 8 := rfl
    rw [e8]
    omega
end IN
