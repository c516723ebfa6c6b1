/-! ===== write of the object ===== -/
theorem apW_ofL {M : List Nat} {x : Nat} : apW (ofL M) x = ofL (M ++ [x]) := by
  unfold apW ofL
  refine Prod.ext ?_ ?_
  · funext j
    show (if j = M.length then x else M.getD j 0) = (M ++ [x]).getD j 0
    by_cases h : j < M.length + 1
    · rw [getD_app h]
    · rw [if_neg (by omega), List.getD_eq_getElem?_getD, List.getD_eq_getElem?_getD, List.getElem?_eq_none (by omega), List.getElem?_eq_none (by rw [List.length_append]; show M.length + 1 ≤ j; omega)]
  · show M.length + 1 = (M ++ [x]).length
    rw [List.length_append]; rfl
section LW
variable {t : Nat} {σ : St} {L c V : Nat → Nat} {A : AS} {T W : TS} {y : Cel} {M M1 M2 : List Nat}
theorem t_hu {v q : Nat} (hv : v < 10 ^ 11) : ∀ (f u : Nat), 13 - u < f → u ≤ 11 → (u = 0 ∨ 10 ^ u ≤ v) → f_X1_highestUnit_L10 f σ (lN v) (lN (10 ^ u)) = some (lN (10 ^ (nd v - 1))) := by
  have e11 : (10 : Nat) ^ 11 = 100000000000 := by decide
  intro f
  induction f with
  | zero => intro u h; omega
  | succ f ih =>
    intro u hf hu h2
    show b_X1_highestUnit_L10 (f_X1_highestUnit_L10 f) _ _ _ = _
    unfold b_X1_highestUnit_L10
    have hp : 10 ^ u ≤ 10 ^ 11 := p10_le hu
    have hp0 := p10_pos u
    refine q_f (fun w => by have := (lZ_le (a := 1000000000000) (b := (10 ^ u : Nat)) (by omega) (by omega) (by omega) (by omega)).mp w; omega) ?_
    refine q_b1 (dvZ (a := v) (b := (10 ^ u : Nat)) rfl rfl (by omega) (by omega) (by omega) (by omega)) ?_
    have et : ((v : Int).tdiv ((10 ^ u : Nat) : Int)) = ((v / 10 ^ u : Nat) : Int) := by rw [Int.tdiv_eq_ediv_of_nonneg (by omega)]; rfl
    rw [et]
    have hq : v / 10 ^ u ≤ v := Nat.div_le_self _ _
    have bq : -9223372036854775808 ≤ ((v / 10 ^ u : Nat) : Int) ∧ ((v / 10 ^ u : Nat) : Int) < 9223372036854775808 := by
      generalize v / 10 ^ u = q at *
      omega
    have b9 : ((v / 10 ^ u : Nat) : Int) < 10 ↔ v / 10 ^ u ≤ 9 := by
      generalize v / 10 ^ u = q at *
      omega
    by_cases h9 : v / 10 ^ u ≤ 9
    · refine q_t ((lZ_lt (b := 10) bq.1 bq.2 (by omega) (by omega)).mpr (b9.mpr h9)) ?_
      rw [nd_lt10 h9 h2]
    · refine q_f (fun w => h9 (b9.mp ((lZ_lt (b := 10) bq.1 bq.2 (by omega) (by omega)).mp w))) ?_
      have hle : 10 ^ (u + 1) ≤ v := by
        have h5 : 10 ≤ v / 10 ^ u := by omega
        rw [Nat.le_div_iff_mul_le hp0] at h5
        rw [Nat.pow_succ, Nat.mul_comm]; exact h5
      have hu12 : u + 1 < 11 := p10_inj (Nat.lt_of_le_of_lt hle hv)
      refine q_le (y := lN (10 ^ (u + 1))) ?_ (ih (u + 1) (by omega) (by omega) (Or.inr hle))
      rw [lZ_n, lZ_n, show (10 : Int64) = lZ 10 from rfl, lZ_mul]
      congr 1
theorem j_absZ {a : Int} (h1 : -100000000000 < a) (h2 : a < 100000000000) : f_J9_abs_067f4 σ (lZ a) = some (lN a.natAbs) := by
  unfold f_J9_abs_067f4
  by_cases h : 0 ≤ a
  · refine q_t ((lZ_le (a := 0) (by omega) (by omega) (by omega) (by omega)).mpr h) ?_
    rw [lZ_n]; congr 2; omega
  · refine q_f (fun w => h ((lZ_le (a := 0) (by omega) (by omega) (by omega) (by omega)).mp w)) ?_
    rw [lZ_n, lZ_neg]; congr 2; omega
theorem t_hunit {q : Nat} {a b : Int32} {u v w : Int64} {ex : Int} (hq : σ.1 q = some (LO a b u v w (lZ ex))) (h1 : -100000000000 < ex) (h2 : ex < 100000000000) : f_X1_highestUnit σ q = some (lN (10 ^ (nd ex.natAbs - 1))) := by
  have hF := FU_ge
  have e11 : (10 : Nat) ^ 11 = 100000000000 := by decide
  unfold f_X1_highestUnit
  refine q_ob hq (q_b1 (gL_eq hq rfl) (q_b1 (j_absZ h1 h2) ?_))
  exact q_b1 (t_hu (q := q) (by omega) FU 0 (by omega) (by omega) (Or.inl rfl)) rfl
theorem t_len69 : ∀ (f u : Nat) (j : Int), u < f → u ≤ 12 → -1000000000000 < j → j + u < 1000000000000 → f_X1_length_L69 f σ (lZ j) (lN (10 ^ u)) = some (lZ (j + u)) := by
  have e12 : (10 : Nat) ^ 12 = 1000000000000 := by decide
  intro f
  induction f with
  | zero => intro u j h; omega
  | succ f ih =>
    intro u j hf hu j1 j2
    show b_X1_length_L69 (f_X1_length_L69 f) _ _ _ = _
    unfold b_X1_length_L69
    have hp : 10 ^ u ≤ 10 ^ 12 := p10_le hu
    have hp0 := p10_pos u
    cases u with
    | zero =>
      refine q_t (by decide) ?_
      congr 2
      omega
    | succ u =>
      have h10 : 10 ^ (u + 1) / 10 = 10 ^ u := by rw [Nat.pow_succ]; exact Nat.mul_div_cancel _ (by decide)
      have hp1 := p10_pos u
      have h2 : 10 ^ (u + 1) = 10 ^ u * 10 := Nat.pow_succ ..
      refine q_f (fun w => by have := (lZ_le (a := (10 ^ (u + 1) : Nat)) (b := 1) (by omega) (by omega) (by omega) (by omega)).mp w; omega) ?_
      refine q_le (y := lZ (j + 1)) (by rw [show (1 : Int64) = lZ 1 from rfl, lZ_add]) ?_
      have d10 : dvL (lN (10 ^ (u + 1))) 10 = some (lN (10 ^ u)) := by
        refine (dvZ (a := (10 ^ (u + 1) : Nat)) (b := 10) rfl rfl (by omega) (by omega) (by decide) (by decide)).trans ?_
        rw [Int.tdiv_eq_ediv_of_nonneg (by omega), lZ_n]
        congr 2
        show ((10 ^ (u + 1) / 10 : Nat) : Int) = _
        rw [h10]
      refine q_b1 d10 ?_
      rw [ih u (j + 1) (by omega) (by omega) (by omega) (by omega)]
      congr 2
      omega
theorem t_length {q n fr bk bp : Nat} {ng : Bool} {ex : Int} (hq : σ.1 q = some (LO (bI ng) (nI n) (lN fr) (lN bk) (lN bp) (lZ ex))) (hn : n ≤ 4096) (hfr : fr ≤ 3000000000) (hbk : bk ≤ 3000000000) (hbp : bp ≤ 6000000000) (h1 : -100000000000 < ex) (h2 : ex < 100000000000) : f_X1_length σ q = some (lN ((if ng then 1 else 0) + ((fr + n + bk) + (if bp < fr + n + bk then 1 else 0)) + (expL ex).length)) := by
  have hF := FU_ge
  unfold f_X1_length
  refine q_ob hq (q_b1 (gL_eq hq rfl) (q_b1 (gI_eq hq rfl) (q_b1 (gL_eq hq rfl) ?_)))
  refine q_le (y := lN (fr + n + bk)) (by rw [nI_l (by omega), lZ_n, lZ_n, lZ_n, lZ_n, lZ_add, lZ_add]; congr 1) ?_
  refine q_b1 (gI_eq hq rfl) ?_
  refine q_jp (fun z6 => z6 = nI (if ng then 1 else 0)) ?_ ?_
  · intro z6 hz6
    subst hz6
    refine q_b1 (gL_eq hq rfl) ?_
    refine q_jp (fun z8 => z8 = nI (if bp < fr + n + bk then 1 else 0)) ?_ ?_
    · intro z8 hz8
      subst hz8
      obtain ⟨a, ha⟩ : ∃ a, (if ng then 1 else 0) = a := ⟨_, rfl⟩
      obtain ⟨b, hb⟩ : ∃ b, (if bp < fr + n + bk then 1 else 0) = b := ⟨_, rfl⟩
      have ha1 : a ≤ 1 := by rw [← ha]; split <;> decide
      have hb1 : b ≤ 1 := by rw [← hb]; split <;> decide
      rw [ha, hb]
      refine q_le (y := lZ ((fr + n + bk + a + b : Nat) : Int)) (by rw [nI_l (by omega), nI_l (by omega), lZ_n, lZ_n, lZ_n, lZ_add, lZ_add]; congr 1) ?_
      refine q_b1 (gL_eq hq rfl) ?_
      unfold expL
      by_cases h0 : ex = 0
      · rw [if_pos h0]
        refine q_t (by rw [h0]; rfl) ?_
        rw [lZ_n]
        congr 2
        show _ = ((a + (fr + n + bk + b) + 0 : Nat) : Int)
        omega
      · rw [if_neg h0]
        refine q_f (fun w => h0 ((lZ_eq (b := 0) (by omega) (by omega) (by omega) (by omega)).mp w)) ?_
        refine q_le (y := lZ ((fr + n + bk + a + b + 3 : Nat) : Int)) (by rw [show (3 : Int64) = lZ 3 from rfl, lZ_add]; congr 1) ?_
        refine q_b1 (t_hunit hq h1 h2) ?_
        have hv : ex.natAbs < 10 ^ 12 := by
          have e12 : (10 : Nat) ^ 12 = 1000000000000 := by decide
          omega
        have hnd := (nd_le (x := ex.natAbs) (d := 12) (by decide)).mpr hv
        refine q_b1 (t_len69 FU (nd ex.natAbs - 1) _ (by omega) (by omega) (by omega) (by omega)) ?_
        rw [lZ_n, List.length_append, num_len]
        congr 2
        show _ = ((a + (fr + n + bk + b) + (2 + (nd ex.natAbs - 1 + 1)) : Nat) : Int)
        omega
    · intro k8 hk8
      by_cases hlt : bp < fr + n + bk
      · refine q_f (fun w => by have := (lZ_le (a := (fr + n + bk : Nat)) (b := bp) (by omega) (by omega) (by omega) (by omega)).mp w; omega) (hk8 _ ?_)
        rw [if_pos hlt]; rfl
      · refine q_t ((lZ_le (a := (fr + n + bk : Nat)) (b := bp) (by omega) (by omega) (by omega) (by omega)).mpr (by omega)) (hk8 _ ?_)
        rw [if_neg hlt]; rfl
  · intro k6 hk6
    cases ng with
    | false => exact q_t rfl (hk6 _ rfl)
    | true => exact q_f (by decide) (hk6 _ rfl)
/-- laid so far -/
abbrev Cl (t : Nat) (σ : St) (L c V : Nat → Nat) (A : AS) (T : TS) (y : Cel) (e : Rs Unit) (M : List Nat) : Prop := Ye e (fun _ σ' k s => ∃ L' c', CI t σ' L' c' V A T (ofL M) ∧ σ'.1 (t + 13) = some y ∧ Rl t σ L c σ' L' c' k s)
theorem cl_bd {τ : Type} {e : Rs Unit} {f : Unit → St → Rs τ} {P : τ → St → (Nat → Nat) → (Nat → Nat) → Nat → Nat → Prop} (h : Cl t σ L c V A T y e M1) (hP : ∀ r σ2 L1 c1 σ1 k1 s1 k2 s2, Rl t σ L c σ1 L1 c1 k1 s1 → P r σ2 L1 c1 k2 s2 → P r σ2 L c (k1 + k2) (s1 + s2)) (kk : ∀ σ1 L1 c1, CI t σ1 L1 c1 V A T (ofL M1) → σ1.1 (t + 13) = some y → Ye (f () σ1) (fun r σ2 k s => P r σ2 L1 c1 k s)) : Ye (bd e f) (fun r σ2 k s => P r σ2 L c k s) := by
  refine e_bd h ?_
  rintro a σ1 kc sc ⟨L1, c1, h1, h2, h3⟩
  refine e_im (kk σ1 L1 c1 h1 h2) ?_
  intro r σ2 k' s' g
  exact hP r σ2 L1 c1 σ1 kc sc k' s' h3 g
theorem cl_bl {e : Rs Unit} {f : Unit → St → Rs Unit} (h : Cl t σ L c V A T y e M1) (kk : ∀ σ1 L1 c1, CI t σ1 L1 c1 V A T (ofL M1) → σ1.1 (t + 13) = some y → Cl t σ1 L1 c1 V A T y (f () σ1) M2) : Cl t σ L c V A T y (bd e f) M2 := by
  refine e_bd h ?_
  rintro a σ1 kc sc ⟨L1, c1, h1, h2, h3⟩
  refine e_im (kk σ1 L1 c1 h1 h2) ?_
  rintro r σ2 k' s' ⟨L2, c2, g1, g2, g3⟩
  exact ⟨L2, c2, g1, g2, h3.trans g3⟩
theorem t_cap {x : Nat} {z : Int32} (h : CI t σ L c V A T (ofL M)) (hy : σ.1 (t + 13) = some y) (hz : z = nI x) (h0 : 0 < x) (h1 : x ≤ 126) (hM : M.length < 6000) : Cl t σ L c V A T y (f_X4_append σ (t + 10) z) (M ++ [x]) := by
  refine e_im (t_tap h.dm h.la hz h0 h1 hM) ?_
  rintro r σ1 k s hP
  obtain ⟨L1, c1, g1, g2, -⟩ := h.pl hP
  obtain ⟨la, ca, q1, q2, q3, q4, -⟩ := hP
  rw [apW_ofL] at g1
  refine ⟨L1, c1, g1, q4.at h.dm hy (fun w => ?_), g2⟩
  rcases w with w | w
  · omega
  · exact h.sep.2.2.2.2.2.2.2 w.symm
theorem cl_ret (h : CI t σ L c V A T (ofL M)) (hy : σ.1 (t + 13) = some y) : Cl t σ L c V A T y (some ((), σ, 0, 0)) M := e_ret ⟨L, c, h, hy, Rl.rf⟩
theorem t_lay46 {i n fr bk bp : Nat} {a : Int32} {ex : Int64} (hi : i < 8) (hn : nd (A.1 i) = n) (hn4 : n ≤ 4096) (hy : y = LO a (nI n) (lN fr) (lN bk) (lN bp) ex) (hbp : bp ≤ 6000000000) (hl : M.length + (fr + n + bk) + (if bp < fr + n + bk then 1 else 0) ≤ 6000) : ∀ (f k : Nat) (σ : St) (L c : Nat → Nat), (fr + n + bk) - k < f → k ≤ fr + n + bk → CI t σ L c V A T (ofL (M ++ bodyF (fgt (A.1 i) fr n) bp k)) → σ.1 (t + 13) = some y → Cl t σ L c V A T y (f_X1_lay_L46 f σ (t + 13) (nA t i) (t + 10) (lN (fr + n + bk)) (nI k)) (M ++ bodyF (fgt (A.1 i) fr n) bp (fr + n + bk)) := by
  obtain ⟨all, hall⟩ : ∃ all, fr + n + bk = all := ⟨_, rfl⟩
  rw [hall] at hl ⊢
  intro f
  induction f with
  | zero => intro k σ L c h; omega
  | succ f ih =>
    intro k σ L c hf hk h hq
    show Ye (b_X1_lay_L46 (f_X1_lay_L46 f) _ _ _ _ _ _) _
    unfold b_X1_lay_L46
    have hq' : σ.1 (t + 13) = some (LO a (nI n) (lN fr) (lN bk) (lN bp) ex) := hy ▸ hq
    have hlen := body_len (f := fgt (A.1 i) fr n) (bp := bp) k
    have hall6 : all ≤ 6000 := by omega
    by_cases he : k = all
    · subst he
      exact e_t ((lZ_le (a := k) (b := k) (by omega) (by omega) (by omega) (by omega)).mpr (by omega) |> fun z => by rw [nI_l (by omega)]; exact z) (cl_ret h hq)
    · refine e_f (fun w => by rw [nI_l (by omega)] at w; have := (lZ_le (a := all) (b := k) (by omega) (by omega) (by omega) (by omega)).mp w; omega) ?_
      refine e_b1 (gL_eq hq' rfl) ?_
      have digit : ∀ (σ1 : St) (L1 c1 : Nat → Nat), CI t σ1 L1 c1 V A T (ofL (M ++ bodyF (fgt (A.1 i) fr n) bp k ++ (if k = bp then [46] else []))) → σ1.1 (t + 13) = some y → Cl t σ1 L1 c1 V A T y ((gL σ1 1 (t + 13) 2).bind fun l12 => (gI σ1 1 (t + 13) 1).bind fun x13 => (f_X2_digitAt σ1 (nA t i) ((((l12 + ((x13 : Int32).toInt64)) - 1) - ((nI k : Int32).toInt64) : Int64).toInt32)).bind fun x14 => bd (f_X4_append σ1 (t + 10) (48 + x14)) fun _ σ15 => lt (nI k + 1) fun x16 => f_X1_lay_L46 f σ15 (t + 13) (nA t i) (t + 10) (lN all) x16) (M ++ bodyF (fgt (A.1 i) fr n) bp all) := by
        intro σ1 L1 c1 h1 hq1
        have hq1' : σ1.1 (t + 13) = some (LO a (nI n) (lN fr) (lN bk) (lN bp) ex) := hy ▸ hq1
        refine e_b1 (gL_eq hq1' rfl) (e_b1 (gI_eq hq1' rfl) ?_)
        have hdig : f_X2_digitAt σ1 (nA t i) ((((lN fr + ((nI n : Int32).toInt64)) - 1) - ((nI k : Int32).toInt64) : Int64).toInt32) = some (nI (fgt (A.1 i) fr n k)) := by
          have ei : (((lN fr + ((nI n : Int32).toInt64)) - 1) - ((nI k : Int32).toInt64) : Int64).toInt32 = iZ ((fr : Int) + n - 1 - k) := by
            rw [nI_l (by omega), nI_l (by omega), lZ_n, lZ_n, lZ_n, show (1 : Int64) = lZ 1 from rfl, lZ_add, lZ_sub, lZ_sub, lZ_i]
          rw [ei]
          unfold fgt
          by_cases hlt : k < fr + n
          · rw [if_pos hlt]
            refine (t_digitAt (k := fr + n - 1 - k) h1.tn (h1.nr hi) (by rw [iZ_nat (by omega)]; congr 1; omega) (by omega)).trans ?_
            rfl
          · rw [if_neg hlt]
            refine t_digitAtN (h1.nr hi) ?_
            exact (iZ_lt (b := 0) (by omega) (by omega) (by omega) (by omega)).mpr (by omega)
        refine e_b1 hdig ?_
        have fl := fgt_lt (A.1 i) fr n k
        have hl1 : (M ++ bodyF (fgt (A.1 i) fr n) bp k ++ (if k = bp then [46] else [])).length < 6000 := by
          rw [List.length_append, List.length_append, hlen]
          by_cases hkb : k = bp
          · rw [if_pos hkb, if_neg (by omega)]
            rw [if_pos (by omega)] at hl
            show M.length + (k + 0) + 1 < 6000
            omega
          · rw [if_neg hkb]
            show M.length + (k + _) + 0 < 6000
            by_cases hb : bp < k
            · rw [if_pos hb]; rw [if_pos (by omega)] at hl; omega
            · rw [if_neg hb]; omega
        refine cl_bl (t_cap h1 hq1 (x := 48 + fgt (A.1 i) fr n k) (by rw [show (48 : Int32) = nI 48 from rfl, nI_add]) (by omega) (by omega) hl1) ?_
        intro σ2 L2 c2 h2 hq2
        have e : M ++ bodyF (fgt (A.1 i) fr n) bp k ++ (if k = bp then [46] else []) ++ [48 + fgt (A.1 i) fr n k] = M ++ bodyF (fgt (A.1 i) fr n) bp (k + 1) := by
          rw [body_s, List.append_assoc, List.append_assoc, List.append_assoc]
        rw [e] at h2
        exact e_le (nI_1 k) (ih (k + 1) σ2 L2 c2 (by omega) (by omega) h2 hq2)
      refine e_jq ?_
      by_cases hkb : k = bp
      · refine e_t (by rw [nI_l (by omega), hkb]) ?_
        refine cl_bl (M1 := M ++ bodyF (fgt (A.1 i) fr n) bp k ++ [46]) (t_cap h hq (x := 46) rfl (by decide) (by decide) ?_) ?_
        · rw [List.length_append, hlen, if_neg (by omega)]
          rw [if_pos (by omega)] at hl
          omega
        · intro σ1 L1 c1 h1 hq1
          exact digit σ1 L1 c1 (by rw [if_pos hkb]; exact h1) hq1
      · refine e_f (fun w => hkb ?_) (digit σ L c (by rw [if_neg hkb, List.append_nil]; exact h) hq)
        rw [nI_l (by omega)] at w
        have := (lZ_eq (a := k) (b := bp) (by omega) (by omega) (by omega) (by omega)).mp w
        omega
theorem t_lex50 {v : Nat} (hv : v < 10 ^ 12) : ∀ (f u : Nat) (σ : St) (L c : Nat → Nat) (M : List Nat), u + 1 < f → u ≤ 12 → CI t σ L c V A T (ofL M) → σ.1 (t + 13) = some y → M.length + u + 1 ≤ 6000 → Cl t σ L c V A T y (f_X1_layExponent_L50 f σ (t + 10) (lN v) (lN (10 ^ u))) (M ++ numL v u) := by
  have e12 : (10 : Nat) ^ 12 = 1000000000000 := by decide
  intro f
  induction f with
  | zero => intro u σ L c M h; omega
  | succ f ih =>
    intro u σ L c M hf hu h hq hl
    show Ye (b_X1_layExponent_L50 (f_X1_layExponent_L50 f) _ _ _ _) _
    unfold b_X1_layExponent_L50
    have hp : 10 ^ u ≤ 10 ^ 12 := p10_le hu
    have hp0 := p10_pos u
    have hqv : v / 10 ^ u ≤ v := Nat.div_le_self _ _
    have hm : v / 10 ^ u % 10 < 10 := Nat.mod_lt _ (by decide)
    have et : ((v : Int).tdiv ((10 ^ u : Nat) : Int)) = ((v / 10 ^ u : Nat) : Int) := by rw [Int.tdiv_eq_ediv_of_nonneg (by omega)]; rfl
    have bq : -9223372036854775808 ≤ ((v / 10 ^ u : Nat) : Int) ∧ ((v / 10 ^ u : Nat) : Int) < 9223372036854775808 := by
      generalize v / 10 ^ u = q at *
      omega
    have em : (((v / 10 ^ u : Nat) : Int).tmod 10) = ((v / 10 ^ u % 10 : Nat) : Int) := by
      generalize v / 10 ^ u = q at *
      rw [Int.tmod_eq_emod_of_nonneg (by omega)]; rfl
    have d10 : dvL (lN (10 ^ u)) 10 = some (lZ (((10 ^ u / 10 : Nat)) : Int)) := by
      refine (dvZ (a := (10 ^ u : Nat)) (b := 10) rfl rfl (by omega) (by omega) (by decide) (by decide)).trans ?_
      rw [Int.tdiv_eq_ediv_of_nonneg (by omega)]; rfl
    refine e_f (fun w => by have := (lZ_le (a := (10 ^ u : Nat)) (b := 0) (by omega) (by omega) (by omega) (by omega)).mp w; omega) ?_
    refine e_b1 (dvZ (a := v) (b := (10 ^ u : Nat)) rfl rfl (by omega) (by omega) (by omega) (by omega)) ?_
    rw [et]
    refine e_b1 (rmZ (b := 10) rfl rfl bq.1 bq.2 (by decide) (by decide)) ?_
    rw [em]
    refine cl_bl (t_cap h hq (x := 48 + v / 10 ^ u % 10) (by rw [lZ_i, ← iZ_n, show (48 : Int32) = nI 48 from rfl, nI_add]) (by omega) (by omega) (by omega)) ?_
    intro σ1 L1 c1 h1 hq1
    refine e_b1 d10 ?_
    cases u with
    | zero =>
      obtain ⟨f', rfl⟩ : ∃ f', f = f' + 1 := ⟨f - 1, by omega⟩
      show Ye (b_X1_layExponent_L50 _ _ _ _ _) _
      unfold b_X1_layExponent_L50
      rw [Nat.pow_zero, Nat.div_one] at h1
      exact e_t (by decide) (cl_ret h1 hq1)
    | succ u =>
      have h10 : 10 ^ (u + 1) / 10 = 10 ^ u := by rw [Nat.pow_succ]; exact Nat.mul_div_cancel _ (by decide)
      rw [h10]
      have := ih u σ1 L1 c1 _ (by omega) (by omega) h1 hq1 (by rw [List.length_append]; show M.length + 1 + u + 1 ≤ 6000; omega)
      rw [List.append_assoc] at this
      exact this
theorem t_layEx {a b : Int32} {u v w : Int64} {ex : Int} (hy : y = LO a b u v w (lZ ex)) (h1 : -100000000000 < ex) (h2 : ex < 100000000000) (h : CI t σ L c V A T (ofL M)) (hq : σ.1 (t + 13) = some y) (hl : M.length + (expL ex).length ≤ 6000) : Cl t σ L c V A T y (f_X1_layExponent σ (t + 13) (t + 10)) (M ++ expL ex) := by
  have hF := FU_ge
  subst hy
  unfold f_X1_layExponent
  unfold expL at hl ⊢
  refine e_ob hq (e_b1 (gL_eq hq rfl) ?_)
  by_cases h0 : ex = 0
  · rw [if_pos h0, List.append_nil]
    exact e_t (by rw [h0]; rfl) (cl_ret h hq)
  · rw [if_neg h0] at hl ⊢
    rw [List.length_append, num_len] at hl
    have hl' : M.length + (2 + (nd ex.natAbs - 1 + 1)) ≤ 6000 := hl
    have hv : ex.natAbs < 10 ^ 12 := by
      have e12 : (10 : Nat) ^ 12 = 1000000000000 := by decide
      omega
    have hnd := (nd_le (x := ex.natAbs) (d := 12) (by decide)).mpr hv
    refine e_f (fun w => h0 ((lZ_eq (b := 0) (by omega) (by omega) (by omega) (by omega)).mp w)) ?_
    refine cl_bl (t_cap h hq (x := 69) rfl (by decide) (by decide) (by omega)) ?_
    intro σ1 L1 c1 g1 q1
    refine e_b1 (gL_eq q1 rfl) ?_
    have hl1 : (M ++ [69]).length = M.length + 1 := by rw [List.length_append]; rfl
    refine e_jn (fun z4 => z4 = nI (if ex < 0 then 45 else 43)) ?_ ?_
    · intro z4 hz4
      refine cl_bl (t_cap g1 q1 (x := if ex < 0 then 45 else 43) hz4 (by split <;> decide) (by split <;> decide) (by omega)) ?_
      intro σ2 L2 c2 g2 q2
      refine e_b1 (gL_eq q2 rfl) (e_b1 (j_absZ h1 h2) (e_b1 (t_hunit q2 h1 h2) ?_))
      have hl2 : (M ++ [69] ++ [if ex < 0 then 45 else 43]).length = M.length + 2 := by rw [List.length_append, hl1]; rfl
      refine cl_bl (t_lex50 hv FU (nd ex.natAbs - 1) σ2 L2 c2 _ (by omega) (by omega) g2 q2 (by omega)) ?_
      intro σ3 L3 c3 g3 q3
      rw [List.append_assoc, List.append_assoc] at g3
      exact cl_ret g3 q3
    · intro k4 hk4
      by_cases hx : 0 ≤ ex
      · refine e_t ((lZ_le (a := 0) (by omega) (by omega) (by omega) (by omega)).mpr hx) (hk4 _ ?_)
        rw [if_neg (by omega)]; rfl
      · refine e_f (fun w => hx ((lZ_le (a := 0) (by omega) (by omega) (by omega) (by omega)).mp w)) (hk4 _ ?_)
        rw [if_pos (by omega)]; rfl
end LW
