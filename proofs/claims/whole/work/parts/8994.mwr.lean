/-! ===== write of the reference: what is laid out ===== -/
def ofL (L : List Nat) : TS := (fun j => L.getD j 0, L.length)
def bodyF (f : Nat → Nat) (bp : Nat) : Nat → List Nat
  | 0 => []
  | i + 1 => bodyF f bp i ++ (if i = bp then [46] else []) ++ [48 + f i]
def numL (v : Nat) : Nat → List Nat
  | 0 => [48 + v % 10]
  | u + 1 => (48 + v / 10 ^ (u + 1) % 10) :: numL v u
def expL (x : Int) : List Nat := if x = 0 then [] else [69, if x < 0 then 45 else 43] ++ numL x.natAbs (nd x.natAbs - 1)
/-- the digit at place i where fr zeros stand before the n digits of m -/
def fgt (m fr n i : Nat) : Nat := if i < fr + n then dg m (fr + n - 1 - i) else 0
def hiS (m : Nat) (s : Int) : Int := (nd m : Int) - 1 - s
def isPl (m : Nat) (s : Int) (how : Nat) : Bool := decide (how = 2) || (decide (0 ≤ s) && decide (-6 ≤ hiS m s))
/-- zeros before, places, places before the point, exponent -/
def plF (m : Nat) (s : Int) : Nat := if 0 ≤ s then (s + 1 - nd m).toNat else 0
def plA (m : Nat) (s : Int) : Nat := if 0 ≤ s then plF m s + nd m else nd m + (if m = 0 then 0 else (-s).toNat)
def plB (m : Nat) (s : Int) : Nat := if 0 ≤ s then plA m s - s.toNat else plA m s
def exX (m : Nat) (s : Int) (how : Nat) : Int := if how = 1 then (if m = 0 then hiS m s + (-hiS m s) % 3 else hiS m s - hiS m s % 3) else hiS m s
def exB (m : Nat) (s : Int) (how : Nat) : Nat := if m = 0 then 1 else if how = 1 then 1 + (hiS m s % 3).toNat else 1
def exA (m : Nat) (s : Int) (how : Nat) : Nat := if m = 0 then (if how = 1 then 1 + ((-hiS m s) % 3).toNat else 1) else max (nd m) (exB m s how)
def txL (m : Nat) (neg : Bool) (s : Int) (how : Nat) : List Nat := (if neg then [45] else []) ++ (if isPl m s how = true then bodyF (fgt m (plF m s) (nd m)) (plB m s) (plA m s) else bodyF (fgt m 0 (nd m)) (exB m s how) (exA m s how) ++ expL (exX m s how))
def sWrite (A : AS) (W : TS) (a how : Int32) : Int32 × TS := if (0 ≤ a ∧ a < 8) ∧ (0 ≤ how ∧ how ≤ 2) then (if (txL (A.1 a.toNatClampNeg) (A.2.1 a.toNatClampNeg) (A.2.2 a.toNatClampNeg) how.toNatClampNeg).length ≤ 6000 then (nI (txL (A.1 a.toNatClampNeg) (A.2.1 a.toNatClampNeg) (A.2.2 a.toNatClampNeg) how.toNatClampNeg).length, ofL (txL (A.1 a.toNatClampNeg) (A.2.1 a.toNatClampNeg) (A.2.2 a.toNatClampNeg) how.toNatClampNeg)) else (-1, W)) else (-1, W)
theorem body_len {f : Nat → Nat} {bp : Nat} : ∀ n : Nat, (bodyF f bp n).length = n + if bp < n then 1 else 0
  | 0 => by show 0 = 0 + _; rw [if_neg (by omega)]
  | n + 1 => by
    unfold bodyF
    rw [List.length_append, List.length_append, body_len n]
    by_cases h : n = bp
    · rw [if_pos h, if_neg (by omega), if_pos (by omega)]; rfl
    · rw [if_neg h]
      by_cases h2 : bp < n
      · rw [if_pos h2, if_pos (by omega)]; show n + 1 + 0 + 1 = _; omega
      · rw [if_neg h2, if_neg (by omega)]; rfl
theorem num_len {v : Nat} : ∀ u : Nat, (numL v u).length = u + 1
  | 0 => rfl
  | u + 1 => by unfold numL; rw [List.length_cons, num_len u]
/-- registers, typed and written of the reference -/
def MW (X : Nat → Nat → Int32) (A : AS) (T : TS) (L : List Nat) : Prop := RG X A ∧ TX X T ∧ WX X (ofL L)
section MWr
variable {σ : St} {o : Nat} {X : Nat → Nat → Int32} {A : AS} {T W : TS} {L : List Nat}
theorem getD_app {L : List Nat} {c j : Nat} (hj : j < L.length + 1) : (L ++ [c]).getD j 0 = if j = L.length then c else L.getD j 0 := by
  by_cases h : j = L.length
  · rw [if_pos h, h, List.getD_eq_getElem?_getD, List.getElem?_append_right (Nat.le_refl _), Nat.sub_self]; rfl
  · rw [if_neg h, List.getD_eq_getElem?_getD, List.getElem?_append_left (by omega), List.getD_eq_getElem?_getD]
theorem t_mmark {c : Nat} {x : Int32} (h : MW X A T L) (hl : L.length < 6000) (hc : c ≤ 126) (hx : x = nI c) : ∃ X', f_X6_mark (mst σ o X) o x = some (1, mst σ o X', 0, 0) ∧ MW X' A T (L ++ [c]) := by
  subst hx
  obtain ⟨hR, hT, hW⟩ := h
  obtain ⟨w1, w2, w3⟩ := id hW
  obtain ⟨Y, hY⟩ : ∃ Y, ups (ups X 8 (upd (X 8) L.length (nI c))) 0 (upd (X 0) 2 (nI (L.length + 1))) = Y := ⟨_, rfl⟩
  have yk : ∀ k, k ≠ 0 → k ≠ 8 → Y k = X k := fun k q1 q2 => by rw [← hY, ups_n q1, ups_n q2]
  have y0 : ∀ i, i ≠ 2 → Y 0 i = X 0 i := fun i q => by rw [← hY, ups_s, pk_un q]
  refine ⟨Y, ?_, ?_, ?_, ?_⟩
  · unfold f_X6_mark
    refine q_ob m_o ?_
    have e9 : gI (mst σ o X) 6 o 9 = some (nI L.length) := by rw [m_i9, w1]; rfl
    refine q_b1 e9 (q_jn ?_)
    refine q_f (nI_ge (b := 6000) hl (by decide)) ?_
    refine q_b1 m_g10 (q_b1 e9 ?_)
    refine q_b1 (stM (k := 8) (i := L.length) (by decide) (by decide) rfl (by show L.length < 6000; omega)) ?_
    have e9' : gI (mst σ o (ups X 8 (upd (X 8) L.length (nI c)))) 6 o 9 = some (nI L.length) := by rw [m_i9, ups_n (by decide), w1]; rfl
    refine q_b1 e9' (q_b1 m_p9 ?_)
    rw [nI_1, ups_n (show (0 : Nat) ≠ 8 by decide), hY]
    have e9'' : gI (mst σ o Y) 6 o 9 = some (nI (L.length + 1)) := by rw [m_i9, ← hY, ups_s, pk_us]
    refine q_b1 e9'' ?_
    exact q_f (nI_nlt (a := 6000) (by omega) (by decide)) rfl
  · refine ⟨hR.1, fun i hi => ?_⟩
    rw [yk 1 (by decide) (by decide), yk 2 (by decide) (by decide), yk 3 (by decide) (by decide), yk 4 (by decide) (by decide)]
    exact hR.2 i hi
  · unfold TX
    rw [yk 7 (by decide) (by decide), y0 1 (by decide)]; exact hT
  · refine ⟨?_, ?_, fun j hj => ?_⟩
    · rw [← hY, ups_s, pk_us]
      show nI (L.length + 1) = nI (L ++ [c]).length
      rw [List.length_append]; rfl
    · show (L ++ [c]).length ≤ 6000
      rw [List.length_append]; show L.length + 1 ≤ 6000; omega
    · have hj' : j < L.length + 1 := by have : j < (L ++ [c]).length := hj; rwa [List.length_append] at this
      show Y 8 j = nI ((L ++ [c]).getD j 0) ∧ (L ++ [c]).getD j 0 ≤ 126
      rw [getD_app hj', ← hY, ups_n (by decide), ups_s]
      by_cases he : j = L.length
      · rw [if_pos he, he, pk_us]; exact ⟨rfl, hc⟩
      · rw [if_neg he, pk_un he]; exact w3 j (by show j < L.length; omega)
theorem nd_lt10 {v u : Nat} (h : v / 10 ^ u ≤ 9) (h2 : u = 0 ∨ 10 ^ u ≤ v) : nd v - 1 = u := by
  have h3 : v < 10 ^ (u + 1) := by
    have h5 : v / 10 ^ u < 10 := by omega
    rw [Nat.div_lt_iff_lt_mul (p10_pos u)] at h5
    rw [Nat.pow_succ, Nat.mul_comm]; exact h5
  have h4 : nd v = u + 1 := nd_eq (by omega) h3 (h2.elim (fun w => Or.inr (by omega)) (fun w => Or.inl w))
  omega
theorem t_mpn1 {v : Nat} (hv : v < 10 ^ 12) : ∀ (f u : Nat), 13 - u < f → u ≤ 12 → (u = 0 ∨ 10 ^ u ≤ v) → f_X6_putNumber_L2 f (mst σ o X) o (lN v) (lN (10 ^ u)) = some (lN (10 ^ (nd v - 1))) := by
  have e12 : (10 : Nat) ^ 12 = 1000000000000 := by decide
  intro f
  induction f with
  | zero => intro u h; omega
  | succ f ih =>
    intro u hf hu h2
    show b_X6_putNumber_L2 (f_X6_putNumber_L2 f) _ o _ _ = _
    unfold b_X6_putNumber_L2
    have hp : 10 ^ u ≤ 10 ^ 12 := p10_le hu
    have hp0 := p10_pos u
    refine q_b1 (dvZ (a := v) (b := (10 ^ u : Nat)) rfl rfl (by omega) (by omega) (by omega) (by omega)) ?_
    have et : ((v : Int).tdiv ((10 ^ u : Nat) : Int)) = ((v / 10 ^ u : Nat) : Int) := by rw [Int.tdiv_eq_ediv_of_nonneg (by omega)]; rfl
    rw [et]
    have hq : v / 10 ^ u ≤ v := Nat.div_le_self _ _
    have bq : -9223372036854775808 ≤ ((v / 10 ^ u : Nat) : Int) ∧ ((v / 10 ^ u : Nat) : Int) < 9223372036854775808 := by
      generalize v / 10 ^ u = q at *
      omega
    have b9 : ((v / 10 ^ u : Nat) : Int) ≤ 9 ↔ v / 10 ^ u ≤ 9 := by
      generalize v / 10 ^ u = q at *
      omega
    by_cases h9 : v / 10 ^ u ≤ 9
    · refine q_t ((lZ_le (b := 9) bq.1 bq.2 (by omega) (by omega)).mpr (b9.mpr h9)) ?_
      rw [nd_lt10 h9 h2]
    · refine q_f (fun w => h9 (b9.mp ((lZ_le (b := 9) bq.1 bq.2 (by omega) (by omega)).mp w))) ?_
      have hle : 10 ^ (u + 1) ≤ v := by
        have h5 : 10 ≤ v / 10 ^ u := by omega
        rw [Nat.le_div_iff_mul_le hp0] at h5
        rw [Nat.pow_succ, Nat.mul_comm]; exact h5
      have hu12 : u + 1 < 12 := p10_inj (Nat.lt_of_le_of_lt hle hv)
      refine q_le (y := lN (10 ^ (u + 1))) ?_ (ih (u + 1) (by omega) (by omega) (Or.inr hle))
      rw [lZ_n, lZ_n, show (10 : Int64) = lZ 10 from rfl, lZ_mul]
      congr 1
      rw [Nat.pow_succ, Int.mul_comm]; rfl
theorem t_mpn2 {v : Nat} (hv : v < 10 ^ 12) : ∀ (f u : Nat) (X : Nat → Nat → Int32) (L : List Nat), u + 1 < f → u ≤ 12 → MW X A T L → L.length + u + 1 ≤ 6000 → ∃ X', f_X6_putNumber_L21 f (mst σ o X) o (lN v) (lN (10 ^ u)) = some ((), mst σ o X', 0, 0) ∧ MW X' A T (L ++ numL v u) := by
  have e12 : (10 : Nat) ^ 12 = 1000000000000 := by decide
  intro f
  induction f with
  | zero => intro u X L h; omega
  | succ f ih =>
    intro u X L hf hu hM hl
    show ∃ X', b_X6_putNumber_L21 (f_X6_putNumber_L21 f) _ o _ _ = _ ∧ _
    unfold b_X6_putNumber_L21
    have hp : 10 ^ u ≤ 10 ^ 12 := p10_le hu
    have hp0 := p10_pos u
    have hq : v / 10 ^ u ≤ v := Nat.div_le_self _ _
    have hm : v / 10 ^ u % 10 < 10 := Nat.mod_lt _ (by decide)
    have et : ((v : Int).tdiv ((10 ^ u : Nat) : Int)) = ((v / 10 ^ u : Nat) : Int) := by rw [Int.tdiv_eq_ediv_of_nonneg (by omega)]; rfl
    have bq : -9223372036854775808 ≤ ((v / 10 ^ u : Nat) : Int) ∧ ((v / 10 ^ u : Nat) : Int) < 9223372036854775808 := by
      generalize v / 10 ^ u = q at *
      omega
    have em : (((v / 10 ^ u : Nat) : Int).tmod 10) = ((v / 10 ^ u % 10 : Nat) : Int) := by
      generalize v / 10 ^ u = q at *
      rw [Int.tmod_eq_emod_of_nonneg (by omega)]; rfl
    obtain ⟨X1, a1, a2⟩ := t_mmark (σ := σ) (o := o) (c := 48 + v / 10 ^ u % 10) (x := 48 + ((lZ ((v / 10 ^ u % 10 : Nat) : Int) : Int64).toInt32)) hM (by omega) (by omega) (by rw [lZ_i, ← iZ_n, show (48 : Int32) = nI 48 from rfl, nI_add])
    have d10 : dvL (lN (10 ^ u)) 10 = some (lZ (((10 ^ u / 10 : Nat)) : Int)) := by
      refine (dvZ (a := (10 ^ u : Nat)) (b := 10) rfl rfl (by omega) (by omega) (by decide) (by decide)).trans ?_
      rw [Int.tdiv_eq_ediv_of_nonneg (by omega)]; rfl
    have pre : ∀ r, f_X6_putNumber_L21 f (mst σ o X1) o (lN v) (lZ (((10 ^ u / 10 : Nat)) : Int)) = some ((), r, 0, 0) → (if lN (10 ^ u) ≤ 0 then some ((), mst σ o X, 0, 0) else (dvL (lN v) (lN (10 ^ u))).bind fun l4 => (rmL l4 10).bind fun l5 => bd (f_X6_mark (mst σ o X) o (48 + ((l5 : Int64).toInt32))) fun x6 σ7 => (dvL (lN (10 ^ u)) 10).bind fun l8 => f_X6_putNumber_L21 f σ7 o (lN v) l8) = some ((), r, 0, 0) := by
      intro r hr
      refine q_f (fun w => by have := (lZ_le (a := (10 ^ u : Nat)) (b := 0) (by omega) (by omega) (by omega) (by omega)).mp w; omega) ?_
      refine q_b1 (dvZ (a := v) (b := (10 ^ u : Nat)) rfl rfl (by omega) (by omega) (by omega) (by omega)) ?_
      rw [et]
      refine q_b1 (rmZ (b := 10) rfl rfl bq.1 bq.2 (by decide) (by decide)) ?_
      rw [em]
      refine q_bd0 a1 ?_
      exact q_b1 d10 hr
    cases u with
    | zero =>
      refine ⟨X1, pre _ ?_, ?_⟩
      · obtain ⟨f', rfl⟩ : ∃ f', f = f' + 1 := ⟨f - 1, by omega⟩
        show b_X6_putNumber_L21 _ _ o _ _ = _
        unfold b_X6_putNumber_L21
        exact q_t (by decide) rfl
      · rw [Nat.pow_zero, Nat.div_one] at a2
        exact a2
    | succ u =>
      obtain ⟨X2, b1, b2⟩ := ih u X1 _ (by omega) (by omega) a2 (by rw [List.length_append]; show L.length + 1 + u + 1 ≤ 6000; omega)
      refine ⟨X2, pre _ ?_, ?_⟩
      · have : 10 ^ (u + 1) / 10 = 10 ^ u := by rw [Nat.pow_succ]; exact Nat.mul_div_cancel _ (by decide)
        rw [this]; exact b1
      · rw [List.append_assoc] at b2
        exact b2
theorem t_mpex {x : Int} {w : Int64} (hw : w = lZ x) (h1 : -100000000000 < x) (h2 : x < 100000000000) (hM : MW X A T L) (hl : L.length + (expL x).length ≤ 6000) : ∃ X', f_X6_putExponent (mst σ o X) o w = some ((), mst σ o X', 0, 0) ∧ MW X' A T (L ++ expL x) := by
  subst hw
  have hF := FU_ge
  have e12 : (10 : Nat) ^ 12 = 1000000000000 := by decide
  unfold f_X6_putExponent
  unfold expL at hl ⊢
  by_cases h0 : x = 0
  · rw [if_pos h0]
    exact ⟨X, q_ob m_o (q_t (by rw [h0]; rfl) rfl), by rw [List.append_nil]; exact hM⟩
  · rw [if_neg h0] at hl ⊢
    rw [List.length_append, num_len] at hl
    have hl' : L.length + (2 + (nd x.natAbs - 1 + 1)) ≤ 6000 := hl
    have hv : x.natAbs < 10 ^ 12 := by omega
    obtain ⟨X1, a1, a2⟩ := t_mmark (σ := σ) (o := o) (c := 69) (x := 69) hM (by omega) (by decide) rfl
    have hl1 : (L ++ [69]).length = L.length + 1 := by rw [List.length_append]; rfl
    obtain ⟨X2, b1, b2⟩ := t_mmark (σ := σ) (o := o) (c := if x < 0 then 45 else 43) (x := nI (if x < 0 then 45 else 43)) a2 (by omega) (by split <;> decide) rfl
    have hl2 : (L ++ [69] ++ [if x < 0 then 45 else 43]).length = L.length + 2 := by rw [List.length_append, hl1]; rfl
    obtain ⟨u, hu⟩ : ∃ u, nd x.natAbs - 1 = u := ⟨_, rfl⟩
    have hu12 : u ≤ 12 := by
      have := (nd_le (x := x.natAbs) (d := 12) (by decide)).mpr hv
      omega
    have l1 := t_mpn1 (σ := σ) (o := o) (X := X2) hv FU 0 (by omega) (by omega) (Or.inl rfl)
    rw [hu] at l1 hl'
    obtain ⟨X3, c1, c2⟩ := t_mpn2 (σ := σ) (o := o) hv FU u X2 _ (by omega) hu12 b2 (by omega)
    refine ⟨X3, ?_, ?_⟩
    · refine q_ob m_o ?_
      refine q_f (fun w => h0 ((lZ_eq (b := 0) (by omega) (by omega) (by omega) (by omega)).mp w)) ?_
      refine q_bd0 a1 ?_
      refine q_jp (fun z3 => z3 = nI (if x < 0 then 45 else 43)) ?_ ?_
      · intro z3 hz3
        subst hz3
        refine q_bd0 b1 ?_
        refine q_jp (fun z6 => z6 = lN x.natAbs) ?_ ?_
        · intro z6 hz6
          subst hz6
          refine q_bd0 (a := ()) ?_ rfl
          unfold f_X6_putNumber
          refine q_ob m_o (q_b1 l1 ?_)
          exact q_bd0 c1 rfl
        · intro k6 hk6
          by_cases hx : 0 ≤ x
          · refine q_t ((lZ_le (a := 0) (by omega) (by omega) (by omega) (by omega)).mpr hx) (hk6 _ ?_)
            rw [lZ_n]; congr 1; omega
          · refine q_f (fun w => hx ((lZ_le (a := 0) (by omega) (by omega) (by omega) (by omega)).mp w)) (hk6 _ ?_)
            rw [lZ_n, lZ_neg]; congr 1; omega
      · intro k3 hk3
        by_cases hx : 0 ≤ x
        · refine q_t ((lZ_le (a := 0) (by omega) (by omega) (by omega) (by omega)).mpr hx) (hk3 _ ?_)
          rw [if_neg (by omega)]; rfl
        · refine q_f (fun w => hx ((lZ_le (a := 0) (by omega) (by omega) (by omega) (by omega)).mp w)) (hk3 _ ?_)
          rw [if_pos (by omega)]; rfl
    · rw [hu]
      rw [List.append_assoc, List.append_assoc] at c2
      exact c2
theorem t_mfront {i k : Nat} {a x : Int32} (h : RG X A) (hi : i < 8) (hk : k < 100000) (ha : a = nI i) (hx : x = nI k) : f_X6_front (mst σ o X) o a x = some (nI (48 + fgt (A.1 i) 0 (nd (A.1 i)) k)) := by
  subst ha hx
  have hs := (h.1 i hi).1
  have y2 : ldI (mst σ o X) (o + 2) (nI i) = some (nI (sz (A.1 i))) := by rw [ld2 rfl hi, (h.2 i hi).1]
  unfold f_X6_front
  refine q_ob m_o (q_b1 m_g1 (q_b1 y2 (q_jn ?_)))
  have hnd := nd_sz (A.1 i)
  unfold fgt
  rw [Nat.zero_add]
  by_cases hlt : sz (A.1 i) ≤ k
  · refine q_t (nI_le hlt (by omega)) ?_
    have : (if k < nd (A.1 i) then dg (A.1 i) (nd (A.1 i) - 1 - k) else 0) = 0 := by
      by_cases h2 : k < nd (A.1 i)
      · rw [if_pos h2]
        rcases Nat.eq_zero_or_pos (A.1 i) with g | g
        · rw [g, dg_hi (Nat.zero_le _)]
        · rw [hnd, if_neg (by omega)] at h2; omega
      · rw [if_neg h2]
    rw [this]; rfl
  · refine q_f (nI_ge (by omega) (by omega)) ?_
    have g : 0 < A.1 i := Nat.pos_of_ne_zero fun w => by rw [w, sz_0] at hlt; omega
    rw [if_neg (by omega)] at hnd
    refine q_b1 m_g0 (q_b1 m_g1 (q_b1 y2 ?_))
    refine q_b1 (ld1 (i := 4096 * i + (sz (A.1 i) - 1 - k)) (by rw [nI_q, show (1 : Int32) = nI 1 from rfl, pk_sub (by omega), pk_sub (by omega)]; congr 1; omega) (by omega)) ?_
    rw [(h.2 i hi).2.1 _ (by omega), hnd, if_pos (by omega)]
    show some (nI 48 + _) = _
    rw [nI_add]
theorem fgt_lt (m fr n i : Nat) : fgt m fr n i < 10 := by
  unfold fgt
  split
  · exact dg_lt _ _
  · decide
end MWr
