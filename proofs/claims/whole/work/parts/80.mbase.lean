/-! ===== the reference: its state as a function ===== -/
def ln (k : Nat) : Nat := if k = 1 then 32768 else if k = 5 then 68000 else if k = 6 then 4 else if 7 ≤ k then 6000 else 8
def mob (o : Nat) (X : Nat → Nat → Int32) : Cel := .inr (.inl (6, [.ref (o + 1), .ref (o + 2), .ref (o + 3), .ref (o + 4), .ref (o + 5), .ref (o + 6), .int (X 0 0), .int (X 0 1), .ref (o + 7), .int (X 0 2), .ref (o + 8)]))
def mst (σ : St) (o : Nat) (X : Nat → Nat → Int32) : St := (fun q => if q = o then some (mob o X) else if o < q ∧ q ≤ o + 8 then some (AA (ln (q - o)) (X (q - o))) else σ.1 q, σ.2)
def ups (X : Nat → Nat → Int32) (k : Nat) (f : Nat → Int32) : Nat → Nat → Int32 := fun j => if j = k then f else X j
theorem ups_s {X : Nat → Nat → Int32} {k : Nat} {f : Nat → Int32} : ups X k f k = f := if_pos rfl
theorem ups_n {X : Nat → Nat → Int32} {k j : Nat} {f : Nat → Int32} (h : j ≠ k) : ups X k f j = X j := if_neg h
theorem ups_ups {X : Nat → Nat → Int32} {k : Nat} {f g : Nat → Int32} : ups (ups X k f) k g = ups X k g := by
  funext j
  unfold ups
  by_cases h : j = k
  · rw [if_pos h, if_pos h]
  · rw [if_neg h, if_neg h, if_neg h]
theorem ups_self {X : Nat → Nat → Int32} {k : Nat} : ups X k (X k) = X := by
  funext j
  unfold ups
  by_cases h : j = k
  · rw [if_pos h, h]
  · rw [if_neg h]
section MB
variable {σ : St} {o : Nat} {X : Nat → Nat → Int32}
theorem m_o : (mst σ o X).1 o = some (mob o X) := if_pos rfl
theorem m_a {k : Nat} (h1 : 0 < k) (h2 : k ≤ 8) : (mst σ o X).1 (o + k) = some (AA (ln k) (X k)) := by
  show (if o + k = o then some (mob o X) else if o < o + k ∧ o + k ≤ o + 8 then some (AA (ln (o + k - o)) (X (o + k - o))) else σ.1 (o + k)) = _
  rw [if_neg (by omega), if_pos (by omega), Nat.add_sub_cancel_left]
theorem m_set {k : Nat} {f : Nat → Int32} (h1 : 0 < k) (h2 : k ≤ 8) : stH (mst σ o X) (o + k) (AA (ln k) f) = mst σ o (ups X k f) := by
  unfold stH mst
  congr 1
  funext q
  show (if q = o + k then some (AA (ln k) f) else if q = o then some (mob o X) else if o < q ∧ q ≤ o + 8 then some (AA (ln (q - o)) (X (q - o))) else σ.1 q) = if q = o then some (mob o (ups X k f)) else if o < q ∧ q ≤ o + 8 then some (AA (ln (q - o)) (ups X k f (q - o))) else σ.1 q
  have e0 : mob o (ups X k f) = mob o X := by unfold mob; rw [ups_n (by omega)]
  by_cases hq : q = o + k
  · subst hq
    rw [if_pos rfl, if_neg (by omega), if_pos (by omega), Nat.add_sub_cancel_left, ups_s]
  · rw [if_neg hq, e0]
    by_cases hq2 : q = o
    · rw [if_pos hq2, if_pos hq2]
    · rw [if_neg hq2, if_neg hq2]
      by_cases hq3 : o < q ∧ q ≤ o + 8
      · rw [if_pos hq3, if_pos hq3, ups_n (by omega)]
      · rw [if_neg hq3, if_neg hq3]
theorem m_setO {f : Nat → Int32} : stH (mst σ o X) o (mob o (ups X 0 f)) = mst σ o (ups X 0 f) := by
  unfold stH mst
  congr 1
  funext q
  show (if q = o then some (mob o (ups X 0 f)) else if q = o then some (mob o X) else if o < q ∧ q ≤ o + 8 then some (AA (ln (q - o)) (X (q - o))) else σ.1 q) = if q = o then some (mob o (ups X 0 f)) else if o < q ∧ q ≤ o + 8 then some (AA (ln (q - o)) (ups X 0 f (q - o))) else σ.1 q
  by_cases hq2 : q = o
  · rw [if_pos hq2, if_pos hq2]
  · rw [if_neg hq2, if_neg hq2, if_neg hq2]
    by_cases hq3 : o < q ∧ q ≤ o + 8
    · rw [if_pos hq3, if_pos hq3, ups_n (by omega)]
    · rw [if_neg hq3, if_neg hq3]
theorem m_g0 : gR (mst σ o X) 6 o 0 = some (o + 1) := gR_eq m_o rfl
theorem m_g1 : gR (mst σ o X) 6 o 1 = some (o + 2) := gR_eq m_o rfl
theorem m_g2 : gR (mst σ o X) 6 o 2 = some (o + 3) := gR_eq m_o rfl
theorem m_g3 : gR (mst σ o X) 6 o 3 = some (o + 4) := gR_eq m_o rfl
theorem m_g4 : gR (mst σ o X) 6 o 4 = some (o + 5) := gR_eq m_o rfl
theorem m_g5 : gR (mst σ o X) 6 o 5 = some (o + 6) := gR_eq m_o rfl
theorem m_g8 : gR (mst σ o X) 6 o 8 = some (o + 7) := gR_eq m_o rfl
theorem m_g10 : gR (mst σ o X) 6 o 10 = some (o + 8) := gR_eq m_o rfl
theorem m_i6 : gI (mst σ o X) 6 o 6 = some (X 0 0) := gI_eq m_o rfl
theorem m_i7 : gI (mst σ o X) 6 o 7 = some (X 0 1) := gI_eq m_o rfl
theorem m_i9 : gI (mst σ o X) 6 o 9 = some (X 0 2) := gI_eq m_o rfl
theorem m_p6 {v : Int32} : pF (mst σ o X) 6 o 6 (.int v) = some (mst σ o (ups X 0 (upd (X 0) 0 v))) := by
  rw [← m_setO]
  exact pF_eq m_o (Nat.le_of_ble_eq_true rfl)
theorem m_p7 {v : Int32} : pF (mst σ o X) 6 o 7 (.int v) = some (mst σ o (ups X 0 (upd (X 0) 1 v))) := by
  rw [← m_setO]
  exact pF_eq m_o (Nat.le_of_ble_eq_true rfl)
theorem m_p9 {v : Int32} : pF (mst σ o X) 6 o 9 (.int v) = some (mst σ o (ups X 0 (upd (X 0) 2 v))) := by
  rw [← m_setO]
  exact pF_eq m_o (Nat.le_of_ble_eq_true rfl)
theorem ln_lt (k : Nat) : ln k < 2 ^ 31 := by
  unfold ln
  repeat' split
  all_goals omega
theorem ldM {k i : Nat} {x : Int32} (h1 : 0 < k) (h2 : k ≤ 8) (hx : x = nI i) (hi : i < ln k) : ldI (mst σ o X) (o + k) x = some (X k i) := ldI_eq (m_a h1 h2) hx hi (ln_lt k)
theorem stM {k i : Nat} {x v : Int32} (h1 : 0 < k) (h2 : k ≤ 8) (hx : x = nI i) (hi : i < ln k) : stI (mst σ o X) (o + k) x v = some (mst σ o (ups X k (upd (X k) i v))) := by
  rw [stI_eq (m_a h1 h2) hx hi (ln_lt k), m_set h1 h2]
/-- the row of the numbers, the row of their lengths -/
theorem ld5 {i : Nat} {x : Int32} (hx : x = nI i) (hi : i < 68000) : ldI (mst σ o X) (o + 5) x = some (X 5 i) := ldM (k := 5) (by decide) (by decide) hx hi
theorem st5 {i : Nat} {x v : Int32} (hx : x = nI i) (hi : i < 68000) : stI (mst σ o X) (o + 5) x v = some (mst σ o (ups X 5 (upd (X 5) i v))) := stM (k := 5) (by decide) (by decide) hx hi
theorem ld6 {i : Nat} {x : Int32} (hx : x = nI i) (hi : i < 4) : ldI (mst σ o X) (o + 6) x = some (X 6 i) := ldM (k := 6) (by decide) (by decide) hx hi
theorem st6 {i : Nat} {x v : Int32} (hx : x = nI i) (hi : i < 4) : stI (mst σ o X) (o + 6) x v = some (mst σ o (ups X 6 (upd (X 6) i v))) := stM (k := 6) (by decide) (by decide) hx hi
end MB
/-! ===== numbers by their digits ===== -/
def sz (x : Nat) : Nat := if x = 0 then 0 else nd x
def dg (x j : Nat) : Nat := x / 10 ^ j % 10
theorem dg_lt (x j : Nat) : dg x j < 10 := Nat.mod_lt _ (by decide)
theorem sz_0 : sz 0 = 0 := rfl
theorem sz_p {x : Nat} (h : 0 < x) : sz x = nd x := if_neg (by omega)
theorem sz_le {x k : Nat} : sz x ≤ k ↔ x < 10 ^ k := by
  rcases Nat.eq_zero_or_pos x with h | h
  · subst h
    rw [sz_0]
    exact ⟨fun _ => Nat.pow_pos (by decide), fun _ => Nat.zero_le _⟩
  · rw [sz_p h]
    rcases Nat.eq_zero_or_pos k with hk | hk
    · subst hk
      have := nd_pos x
      rw [Nat.pow_zero]
      omega
    · exact nd_le hk
theorem sz_lt (x : Nat) : x < 10 ^ sz x := sz_le.mp (Nat.le_refl _)
theorem sz_pos {x : Nat} (h : 0 < x) : 0 < sz x := by rw [sz_p h]; exact nd_pos x
theorem sz_zero {x : Nat} : sz x = 0 ↔ x = 0 := by
  constructor
  · intro h
    rcases Nat.eq_zero_or_pos x with w | w
    · exact w
    · have := sz_pos w; omega
  · rintro rfl; rfl
theorem sz_ge {x : Nat} (h : 0 < x) : 10 ^ (sz x - 1) ≤ x := by rw [sz_p h]; exact nd_ge h
theorem sz_eq {x n : Nat} (h0 : 0 < n) (h1 : x < 10 ^ n) (h2 : 10 ^ (n - 1) ≤ x) : sz x = n := by
  have : 0 < x := Nat.lt_of_lt_of_le (Nat.pow_pos (by decide)) h2
  rw [sz_p this]
  exact nd_eq h0 h1 (Or.inl h2)
theorem nd_sz (x : Nat) : nd x = if x = 0 then 1 else sz x := by
  by_cases h : x = 0
  · subst h; rfl
  · rw [if_neg h, sz_p (by omega)]
theorem vl_dg (x : Nat) : ∀ n : Nat, vl 10 (dg x) n = x % 10 ^ n
  | 0 => by rw [Nat.pow_zero, Nat.mod_one]; rfl
  | n + 1 => by
    show vl 10 (dg x) n + dg x n * 10 ^ n = _
    rw [vl_dg x n, Nat.mod_pow_succ, Nat.mul_comm]
    rfl
theorem vl_sz (x : Nat) : vl 10 (dg x) (sz x) = x := by rw [vl_dg, Nat.mod_eq_of_lt (sz_lt x)]
theorem dg_top {x : Nat} (h : 0 < x) : 0 < dg x (sz x - 1) := by
  have h1 := sz_ge h
  have h2 := sz_lt x
  have h3 := sz_pos h
  unfold dg
  have e : 10 ^ sz x = 10 ^ (sz x - 1) * 10 := by rw [← Nat.pow_succ]; congr 1; omega
  have h4 : x / 10 ^ (sz x - 1) < 10 := by rw [Nat.div_lt_iff_lt_mul (Nat.pow_pos (by decide)), Nat.mul_comm]; omega
  rw [Nat.mod_eq_of_lt h4]
  exact Nat.div_pos h1 (Nat.pow_pos (by decide))
theorem dg_hi {x j : Nat} (h : sz x ≤ j) : dg x j = 0 := by
  unfold dg
  rw [Nat.div_eq_of_lt (sz_le.mp h)]
theorem vl_sz_eq {g : Nat → Nat} {n : Nat} (h1 : ∀ j, j < n → g j < 10) (h2 : 0 < n → 0 < g (n - 1)) : sz (vl 10 g n) = n ∧ ∀ j, j < n → dg (vl 10 g n) j = g j := by
  constructor
  · rcases Nat.eq_zero_or_pos n with h | h
    · subst h; rfl
    · refine sz_eq h (vl_lt h1) ?_
      have := vl_ge (B := 10) (g := g) (n := n - 1) (h2 h)
      rwa [Nat.sub_add_cancel h] at this
  · intro j hj
    exact vl_digit (by decide) h1 hj
/-- the row r of the reference holds x -/
def Rw (X : Nat → Nat → Int32) (r x : Nat) : Prop := sz x ≤ 16990 ∧ X 6 r = nI (sz x) ∧ ∀ j, j < sz x → X 5 (17000 * r + j) = nI (dg x j)
/-- only the rows in S (and what was left over) differ -/
def Ot (S : Nat → Prop) (X X' : Nat → Nat → Int32) : Prop := (∀ k, k ≠ 0 → k ≠ 5 → k ≠ 6 → X' k = X k) ∧ (∀ i, i ≠ 0 → X' 0 i = X 0 i) ∧ ∀ q, q < 4 → ¬ S q → X' 6 q = X 6 q ∧ ∀ j, j < 17000 → X' 5 (17000 * q + j) = X 5 (17000 * q + j)
section OT
variable {S S1 : Nat → Prop} {X X1 X2 : Nat → Nat → Int32}
theorem Ot.rf : Ot S X X := ⟨fun _ _ _ _ => rfl, fun _ _ => rfl, fun _ _ _ => ⟨rfl, fun _ _ => rfl⟩⟩
theorem Ot.trans (h1 : Ot S X X1) (h2 : Ot S1 X1 X2) (h : ∀ q, S1 q → S q) : Ot S X X2 :=
  ⟨fun k a b c => (h2.1 k a b c).trans (h1.1 k a b c), fun i a => (h2.2.1 i a).trans (h1.2.1 i a), fun q a b => ⟨(h2.2.2 q a (fun z => b (h q z))).1.trans (h1.2.2 q a b).1, fun j c => ((h2.2.2 q a (fun z => b (h q z))).2 j c).trans ((h1.2.2 q a b).2 j c)⟩⟩
theorem Ot.mono (h1 : Ot S X X1) (h : ∀ q, S q → S1 q) : Ot S1 X X1 := ⟨h1.1, h1.2.1, fun q a b => h1.2.2 q a (fun z => b (h q z))⟩
theorem Rw.ot {r x : Nat} (h : Rw X r x) (h1 : Ot S X X1) (hr : r < 4) (hs : ¬ S r) : Rw X1 r x := by
  obtain ⟨a, b, c⟩ := h
  obtain ⟨d, e⟩ := h1.2.2 r hr hs
  exact ⟨a, d.trans b, fun j hj => (e j (by omega)).trans (c j hj)⟩
theorem Rw.of {r n : Nat} {g : Nat → Nat} (h0 : X 6 r = nI n) (hn : n ≤ 16990) (h1 : ∀ j, j < n → X 5 (17000 * r + j) = nI (g j) ∧ g j < 10) (h2 : 0 < n → 0 < g (n - 1)) : Rw X r (vl 10 g n) := by
  obtain ⟨a, b⟩ := vl_sz_eq (fun j hj => (h1 j hj).2) h2
  refine ⟨by omega, by rw [a]; exact h0, fun j hj => ?_⟩
  rw [a] at hj
  rw [b j hj]
  exact (h1 j hj).1
/-- only row r of the numbers was written -/
theorem Ot.m5 {r : Nat} {m : Nat → Int32} (h : ∀ i, (i < 17000 * r ∨ 17000 * (r + 1) ≤ i) → m i = X 5 i) : Ot (fun q => q = r) X (ups X 5 m) := by
  refine ⟨fun k a b c => ups_n b, fun i a => by rw [ups_n (by decide)], fun q a b => ⟨by rw [ups_n (by decide)], fun j hj => ?_⟩⟩
  rw [ups_s]
  exact h _ (by omega)
theorem Ot.m6 {r : Nat} {v : Int32} : Ot (fun q => q = r) X (ups X 6 (upd (X 6) r v)) := by
  refine ⟨fun k a b c => ups_n c, fun i a => by rw [ups_n (by decide)], fun q a b => ⟨?_, fun j hj => by rw [ups_n (by decide)]⟩⟩
  rw [ups_s, pk_un b]
theorem Ot.m0 {v : Int32} : Ot S X (ups X 0 (upd (X 0) 0 v)) := by
  refine ⟨fun k a b c => ups_n a, fun i a => by rw [ups_s, pk_un a], fun q a b => ⟨by rw [ups_n (by decide)], fun j hj => by rw [ups_n (by decide)]⟩⟩
end OT
theorem nI_r {r j : Nat} : (17000 : Int32) * nI r + nI j = nI (17000 * r + j) := by rw [show (17000 : Int32) = nI 17000 from rfl, pk_mul, nI_add]
theorem nI_r1 {r j : Nat} : (17000 : Int32) * nI r + nI (j + 1) - 1 = nI (17000 * r + j) := by rw [nI_r, ← Nat.add_assoc]; exact nI_pred _
