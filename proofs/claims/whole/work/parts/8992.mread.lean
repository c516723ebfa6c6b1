/-! ===== read of the reference ===== -/
def isD (c : Nat) : Bool := decide (48 ≤ c) && decide (c ≤ 57)
theorem isD_y {c : Nat} : isD c = true ↔ 48 ≤ c ∧ c ≤ 57 := by unfold isD; simp
/-- from n places before the end on: where the digits and one point end -/
def scF (T : TS) : Nat → Option Nat → Nat × Option Nat
  | 0, p => (T.2, p)
  | n + 1, p => if isD (T.1 (T.2 - (n + 1))) = true then scF T n p else if T.1 (T.2 - (n + 1)) = 46 ∧ p = none then scF T n (some (T.2 - (n + 1))) else (T.2 - (n + 1), p)
def vlF (T : TS) (s : Nat) : Nat → Nat
  | 0 => 0
  | n + 1 => if T.1 (s + n) = 46 then vlF T s n else vlF T s n * 10 + (T.1 (s + n) - 48)
def adB (T : TS) : Nat → Bool
  | 0 => true
  | n + 1 => isD (T.1 (T.2 - (n + 1))) && adB T n
def sgI (T : TS) : Nat := if 0 < T.2 ∧ (T.1 0 = 43 ∨ T.1 0 = 45) then 1 else 0
def ngT (T : TS) : Bool := decide (0 < T.2 ∧ T.1 0 = 45)
def scT (T : TS) : Nat × Option Nat := scF T (T.2 - sgI T) none
def pn (p : Option Nat) : Nat := if p = none then 0 else 1
def bh (e : Nat) : Option Nat → Nat
  | none => 0
  | some k => e - k - 1
def frT (T : TS) (a : Nat) : Nat := if a < T.2 ∧ (T.1 a = 43 ∨ T.1 a = 45) then a + 1 else a
def dnT (T : TS) (a : Nat) : Bool := decide (a < T.2 ∧ T.1 a = 45)
def exT (T : TS) (a : Nat) : Nat := vlF T (frT T a) (T.2 - frT T a)
def prT (T : TS) : Option Int := if (scT T).1 - sgI T - pn (scT T).2 = 0 then none else if (scT T).1 = T.2 then some (bh (scT T).1 (scT T).2) else if T.1 (scT T).1 = 101 ∨ T.1 (scT T).1 = 69 then (if frT T ((scT T).1 + 1) < T.2 ∧ adB T (T.2 - frT T ((scT T).1 + 1)) = true then some (if dnT T ((scT T).1 + 1) = true then (bh (scT T).1 (scT T).2 : Int) + exT T ((scT T).1 + 1) else (bh (scT T).1 (scT T).2 : Int) - exT T ((scT T).1 + 1)) else none) else none
def sRead (A : AS) (T : TS) (d : Int32) : Int32 × AS := match prT T with
  | none => (0, A)
  | some s => onR d A fun i => kpA i (vlF T (sgI T) ((scT T).1 - sgI T)) (ngT T) s A
def pI (p : Option Nat) : Int32 := match p with
  | none => -1
  | some k => nI k
/-- what the scan found -/
def Sc (T : TS) (s e : Nat) (p : Option Nat) : Prop := s ≤ e ∧ e ≤ T.2 ∧ (∀ j, s ≤ j → j < e → (p = some j ∧ T.1 j = 46) ∨ (p ≠ some j ∧ isD (T.1 j) = true)) ∧ ∀ k, p = some k → s ≤ k ∧ k < e
theorem scF_ok {T : TS} {s : Nat} : ∀ (n : Nat) (p : Option Nat), n ≤ T.2 → s ≤ T.2 - n → Sc T s (T.2 - n) p → Sc T s (scF T n p).1 (scF T n p).2
  | 0, p, _, _, h => h
  | n + 1, p, hn, hs, h => by
    unfold scF
    obtain ⟨h1, h2, h3, h4⟩ := h
    by_cases hd : isD (T.1 (T.2 - (n + 1))) = true
    · rw [if_pos hd]
      refine scF_ok n p (by omega) (by omega) ⟨by omega, by omega, fun j a b => ?_, fun k hk => ?_⟩
      · by_cases hj : j = T.2 - (n + 1)
        · subst hj
          refine Or.inr ⟨fun w => ?_, hd⟩
          have := h4 _ w
          omega
        · exact h3 j a (by omega)
      · have := h4 k hk
        omega
    · rw [if_neg hd]
      by_cases hp : T.1 (T.2 - (n + 1)) = 46 ∧ p = none
      · rw [if_pos hp]
        refine scF_ok n _ (by omega) (by omega) ⟨by omega, by omega, fun j a b => ?_, fun k hk => ?_⟩
        · by_cases hj : j = T.2 - (n + 1)
          · subst hj
            exact Or.inl ⟨rfl, hp.1⟩
          · rcases h3 j a (by omega) with w | w
            · rw [hp.2] at w; cases w.1
            · refine Or.inr ⟨fun z => hj ?_, w.2⟩
              injection z with z
              exact z.symm
        · injection hk with hk
          omega
      · rw [if_neg hp]
        exact ⟨h1, h2, h3, h4⟩
theorem sgI_le {T : TS} : sgI T ≤ T.2 := by
  unfold sgI
  split <;> omega
theorem scT_ok {T : TS} : Sc T (sgI T) (scT T).1 (scT T).2 := by
  have := sgI_le (T := T)
  refine scF_ok _ _ (by omega) (by omega) ⟨by omega, by omega, fun j a b => by omega, fun k hk => by cases hk⟩
theorem adB_ok {T : TS} : ∀ {n : Nat}, n ≤ T.2 → adB T n = true → ∀ j, T.2 - n ≤ j → j < T.2 → isD (T.1 j) = true
  | 0, _, _, j, a, b => by omega
  | n + 1, hn, h, j, a, b => by
    unfold adB at h
    rw [Bool.and_eq_true] at h
    by_cases hj : j = T.2 - (n + 1)
    · subst hj; exact h.1
    · exact adB_ok (by omega) h.2 j (by omega) b
theorem kp_out {d m : Nat} {n : Bool} {s : Int} {A : AS} (h : s < -2147483648 ∨ 2147483648 ≤ s) : kpA d m n s A = (0, A) := if_neg (fun w => by omega)
section MRead
variable {σ : St} {o : Nat} {X : Nat → Nat → Int32} {A : AS} {T W : TS}
theorem t_misD {c : Nat} {x : Int32} (hc : c ≤ 126) (hx : x = nI c) : f_X6_isDigit σ x = some (bI (isD c)) := by
  subst hx
  unfold f_X6_isDigit isD
  by_cases h1 : 48 ≤ c
  · refine q_f (nI_nlt (a := c) (b := 48) h1 (by omega)) ?_
    by_cases h2 : c ≤ 57
    · refine q_f (nI_nlt (a := 57) h2 (by decide)) ?_
      rw [decide_eq_true h1, decide_eq_true h2]; rfl
    · refine q_t (nI_lt (a := 57) (by omega) (by omega)) ?_
      rw [decide_eq_false h2, Bool.and_false]; rfl
  · refine q_t (nI_lt (b := 48) (by omega) (by decide)) ?_
    rw [decide_eq_false h1, Bool.false_and]; rfl
/-- the text array still holds what was typed -/
def TH (X : Nat → Nat → Int32) (T : TS) : Prop := T.2 ≤ 6000 ∧ ∀ j, j < T.2 → X 7 j = nI (T.1 j) ∧ 0 < T.1 j ∧ T.1 j ≤ 126
theorem ld7 {j : Nat} {x : Int32} (h : TH X T) (hj : j < T.2) (hx : x = nI j) : ldI (mst σ o X) (o + 7) x = some (nI (T.1 j)) := by
  rw [ldM (k := 7) (i := j) (by decide) (by decide) hx (by show j < 6000; have := h.1; omega), (h.2 j hj).1]
theorem c_eq {c d : Nat} (hc : c ≤ 126) (hd : d ≤ 126) : nI c = nI d ↔ c = d := nI_eq (by omega) (by omega)
theorem t_mrd1 {i1 i4 i5 : Int32} (h : TH X T) : ∀ (f n : Nat) (p : Option Nat), n < f → n ≤ T.2 → (∀ k, p = some k → k < 6000) → f_X6_read_L63 f (mst σ o X) o i1 (nI T.2) (nI (T.2 - n)) i4 i5 (pI p) = some (nI (scF T n p).1, pI (scF T n p).2) := by
  have hT := h.1
  intro f
  induction f with
  | zero => intro n p a; omega
  | succ f ih =>
    intro n p hf hn hp
    show b_X6_read_L63 (f_X6_read_L63 f) _ o _ _ _ _ _ _ = _
    unfold b_X6_read_L63
    cases n with
    | zero => exact q_t (nI_le (by omega) (by omega)) rfl
    | succ n =>
      refine q_f (nI_ge (by omega) (by omega)) ?_
      obtain ⟨i, hi⟩ : ∃ i, T.2 - (n + 1) = i := ⟨_, rfl⟩
      have hiT : i < T.2 := by omega
      obtain ⟨t1, t2, t3⟩ := h.2 i hiT
      have e1 : T.2 - n = i + 1 := by omega
      unfold scF
      rw [hi]
      refine q_b1 m_g8 (q_b1 (ld7 h hiT rfl) (q_b1 (t_misD t3 rfl) (q_jn ?_)))
      have go : ∀ p', (if T.1 i = 46 then nI i else pI p) = pI p' → (∀ k, p' = some k → k < 6000) → ((gR (mst σ o X) 6 o 8).bind fun r9 => (ldI (mst σ o X) r9 (nI i)).bind fun x10 => jn (fun (z11 : Int32) => (lt (nI i + 1) fun x12 => f_X6_read_L63 f (mst σ o X) o i1 (nI T.2) x12 i4 i5 z11)) fun k11 => if x10 = 46 then (k11 (nI i)) else k11 (pI p)) = some (nI (scF T n p').1, pI (scF T n p').2) := by
        intro p' hp' hk
        have nxt := ih n p' (by omega) (by omega) hk
        rw [e1] at nxt
        refine q_b1 m_g8 (q_b1 (ld7 h hiT rfl) (q_jn ?_))
        by_cases h46 : T.1 i = 46
        · rw [if_pos h46] at hp'
          refine q_t ((c_eq t3 (d := 46) (by decide)).mpr h46) (q_le (nI_1 i) ?_)
          rw [hp']; exact nxt
        · rw [if_neg h46] at hp'
          refine q_f (fun w => h46 ((c_eq t3 (d := 46) (by decide)).mp w)) (q_le (nI_1 i) ?_)
          rw [hp']; exact nxt
      by_cases hd : isD (T.1 i) = true
      · rw [if_pos hd, hd]
        refine q_f (by decide) (go p ?_ hp)
        have := isD_y.mp hd
        rw [if_neg (by omega)]
      · rw [if_neg hd, Bool.eq_false_iff.mpr hd]
        refine q_t rfl ?_
        refine q_b1 m_g8 (q_b1 (ld7 h hiT rfl) ?_)
        by_cases h46 : T.1 i = 46
        · refine q_t ((c_eq t3 (d := 46) (by decide)).mpr h46) ?_
          cases p with
          | none =>
            rw [if_pos (c := T.1 i = 46 ∧ (none : Option Nat) = none) ⟨h46, rfl⟩]
            refine q_f (by decide) (go (some i) (by rw [if_pos h46]; rfl) (fun k hk => ?_))
            injection hk with hk
            omega
          | some k =>
            rw [if_neg (c := T.1 i = 46 ∧ some k = none) (fun w => by cases w.2)]
            have := hp k rfl
            exact q_t (show (0 : Int32) ≤ nI k from nI_pos' (by omega)) rfl
        · rw [if_neg (c := T.1 i = 46 ∧ p = none) (fun w => h46 w.1)]
          exact q_f (fun w => h46 ((c_eq t3 (d := 46) (by decide)).mp w)) rfl
/-- the exponent's digits -/
theorem t_mrd2 {i1 i4 i5 i6 i7 i11 : Int32} {j9 : Int64} {fr : Nat} (h : TH X T) (hfr : fr ≤ T.2) : ∀ (f n v : Nat), n < f → n ≤ T.2 - fr → v < 10000000000000 → (v = vlF T fr (T.2 - n - fr) ∨ (100000000000 < v ∧ 100000000000 < vlF T fr (T.2 - n - fr))) → ∃ i' v', f_X6_read_L255 f (mst σ o X) o i1 (nI T.2) (nI (T.2 - n)) i4 i5 i6 i7 j9 i11 (lN v) = some (nI i', lN v') ∧ v' < 10000000000000 ∧ i' ≤ T.2 ∧ (adB T n = true → i' = T.2 ∧ (v' = vlF T fr (T.2 - fr) ∨ (100000000000 < v' ∧ 100000000000 < vlF T fr (T.2 - fr)))) ∧ (adB T n = false → i' < T.2) := by
  have hT := h.1
  intro f
  induction f with
  | zero => intro n v a; omega
  | succ f ih =>
    intro n v hf hn hv hx
    show ∃ i' v', b_X6_read_L255 (f_X6_read_L255 f) _ o _ _ _ _ _ _ _ _ _ _ = _ ∧ _
    unfold b_X6_read_L255
    cases n with
    | zero => exact ⟨T.2, v, q_t (nI_le (by omega) (by omega)) rfl, hv, by omega, fun _ => ⟨rfl, hx⟩, fun w => by cases w⟩
    | succ n =>
      obtain ⟨i, hi⟩ : ∃ i, T.2 - (n + 1) = i := ⟨_, rfl⟩
      have hiT : i < T.2 := by omega
      obtain ⟨t1, t2, t3⟩ := h.2 i hiT
      have e1 : T.2 - n = i + 1 := by omega
      rw [hi] at hx ⊢
      unfold adB
      rw [hi]
      by_cases hd : isD (T.1 i) = true
      · obtain ⟨d1, d2⟩ := isD_y.mp hd
        have ev : vlF T fr (T.2 - n - fr) = vlF T fr (i - fr) * 10 + (T.1 i - 48) := by
          rw [e1, show i + 1 - fr = (i - fr) + 1 by omega]
          show (if T.1 (fr + (i - fr)) = 46 then _ else _) = _
          rw [show fr + (i - fr) = i by omega, if_neg (by omega)]
        rw [hd, Bool.true_and]
        by_cases hb : v ≤ 100000000000
        · have hve : v = vlF T fr (i - fr) := by omega
          obtain ⟨i', v', a1, a2, a3, a4, a5⟩ := ih n (10 * v + (T.1 i - 48)) (by omega) (by omega) (by omega) (Or.inl (by rw [ev, ← hve]; omega))
          refine ⟨i', v', ?_, a2, a3, a4, a5⟩
          refine q_f (nI_ge (by omega) (by omega)) ?_
          refine q_b1 m_g8 (q_b1 (ld7 h hiT rfl) (q_b1 (t_misD t3 rfl) ?_))
          rw [hd]
          refine q_f (by decide) (q_jn ?_)
          refine q_t ((lZ_le (a := v) (b := 100000000000) (by omega) (by omega) (by omega) (by omega)).mpr (by omega)) ?_
          refine q_b1 m_g8 (q_b1 (ld7 h hiT rfl) (q_le (nI_1 i) ?_))
          rw [e1] at a1
          have ee : (10 * lN v + (nI (T.1 i)).toInt64) - 48 = lN (10 * v + (T.1 i - 48)) := by
            rw [nI_l (by omega), lZ_n, lZ_n, lZ_n, show (10 : Int64) = lZ 10 from rfl, show (48 : Int64) = lZ 48 from rfl, lZ_mul, lZ_add, lZ_sub]
            congr 1
            omega
          rw [ee]; exact a1
        · obtain ⟨i', v', a1, a2, a3, a4, a5⟩ := ih n v (by omega) (by omega) (by omega) (Or.inr ⟨by omega, by rw [ev]; omega⟩)
          refine ⟨i', v', ?_, a2, a3, a4, a5⟩
          refine q_f (nI_ge (by omega) (by omega)) ?_
          refine q_b1 m_g8 (q_b1 (ld7 h hiT rfl) (q_b1 (t_misD t3 rfl) ?_))
          rw [hd]
          refine q_f (by decide) (q_jn ?_)
          refine q_f (fun w => by have := (lZ_le (a := v) (b := 100000000000) (by omega) (by omega) (by omega) (by omega)).mp w; omega) (q_le (nI_1 i) ?_)
          rw [e1] at a1
          exact a1
      · rw [Bool.eq_false_iff.mpr hd, Bool.false_and]
        refine ⟨i, v, ?_, hv, by omega, (fun w => by cases w), fun _ => hiT⟩
        refine q_f (nI_ge (by omega) (by omega)) ?_
        refine q_b1 m_g8 (q_b1 (ld7 h hiT rfl) (q_b1 (t_misD t3 rfl) ?_))
        rw [Bool.eq_false_iff.mpr hd]
        exact q_t rfl rfl
/-- the digits themselves -/
theorem t_mrd3 {i1 i4 : Int32} {j9 : Int64} {s e : Nat} {p : Option Nat} (h : TH X T) (hs : Sc T s e p) : ∀ (f n sz' : Nat) (m : Nat → Int32) (g : Nat → Nat), n < f → n ≤ e - s → sz' + n ≤ e - s → (∀ j, j < sz' → m j = nI (g j) ∧ g j < 10) → (∀ q, 17000 ≤ q → m q = X 5 q) → vlF T s (e - s) = vlF T s n * 10 ^ sz' + vl 10 g sz' → ∃ z' m' g', f_X6_read_L355 f (mst σ o (ups X 5 m)) o i1 i4 (nI s) (pI p) j9 (nI sz') (nI (s + n) + (-1)) = some (nI z', mst σ o (ups X 5 m'), 0, 0) ∧ z' ≤ e - s ∧ (∀ j, j < z' → m' j = nI (g' j) ∧ g' j < 10) ∧ (∀ q, 17000 ≤ q → m' q = X 5 q) ∧ vlF T s (e - s) = vl 10 g' z' := by
  obtain ⟨s1, s2, s3, s4⟩ := hs
  have hT := h.1
  intro f
  induction f with
  | zero => intro n z m g a; omega
  | succ f ih =>
    intro n z m g hf hn hz hm hq hv
    show ∃ z' m' g', b_X6_read_L355 (f_X6_read_L355 f) _ o _ _ _ _ _ _ _ = _ ∧ _
    unfold b_X6_read_L355
    cases n with
    | zero =>
      refine ⟨z, m, g, ?_, by omega, hm, hq, by rw [hv]; show 0 * 10 ^ z + _ = _; omega⟩
      refine q_t ?_ rfl
      rw [Nat.add_zero]
      rcases Nat.eq_zero_or_pos s with w | w
      · rw [w]; decide
      · rw [show nI s + (-1) = nI (s - 1) by rw [← Int32.sub_eq_add_neg]; exact pk_sub (b := 1) w]
        exact nI_lt (by omega) (by omega)
    | succ n =>
      have e1 : nI (s + (n + 1)) + (-1) = nI (s + n) := by rw [← Int32.sub_eq_add_neg]; exact nI_pred _
      rw [e1]
      have hjT : s + n < T.2 := by omega
      obtain ⟨t1, t2, t3⟩ := h.2 (s + n) hjT
      have ev : vlF T s (n + 1) = if T.1 (s + n) = 46 then vlF T s n else vlF T s n * 10 + (T.1 (s + n) - 48) := rfl
      rcases s3 (s + n) (by omega) (by omega) with ⟨w1, w2⟩ | ⟨w1, w2⟩
      · rw [ev, if_pos w2] at hv
        obtain ⟨z', m', g', a1, a2, a3, a4, a5⟩ := ih n z m g (by omega) (by omega) (by omega) hm hq hv
        refine ⟨z', m', g', ?_, a2, a3, a4, a5⟩
        refine q_f (nI_nlt (by omega) (by omega)) (q_jn ?_)
        refine q_t (by rw [w1]; rfl) ?_
        exact q_lt a1
      · obtain ⟨d1, d2⟩ := isD_y.mp w2
        rw [ev, if_neg (by omega)] at hv
        obtain ⟨z', m', g', a1, a2, a3, a4, a5⟩ := ih n (z + 1) (upd m z (nI (T.1 (s + n) - 48))) (up1 g z (T.1 (s + n) - 48)) (by omega) (by omega) (by omega) (fun j hj => by
          unfold up1
          by_cases hji : j = z
          · subst hji; rw [if_pos rfl, pk_us]; exact ⟨rfl, by omega⟩
          · rw [if_neg hji, pk_un hji]; exact hm j (by omega)) (fun q hq' => by rw [pk_un (by omega)]; exact hq q hq') (by
          show _ = vlF T s n * 10 ^ (z + 1) + (vl 10 (up1 g z (T.1 (s + n) - 48)) z + up1 g z (T.1 (s + n) - 48) z * 10 ^ z)
          have e1 : vl 10 (up1 g z (T.1 (s + n) - 48)) z = vl 10 g z := vl_congr (fun j hj => by unfold up1; rw [if_neg (by omega)])
          have e2 : up1 g z (T.1 (s + n) - 48) z = T.1 (s + n) - 48 := by unfold up1; rw [if_pos rfl]
          rw [e1, e2, hv, Nat.pow_succ]
          generalize 10 ^ z = B
          grind)
        refine ⟨z', m', g', ?_, a2, a3, a4, a5⟩
        refine q_f (nI_nlt (by omega) (by omega)) (q_jn ?_)
        refine q_f (fun w => ?_) ?_
        · cases p with
          | none => exact absurd (show nI (s + n) = -1 from w) (fun z => by
              have : nI (s + n) < 0 := by rw [z]; decide
              exact nI_pos (by omega) this)
          | some k =>
            have hk := s4 k rfl
            have : s + n = k := (nI_eq (by omega) (by omega)).mp w
            exact w1 (by rw [this])
        · refine q_b1 m_g4 (q_b1 m_g8 ?_)
          have hx7 : ldI (mst σ o (ups X 5 m)) (o + 7) (nI (s + n)) = some (nI (T.1 (s + n))) := by
            rw [ldM (k := 7) (i := s + n) (by decide) (by decide) rfl (by show s + n < 6000; omega), ups_n (by decide), t1]
          refine q_b1 hx7 ?_
          refine q_b1 (st5 (i := z) rfl (by omega)) ?_
          rw [ups_ups, ups_s, show nI (T.1 (s + n)) - 48 = nI (T.1 (s + n) - 48) from pk_sub (b := 48) d1]
          refine q_le (nI_1 z) ?_
          exact q_lt a1
end MRead
