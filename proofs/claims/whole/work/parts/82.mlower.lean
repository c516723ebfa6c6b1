theorem q_jn {β α : Type} {f : β → α} {g : (β → α) → α} {x : α} (h : g f = x) : jn f g = x := h
theorem e_jq {ρ β : Type} {P : ρ → St → Nat → Nat → Prop} {f : β → Rs ρ} {g : (β → Rs ρ) → Rs ρ} (h : Ye (g f) P) : Ye (jn f g) P := h
section ML
variable {σ : St} {o r : Nat} {X : Nat → Nat → Int32}
theorem lost_dig {f low P : Nat} (h1 : low < P) (h2 : f < 10) : lostc (f * P + low) (10 * P) false = if 5 < f ∨ (f = 5 ∧ low ≠ 0) then 3 else if f = 5 then 2 else if 0 < f ∨ low ≠ 0 then 1 else 0 := by
  unfold lostc
  by_cases h : f < 5
  · have : f * P ≤ 4 * P := Nat.mul_le_mul_right _ (by omega)
    rw [if_pos (by omega), if_neg (c := 5 < f ∨ (f = 5 ∧ low ≠ 0)) (by omega), if_neg (c := f = 5) (by omega)]
    by_cases h3 : 0 < f ∨ low ≠ 0
    · rw [if_pos h3, if_neg]
      rintro ⟨h4, -⟩
      rcases h3 with h3 | h3
      · have : 1 * P ≤ f * P := Nat.mul_le_mul_right _ h3
        omega
      · omega
    · have : f = 0 := by omega
      subst this
      rw [if_neg h3, if_pos ⟨by omega, rfl⟩]
  · by_cases h5 : f = 5
    · subst h5
      rw [if_neg (c := 2 * (5 * P + low) < 10 * P) (by omega)]
      by_cases h0 : low = 0
      · subst h0
        rw [if_pos ⟨by omega, rfl⟩, if_neg (by omega), if_pos rfl]
      · rw [if_neg (c := 2 * (5 * P + low) = 10 * P ∧ false = false) (by omega), if_pos (Or.inr ⟨rfl, h0⟩)]
    · have : 6 * P ≤ f * P := Nat.mul_le_mul_right _ (by omega)
      rw [if_neg (by omega), if_neg (by omega), if_pos (Or.inl (by omega))]
theorem t_ml_loop1 {x c : Nat} {u : Int32} (hr : r < 4) (h : Rw X r x) (hc0 : 0 < c) (hc : c ≤ sz x) : ∀ (k i : Nat), c - i < k → i ≤ c - 1 → f_X6_lower_L73 k (mst σ o X) o (nI r) (nI c) u (bI (decide (x % 10 ^ i ≠ 0))) (nI i) = some (bI (decide (x % 10 ^ (c - 1) ≠ 0))) := by
  obtain ⟨h1, h2, h3⟩ := h
  intro k
  induction k with
  | zero => intro i h; omega
  | succ k ih =>
    intro i hk hi
    show b_X6_lower_L73 (f_X6_lower_L73 k) _ o _ _ _ _ _ = _
    unfold b_X6_lower_L73
    have e1 : nI c - 1 = nI (c - 1) := pk_sub (b := 1) hc0
    rw [e1]
    by_cases he : i = c - 1
    · rw [he]
      exact q_t (nI_le (Nat.le_refl _) (by omega)) rfl
    · refine q_f (nI_ge (by omega) (by omega)) ?_
      have hd := dg_lt x i
      have hm : x % 10 ^ (i + 1) = x % 10 ^ i + 10 ^ i * dg x i := Nat.mod_pow_succ
      have hp : 0 < 10 ^ i := Nat.pow_pos (by decide)
      have nxt := ih (i + 1) (by omega) (by omega)
      refine q_jn (q_jn ?_)
      by_cases hz : x % 10 ^ i = 0
      · refine q_t (by rw [decide_eq_false (fun w => w hz)]; rfl) ?_
        refine q_b1 m_g4 ?_
        refine q_b1 (ld5 nI_r (by omega)) ?_
        rw [h3 i (by omega)]
        by_cases hz2 : dg x i = 0
        · have e2 : decide (x % 10 ^ (i + 1) ≠ 0) = false := decide_eq_false (fun w => w (by rw [hm, hz, hz2]; rfl))
          rw [e2] at nxt
          refine q_t (by rw [hz2]; decide) ?_
          exact q_le (nI_1 i) nxt
        · have e2 : decide (x % 10 ^ (i + 1) ≠ 0) = true := decide_eq_true (by
            rw [hm]
            have := Nat.mul_pos hp (show 0 < dg x i by omega)
            omega)
          rw [e2] at nxt
          refine q_f (nI_nle (by omega) (by omega)) ?_
          exact q_le (nI_1 i) nxt
      · have e2 : decide (x % 10 ^ (i + 1) ≠ 0) = true := decide_eq_true (by rw [hm]; omega)
        rw [e2] at nxt
        refine q_f (by rw [decide_eq_true hz]; decide) ?_
        exact q_le (nI_1 i) nxt
theorem t_ml_loop2 {n c : Nat} {m0 : Nat → Int32} (hr : r < 4) (hn : n ≤ 16990) (hX : X 6 r = nI n) : ∀ (k i : Nat) (m : Nat → Int32), n - i < k → c ≤ i → i ≤ n → (∀ j, j + c < i → m (17000 * r + j) = m0 (17000 * r + j + c)) → (∀ j, i ≤ j + c → m (17000 * r + j) = m0 (17000 * r + j)) → (∀ q, (q < 17000 * r ∨ 17000 * (r + 1) ≤ q) → m q = m0 q) →
    ∃ m', f_X6_lower_L170 k (mst σ o (ups X 5 m)) o (nI r) (nI c) (nI i) = some ((), mst σ o (ups X 5 m'), 0, 0) ∧ (∀ j, j + c < n → m' (17000 * r + j) = m0 (17000 * r + j + c)) ∧ (∀ q, (q < 17000 * r ∨ 17000 * (r + 1) ≤ q) → m' q = m0 q) := by
  intro k
  induction k with
  | zero => intro i m h; omega
  | succ k ih =>
    intro i m hk hci hi h1 h2 h3
    show ∃ m', b_X6_lower_L170 (f_X6_lower_L170 k) _ o _ _ _ = _ ∧ _
    unfold b_X6_lower_L170
    have pre : ldI (mst σ o (ups X 5 m)) (o + 6) (nI r) = some (nI n) := by rw [ld6 rfl hr, ups_n (by decide), hX]
    by_cases he : i = n
    · subst he
      refine ⟨m, ?_, h1, h3⟩
      refine q_b1 m_g5 ?_
      refine q_b1 pre ?_
      exact q_t (nI_le (Nat.le_refl _) (by omega)) rfl
    · obtain ⟨m', a1, a2, a3⟩ := ih (i + 1) (upd m (17000 * r + (i - c)) (m (17000 * r + i))) (by omega) (by omega) (by omega) (fun j hj => by
          by_cases hji : j = i - c
          · subst hji
            rw [pk_us]
            by_cases hc0 : c = 0
            · subst hc0
              rw [show i - 0 = i by omega]
              exact h2 i (by omega)
            · rw [h2 i (by omega)]
              congr 1
              omega
          · rw [pk_un (by omega)]; exact h1 j (by omega)) (fun j hj => by rw [pk_un (by omega)]; exact h2 j (by omega)) (fun q hq => by rw [pk_un (by omega)]; exact h3 q hq)
      refine ⟨m', ?_, a2, a3⟩
      refine q_b1 m_g5 ?_
      refine q_b1 pre ?_
      refine q_f (nI_ge (by omega) (by omega)) ?_
      refine q_b1 m_g4 ?_
      refine q_b1 m_g4 ?_
      refine q_b1 (ld5 nI_r (by omega)) ?_
      refine q_b1 (st5 (i := 17000 * r + (i - c)) (by rw [nI_r, pk_sub (by omega)]; congr 1; omega) (by omega)) ?_
      rw [ups_ups, ups_s]
      exact q_le (nI_1 i) a1
theorem dg_div {x c j : Nat} : dg (x / 10 ^ c) j = dg x (j + c) := by
  unfold dg
  rw [Nat.div_div_eq_div_mul, ← Nat.pow_add, Nat.add_comm]
theorem sz_div {x c : Nat} : sz (x / 10 ^ c) = sz x - c := by
  rcases Nat.eq_zero_or_pos x with h | h
  · subst h; rw [Nat.zero_div, sz_0]; omega
  · by_cases hc : sz x ≤ c
    · rw [Nat.div_eq_of_lt (sz_le.mp hc), sz_0]; omega
    · refine sz_eq (by omega) ?_ ?_
      · rw [Nat.div_lt_iff_lt_mul (Nat.pow_pos (by decide)), ← Nat.pow_add, show sz x - c + c = sz x by omega]
        exact sz_lt x
      · rw [Nat.le_div_iff_mul_le (Nat.pow_pos (by decide)), ← Nat.pow_add, show sz x - c - 1 + c = sz x - 1 by omega]
        exact sz_ge h
/-- lower: takes off b digits, and says what that takes away -/
theorem t_mlower {x : Nat} {b : Int} {y : Int32} {z : Int64} (hr : r < 4) (h : Rw X r x) (hy : y = nI r) (hz : z = lZ b) (hb1 : -9223372036854775808 ≤ b) (hb2 : b < 9223372036854775808) : ∃ X', f_X6_lower (mst σ o X) o y z = some ((), mst σ o X', 0, 0) ∧ Rw X' r (x / 10 ^ b.toNat) ∧ Ot (fun q => q = r) X X' ∧ X' 0 0 = nI (lostc (x % 10 ^ b.toNat) (10 ^ b.toNat) false) := by
  subst hy hz
  have hF := FU_ge
  obtain ⟨h1, h2, h3⟩ := id h
  have hl0 : ∀ P : Nat, 0 < P → lostc 0 P false = 0 := fun P hP => by unfold lostc; rw [if_pos (by omega), if_pos ⟨rfl, rfl⟩]
  have hR0 : Rw (ups X 0 (upd (X 0) 0 0)) r x := h.ot (Ot.m0 (S := fun q => q ≠ r)) hr (fun w => w rfl)
  by_cases hb0 : b ≤ 0
  · have : b.toNat = 0 := by omega
    rw [this, Nat.pow_zero, Nat.div_one, Nat.mod_one, hl0 1 (by decide)]
    refine ⟨_, ?_, hR0, Ot.m0, by rw [ups_s, pk_us]; rfl⟩
    unfold f_X6_lower
    refine q_ob m_o ?_
    refine q_b1 m_p6 ?_
    exact q_t ((lZ_le (b := 0) hb1 hb2 (by decide) (by decide)).mpr hb0) rfl
  · have hnb : ¬ lZ b ≤ 0 := fun w => hb0 ((lZ_le (b := 0) hb1 hb2 (by decide) (by decide)).mp w)
    rcases Nat.eq_zero_or_pos x with hx | hx
    · subst hx
      rw [Nat.zero_div, Nat.zero_mod, hl0 _ (Nat.pow_pos (by decide))]
      refine ⟨_, ?_, hR0, Ot.m0, by rw [ups_s, pk_us]; rfl⟩
      unfold f_X6_lower
      refine q_ob m_o ?_
      refine q_b1 m_p6 ?_
      refine q_f hnb ?_
      refine q_b1 m_g5 ?_
      refine q_b1 (ld6 rfl hr) ?_
      exact q_t (by rw [ups_n (by decide), h2]; rfl) rfl
    · have hs := sz_pos hx
      obtain ⟨c, hc⟩ : ∃ c : Nat, b = c := ⟨b.toNat, by omega⟩
      subst hc
      rw [Int.toNat_natCast]
      have hc0 : 0 < c := by omega
      by_cases hcs : c ≤ sz x
      · have hL := t_ml_loop1 (σ := σ) (o := o) (u := nI (dg x (c - 1))) hr hR0 hc0 hcs FU 0 (by omega) (by omega)
        rw [Nat.pow_zero, Nat.mod_one] at hL
        have eS : x % 10 ^ c = dg x (c - 1) * 10 ^ (c - 1) + x % 10 ^ (c - 1) := by
          obtain ⟨e, rfl⟩ : ∃ e, c = e + 1 := ⟨c - 1, by omega⟩
          rw [Nat.add_sub_cancel, Nat.mod_pow_succ, Nat.add_comm, Nat.mul_comm]
          rfl
        have eP : 10 ^ c = 10 * 10 ^ (c - 1) := by
          rw [Nat.mul_comm, ← Nat.pow_succ]
          congr 1
          omega
        have hlow : x % 10 ^ (c - 1) < 10 ^ (c - 1) := Nat.mod_lt _ (Nat.pow_pos (by decide))
        have hd := dg_lt x (c - 1)
        rw [eS, eP, lost_dig hlow hd, ← eP]
        obtain ⟨f, hf⟩ : ∃ f, dg x (c - 1) = f := ⟨_, rfl⟩
        obtain ⟨low, hlo⟩ : ∃ low, x % 10 ^ (c - 1) = low := ⟨_, rfl⟩
        rw [hf] at hd
        rw [hf, hlo]
        rw [hf, hlo] at hL
        have fin : ∀ v : Nat, ∃ X', (((pF (mst σ o (ups X 0 (upd (X 0) 0 0))) 6 o 6 (.int (nI v))).bind fun σ16 => bd (f_X6_lower_L170 FU σ16 o (nI r) (nI c) (nI c)) fun y24 σ25 => (gR σ25 6 o 5).bind fun r26 => (ldI σ25 r26 (nI r)).bind fun x27 => (stI σ25 r26 (nI r) (x27 - nI c)).bind fun σ28 => some ((), σ28, 0, 0)) : Rs Unit) = some ((), mst σ o X', 0, 0) ∧ Rw X' r (x / 10 ^ c) ∧ Ot (fun q => q = r) X X' ∧ X' 0 0 = nI v := by
          intro v
          obtain ⟨Y, hY⟩ : ∃ Y, ups (ups X 0 (upd (X 0) 0 0)) 0 (upd (ups X 0 (upd (X 0) 0 0) 0) 0 (nI v)) = Y := ⟨_, rfl⟩
          have hY6' : Y 6 = X 6 := by rw [← hY, ups_n (by decide), ups_n (by decide)]
          have hY5' : Y 5 = X 5 := by rw [← hY, ups_n (by decide), ups_n (by decide)]
          obtain ⟨m', a1, a2, a3⟩ := t_ml_loop2 (σ := σ) (o := o) (X := Y) (n := sz x) (c := c) (m0 := X 5) hr h1 (by rw [hY6', h2]) FU c (X 5) (by omega) (Nat.le_refl _) hcs (fun j hj => by omega) (fun _ _ => rfl) (fun _ _ => rfl)
          rw [← hY5', ups_self] at a1
          have hO : Ot (fun q => q = r) X Y := hY ▸ Ot.trans Ot.m0 (Ot.m0 (S := fun q => q = r)) (fun _ w => w)
          have hY6 : Y 6 = X 6 := by rw [← hY, ups_n (by decide), ups_n (by decide)]
          have hY5 : Y 5 = X 5 := by rw [← hY, ups_n (by decide), ups_n (by decide)]
          have hO2 : Ot (fun q => q = r) Y (ups Y 5 m') := Ot.m5 (fun i hi => by rw [hY5]; exact a3 i hi)
          have hO3 := Ot.m6 (X := ups Y 5 m') (r := r) (v := nI (sz x - c))
          refine ⟨ups (ups Y 5 m') 6 (upd (ups Y 5 m' 6) r (nI (sz x - c))), ?_, ⟨by rw [sz_div]; omega, by rw [ups_s, pk_us, sz_div], fun j hj => ?_⟩, (hO.trans hO2 (fun _ w => w)).trans hO3 (fun _ w => w), ?_⟩
          · refine q_b1 m_p6 ?_
            rw [hY]
            refine q_bd0 a1 ?_
            refine q_b1 m_g5 ?_
            refine q_b1 (ld6 rfl hr) ?_
            rw [ups_n (by decide), hY6, h2, pk_sub hcs]
            refine q_b1 (st6 rfl hr) ?_
            rw [ups_n (by decide), hY6]
          · rw [sz_div] at hj
            rw [ups_n (by decide), ups_s, a2 j (by omega), Nat.add_assoc, h3 (j + c) (by omega), dg_div]
          · rw [ups_n (by decide), ups_n (by decide), ← hY, ups_s, pk_us]
        have mainL : ∀ v : Nat, (if 5 < f ∨ (f = 5 ∧ low ≠ 0) then 3 else if f = 5 then 2 else if 0 < f ∨ low ≠ 0 then 1 else 0) = v → ∃ X', f_X6_lower (mst σ o X) o (nI r) (lZ c) = some ((), mst σ o X', 0, 0) ∧ Rw X' r (x / 10 ^ c) ∧ Ot (fun q => q = r) X X' ∧ X' 0 0 = nI v := by
          intro v hv
          obtain ⟨X', b1, b2, b3, b4⟩ := fin v
          refine ⟨X', ?_, b2, b3, b4⟩
          unfold f_X6_lower
          refine q_ob m_o ?_
          refine q_b1 m_p6 ?_
          refine q_f hnb ?_
          refine q_b1 m_g5 ?_
          refine q_b1 (ld6 rfl hr) ?_
          rw [ups_n (by decide), h2]
          refine q_f (nI_ne0 hs (by omega)) ?_
          refine q_b1 m_g5 ?_
          refine q_b1 (ld6 rfl hr) ?_
          rw [ups_n (by decide), h2]
          refine q_t (by rw [nI_l (by omega)]; exact (pk_lLE (by omega) (by omega)).mpr hcs) ?_
          refine q_le (y := nI c) (lN_i c) ?_
          refine q_b1 m_g4 ?_
          obtain ⟨e, he⟩ : ∃ e, c = e + 1 := ⟨c - 1, by omega⟩
          refine q_b1 (ld5 (i := 17000 * r + (c - 1)) (by rw [he]; exact nI_r1) (by omega)) ?_
          rw [ups_n (by decide), h3 _ (by omega), hf]
          refine q_b1 hL ?_
          refine q_jn (q_jn ?_)
          by_cases c1 : 5 < f
          · rw [if_pos (Or.inl c1)] at hv
            subst hv
            exact q_t ((nI_ltI (a := 5) (by decide) (by omega)).mpr c1) b1
          · refine q_f (fun w => c1 ((nI_ltI (a := 5) (by decide) (by omega)).mp w)) (q_jn ?_)
            have tail : ¬ (f = 5 ∧ low ≠ 0) → ∀ (k15 : Int32 → Rs Unit), (k15 (nI v) = some ((), mst σ o X', 0, 0)) → (if nI f = 5 then k15 2 else if 0 < nI f then k15 1 else if bI (decide (low ≠ 0)) = 0 then k15 0 else k15 1) = some ((), mst σ o X', 0, 0) := by
              intro c2 k15 hk
              rw [if_neg (by omega)] at hv
              by_cases c3 : f = 5
              · rw [if_pos c3] at hv
                subst hv
                exact q_t (by rw [c3]; rfl) hk
              · rw [if_neg c3] at hv
                refine q_f (fun w => c3 ((nI_eq (by omega) (by decide)).mp (show nI f = nI 5 from w))) ?_
                by_cases c4 : 0 < f
                · rw [if_pos (Or.inl c4)] at hv
                  subst hv
                  exact q_t ((nI_ltI (a := 0) (by decide) (by omega)).mpr c4) hk
                · refine q_f (fun w => c4 ((nI_ltI (a := 0) (by decide) (by omega)).mp w)) ?_
                  by_cases c5 : low = 0
                  · rw [if_neg (by omega)] at hv
                    subst hv
                    exact q_t (by rw [decide_eq_false (fun w => w c5)]; rfl) hk
                  · rw [if_pos (Or.inr c5)] at hv
                    subst hv
                    exact q_f (by rw [decide_eq_true c5]; decide) hk
            by_cases c2 : f = 5
            · refine q_t (by rw [c2]; rfl) ?_
              by_cases c3 : low = 0
              · refine q_t (by rw [decide_eq_false (fun w => w c3)]; rfl) ?_
                exact tail (by omega) (fun z15 => (pF (mst σ o (ups X 0 (upd (X 0) 0 0))) 6 o 6 (.int z15)).bind fun σ16 => bd (f_X6_lower_L170 FU σ16 o (nI r) (nI c) (nI c)) fun y24 σ25 => (gR σ25 6 o 5).bind fun r26 => (ldI σ25 r26 (nI r)).bind fun x27 => (stI σ25 r26 (nI r) (x27 - nI c)).bind fun σ28 => some ((), σ28, 0, 0)) b1
              · rw [if_pos (Or.inr ⟨c2, c3⟩)] at hv
                subst hv
                exact q_f (by rw [decide_eq_true c3]; decide) b1
            · refine q_f (fun w => c2 ((nI_eq (by omega) (by decide)).mp (show nI f = nI 5 from w))) ?_
              exact tail (by omega) (fun z15 => (pF (mst σ o (ups X 0 (upd (X 0) 0 0))) 6 o 6 (.int z15)).bind fun σ16 => bd (f_X6_lower_L170 FU σ16 o (nI r) (nI c) (nI c)) fun y24 σ25 => (gR σ25 6 o 5).bind fun r26 => (ldI σ25 r26 (nI r)).bind fun x27 => (stI σ25 r26 (nI r) (x27 - nI c)).bind fun σ28 => some ((), σ28, 0, 0)) b1
        exact mainL _ rfl
      · have hlt : x < 10 ^ (c - 1) := sz_le.mp (by omega)
        have e10 : 10 ^ c = 10 ^ (c - 1) * 10 := by rw [← Nat.pow_succ]; congr 1; omega
        have hlt2 : x < 10 ^ c := by rw [e10]; omega
        rw [Nat.div_eq_of_lt hlt2, Nat.mod_eq_of_lt hlt2]
        have hlo : lostc x (10 ^ c) false = 1 := by
          unfold lostc
          rw [if_pos (by rw [e10]; omega), if_neg (by omega)]
        rw [hlo]
        obtain ⟨Y, hY⟩ : ∃ Y, ups (ups X 0 (upd (X 0) 0 0)) 0 (upd (ups X 0 (upd (X 0) 0 0) 0) 0 1) = Y := ⟨_, rfl⟩
        have hO : Ot (fun q => q = r) X Y := hY ▸ Ot.trans Ot.m0 (Ot.m0 (S := fun q => q = r)) (fun _ w => w)
        have hO3 := Ot.m6 (X := Y) (r := r) (v := 0)
        refine ⟨ups Y 6 (upd (Y 6) r 0), ?_, ⟨by rw [sz_0]; omega, by rw [ups_s, pk_us]; rfl, fun j hj => by rw [sz_0] at hj; omega⟩, hO.trans hO3 (fun _ w => w), by rw [ups_n (by decide), ← hY, ups_s, pk_us]; rfl⟩
        unfold f_X6_lower
        refine q_ob m_o ?_
        refine q_b1 m_p6 ?_
        refine q_f hnb ?_
        refine q_b1 m_g5 ?_
        refine q_b1 (ld6 rfl hr) ?_
        rw [ups_n (by decide), h2]
        refine q_f (nI_ne0 hs (by omega)) ?_
        refine q_b1 m_g5 ?_
        refine q_b1 (ld6 rfl hr) ?_
        rw [ups_n (by decide), h2]
        refine q_f (fun w => hcs (by rw [nI_l (by omega)] at w; exact (pk_lLE (by omega) (by omega)).mp w)) ?_
        refine q_b1 m_p6 ?_
        rw [hY]
        refine q_b1 m_g5 ?_
        exact q_b1 (st6 rfl hr) rfl
end ML
