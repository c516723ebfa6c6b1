section DR
variable {σ : St} {a L c x : Nat}
/-- the end that most methods share: F has been laid into L', the count is N, then trim -/
theorem fin_trim {σ2 : St} {L' c' n N k s : Nat} {f' F : Nat → Int32} {G : Nat → Nat} (m1 : σ2.1 a = some (OO L' n)) (m2 : σ2.1 L' = some (AA c' f')) (m7 : L' = L ∨ σ.2.1 ≤ L') (m8 : Fr (fun q => q = a ∨ q = L) σ σ2) (hF : ∀ j, j < N → F j = nI (G j)) (hN : N ≤ c') (hc' : c' ≤ 4000) (hG : ∀ j, j < N → G j < BS) (hcc : c ≤ c') (hks : k ≤ s) (hs : s + 2 * c ≤ 2 * c') :
    ∃ σ3, f_X2_trim (stH (stH σ2 L' (AA c' F)) a (OO L' N)) a = some ((), σ3, 0, 0) ∧ PN σ a L c (vl BS G N) () σ3 k s := by
  have hL' : L' ≠ a := ne_AO m2 m1
  obtain ⟨n', t1, t2, t3⟩ := t_trimV (σ := stH (stH σ2 L' (AA c' F)) a (OO L' N)) (a := a) (L := L') (c := c') (n := N) (g := G) stH_s (by rw [stH_n hL', stH_s]) hF hN hc' hG
  refine ⟨_, t2, L', c', t3, m7, ?_, hcc, hks, hs⟩
  have q1 : (stH σ2 L' (AA c' F)).1 a = some (OO L' n) := by rw [stH_n hL'.symm]; exact m1
  have f1 : Fr (fun q => q = L') σ2 (stH σ2 L' (AA c' F)) := Fr.st m2 rfl
  have f2 : Fr (fun q => q = a) (stH σ2 L' (AA c' F)) (stH (stH σ2 L' (AA c' F)) a (OO L' N)) := Fr.st q1 rfl
  have f3 : Fr (fun q => q = a) (stH (stH σ2 L' (AA c' F)) a (OO L' N)) (stH (stH (stH σ2 L' (AA c' F)) a (OO L' N)) a (OO L' n')) := Fr.st stH_s rfl
  refine ((m8.trans f1 (fun q hq z => ?_)).trans f2 (fun q _ z => Or.inl z)).trans f3 (fun q _ z => Or.inl z)
  rcases m7 with w2 | w2
  · exact Or.inr (z.trans w2)
  · omega
def dpU (lo hi : Nat) (h : Nat → Nat) (j : Nat) : Nat := h j / lo + h (j + 1) % lo * hi
theorem dp_sum {lo hi : Nat} {h : Nat → Nat} (e : lo * hi = BS) : ∀ t : Nat, lo * vl BS (dpU lo hi h) t + h 0 % lo = vl BS h t + h t % lo * BS ^ t
  | 0 => by simp [vl]
  | t + 1 => by
    have ih := dp_sum (h := h) e t
    show lo * (vl BS (dpU lo hi h) t + dpU lo hi h t * BS ^ t) + h 0 % lo = vl BS h t + h t * BS ^ t + h (t + 1) % lo * BS ^ (t + 1)
    have e1 : lo * (dpU lo hi h t * BS ^ t) = lo * (h t / lo) * BS ^ t + h (t + 1) % lo * BS ^ (t + 1) := by
      unfold dpU
      rw [Nat.add_mul, Nat.mul_add, ← Nat.mul_assoc]
      congr 1
      rw [Nat.pow_succ, ← e]
      rw [Nat.mul_comm (h (t + 1) % lo) hi, ← Nat.mul_assoc lo, ← Nat.mul_assoc lo, Nat.mul_comm (h (t + 1) % lo)]
      rw [Nat.mul_right_comm (lo * hi), Nat.mul_comm ((lo * hi) ^ t) (lo * hi)]
    have e2 : h t % lo * BS ^ t + lo * (h t / lo) * BS ^ t = h t * BS ^ t := by rw [← Nat.add_mul, Nat.mod_add_div]
    rw [Nat.mul_add, e1]
    omega
theorem dp_lt {lo hi : Nat} {h : Nat → Nat} {j : Nat} (e : lo * hi = BS) (hh : h j < BS) (h0 : 0 < lo) : dpU lo hi h j < BS := by
  unfold dpU
  have h1 : h j / lo < hi := by rw [Nat.div_lt_iff_lt_mul h0, Nat.mul_comm, e]; exact hh
  have h2 : h (j + 1) % lo + 1 ≤ lo := Nat.mod_lt _ h0
  have h3 := Nat.mul_le_mul_right hi h2
  rw [Nat.add_mul, Nat.one_mul, e] at h3
  omega
theorem t_drop_loop {n down lo hi : Nat} {g : Nat → Nat} (h1 : σ.1 a = some (OO L n)) (h2 : ∃ f, σ.1 L = some (AA c f)) (h4 : n ≤ c) (h5 : c ≤ 4000) (h6 : ∀ j, j < n → g j < BS) (e : lo * hi = BS) (h0 : 0 < lo) (hd : down < n) : ∀ (k i : Nat) (F : Nat → Int32), n - down - 1 - i < k → i ≤ n - down - 1 → (∀ j, j < i → F j = nI (dpU lo hi (fun t => g (t + down)) j)) → (∀ j, i ≤ j → j < n → F j = nI (g j)) →
    ∃ F', f_X2_drop_L57 k (stH σ L (AA c F)) a (nI down) (nI lo) (nI hi) (nI (n - down)) (nI i) = some ((), stH σ L (AA c F'), 0, 0) ∧ (∀ j, j < n - down - 1 → F' j = nI (dpU lo hi (fun t => g (t + down)) j)) ∧ (∀ j, n - down - 1 ≤ j → j < n → F' j = nI (g j)) := by
  intro k
  induction k with
  | zero => intro i F h; omega
  | succ k ih =>
    intro i F hk hi' g1 g2
    obtain ⟨f, h2⟩ := h2
    show ∃ F', b_X2_drop_L57 (f_X2_drop_L57 k) _ a _ _ _ _ _ = _ ∧ _
    unfold b_X2_drop_L57
    have e1 : nI (n - down) - 1 = nI (n - down - 1) := pk_sub (b := 1) (by omega)
    have eB : BS = 1000000000 := rfl
    have hlo : lo ≤ BS := by
      rcases Nat.eq_zero_or_pos hi with w | w
      · rw [w] at e; omega
      · rw [← e]; exact Nat.le_mul_of_pos_right _ w
    have hhi : hi ≤ BS := by rw [← e]; exact Nat.le_mul_of_pos_left _ h0
    by_cases hi2 : i = n - down - 1
    · subst hi2
      exact ⟨F, q_t (by rw [e1]; exact nI_le (Nat.le_refl _) (by omega)) rfl, g1, g2⟩
    · have hx : (stH σ L (AA c F)).1 a = some (OO L n) := by rw [stH_n (ne_OA h2 h1)]; exact h1
      have hb1 := h6 (i + down) (by omega)
      have hb2 := h6 (i + down + 1) (by omega)
      have hlt := dp_lt (h := fun t => g (t + down)) (j := i) e hb1 h0
      have ed : dpU lo hi (fun t => g (t + down)) i = g (i + down) / lo + g (i + down + 1) % lo * hi := by
        unfold dpU
        show g (i + down) / lo + g (i + 1 + down) % lo * hi = _
        rw [show i + 1 + down = i + down + 1 by omega]
      obtain ⟨F', i1, i2, i3⟩ := ih (i + 1) (upd F i (nI (dpU lo hi (fun t => g (t + down)) i))) (by omega) (by omega) (fun j hj => by
        by_cases hj2 : j = i
        · rw [hj2, pk_us]
        · rw [pk_un hj2]; exact g1 j (by omega)) (fun j hj1 hj2 => by rw [pk_un (by omega)]; exact g2 j (by omega) hj2)
      refine ⟨F', ?_, i2, i3⟩
      refine q_f (by rw [e1]; exact nI_ge (by omega) (by omega)) ?_
      refine q_b1 (gR_eq hx rfl) ?_
      refine q_b1 (gR_eq hx rfl) ?_
      refine q_b1 (ldI_eq (i := i + down) stH_s (nI_add _ _) (by omega) (by omega)) ?_
      rw [g2 (i + down) (by omega) (by omega)]
      refine q_b1 (dvI_eq rfl rfl (bs_lt hb1) h0 (by omega)) ?_
      refine q_b1 (gR_eq hx rfl) ?_
      refine q_b1 (ldI_eq (i := i + down + 1) stH_s (by rw [nI_add, nI_1]) (by omega) (by omega)) ?_
      rw [g2 (i + down + 1) (by omega) (by omega)]
      refine q_b1 (rmI_eq rfl rfl (bs_lt hb2) h0 (by omega)) ?_
      refine q_b1 (stI_eq (i := i) stH_s rfl (by omega) (by omega)) ?_
      rw [pk_mul, nI_add, ← ed, stH_stH]
      exact q_le (nI_1 i) i1
theorem t_drop {k : Nat} {z : Int32} (hT : TN σ) (h : NV σ a L c x) (hz : z = nI k) (hk : k < 2 ^ 31) : Ye (f_X2_drop σ a z) (PN σ a L c (x / 10 ^ k)) := by
  subst hz
  obtain ⟨n, g, f, h1, h2, h3, h4, h5, h6, h7, h8⟩ := h.split
  unfold f_X2_drop
  refine e_ob h1 ?_
  rcases Nat.eq_zero_or_pos k with w | w
  · subst w
    refine e_f (show ¬ (0 : Int32) < nI 0 by decide) ?_
    refine e_ret ⟨L, c, ?_, Or.inl rfl, Fr.rf, Nat.le_refl _, Nat.le_refl _, by omega⟩
    rw [Nat.pow_zero, Nat.div_one]
    exact h
  · refine e_t ((nI_ltI (a := 0) (by decide) hk).mpr w) ?_
    refine e_b1 (dvI_eq (b := 9) rfl rfl hk (by decide) (by decide)) ?_
    refine e_b1 (gI_eq h1 rfl) ?_
    by_cases hd : k / 9 < n
    · refine e_t ((nI_ltI (by omega) (by omega)).mpr hd) ?_
      have r9 := rmI_eq (x := nI k) (y := 9) (b := 9) rfl rfl hk (by decide) (by decide)
      refine e_b1 r9 ?_
      refine e_b1 (tens hT rfl (by omega)) ?_
      refine e_b1 r9 ?_
      refine e_b1 (tens hT (i := 9 - k % 9) (pk_sub (a := 9) (by omega)) (by omega)) ?_
      refine e_b1 (gI_eq h1 rfl) ?_
      refine e_le (x := nI (n - k / 9)) (pk_sub (by omega)) ?_
      have e : 10 ^ (k % 9) * 10 ^ (9 - k % 9) = BS := by rw [← Nat.pow_add, show k % 9 + (9 - k % 9) = 9 by omega]
      have h0 : 0 < 10 ^ (k % 9) := Nat.pow_pos (by decide)
      have hFU := FU_ge
      obtain ⟨F', l1, l2, l3⟩ := t_drop_loop h1 ⟨f, h2⟩ h4 h5 h6 e h0 hd FU 0 f (by omega) (by omega) (fun j hj => by omega) (fun j _ hj => h3 j hj)
      rw [stH_self h2] at l1
      refine e_bd0 l1 ?_
      have q1 : (stH σ L (AA c F')).1 a = some (OO L n) := by rw [stH_n (ne_OA h2 h1)]; exact h1
      refine e_b1 (gR_eq q1 rfl) ?_
      refine e_b1 (gR_eq q1 rfl) ?_
      refine e_b1 (gI_eq q1 rfl) ?_
      refine e_b1 (ldI_eq (i := n - 1) stH_s (pk_sub (b := 1) (by omega)) (by omega) (by omega)) ?_
      rw [l3 (n - 1) (by omega) (by omega)]
      refine e_b1 (dvI_eq rfl rfl (bs_lt (h6 (n - 1) (by omega))) h0 (p10_lt (by omega))) ?_
      refine e_b1 (stI_eq (i := n - k / 9 - 1) stH_s (pk_sub (b := 1) (by omega)) (by omega) (by omega)) ?_
      rw [stH_stH]
      have q2 : (stH σ L (AA c (upd F' (n - k / 9 - 1) (nI (g (n - 1) / 10 ^ (k % 9)))))).1 a = some (OO L n) := by rw [stH_n (ne_OA h2 h1)]; exact h1
      refine e_b1 (pF_eq q2 (Nat.le_of_ble_eq_true rfl)) ?_
      let hh : Nat → Nat := fun t => g (t + k / 9)
      let G : Nat → Nat := fun j => if j < n - k / 9 - 1 then dpU (10 ^ (k % 9)) (10 ^ (9 - k % 9)) hh j else g (n - 1) / 10 ^ (k % 9)
      obtain ⟨σ3, t1, t2⟩ := fin_trim (σ := σ) (a := a) (L := L) (c := c) (N := n - k / 9) (k := 0) (s := 0) (F := upd F' (n - k / 9 - 1) (nI (g (n - 1) / 10 ^ (k % 9)))) (G := G) h1 h2 (Or.inl rfl) Fr.rf (fun j hj => by
        by_cases hj2 : j < n - k / 9 - 1
        · have e2 : G j = dpU (10 ^ (k % 9)) (10 ^ (9 - k % 9)) hh j := if_pos hj2
          rw [pk_un (by omega), e2, l2 j hj2]
        · have e2 : G j = g (n - 1) / 10 ^ (k % 9) := if_neg hj2
          have hj3 : j = n - k / 9 - 1 := by omega
          rw [e2, hj3, pk_us]) (by omega) h5 (fun j hj => by
        by_cases hj2 : j < n - k / 9 - 1
        · have e2 : G j = dpU (10 ^ (k % 9)) (10 ^ (9 - k % 9)) hh j := if_pos hj2
          rw [e2]; exact dp_lt e (h6 _ (by omega)) h0
        · have e2 : G j = g (n - 1) / 10 ^ (k % 9) := if_neg hj2
          rw [e2]; exact Nat.lt_of_le_of_lt (Nat.div_le_self _ _) (h6 _ (by omega))) (Nat.le_refl _) (Nat.le_refl _) (by omega)
      refine e_bd0 t1 ?_
      have hval : vl BS G (n - k / 9) = x / 10 ^ k := by
        obtain ⟨t, ht⟩ : ∃ t, n - k / 9 = t + 1 := ⟨n - k / 9 - 1, by omega⟩
        have e3 : vl BS hh (n - k / 9) = x / 10 ^ (9 * (k / 9)) := by
          rw [← h8, ← BS_pow]
          have e4 := vl_div (B := BS) (g := g) (a := k / 9) (b := n - k / 9) (fun j hj => h6 j (by omega))
          rw [show k / 9 + (n - k / 9) = n by omega] at e4
          rw [e4]
          exact vl_congr (fun j _ => by show g (j + k / 9) = g (k / 9 + j); rw [Nat.add_comm])
        have e5 := dp_sum (h := hh) e t
        have e6 : vl BS G (t + 1) = vl BS (dpU (10 ^ (k % 9)) (10 ^ (9 - k % 9)) hh) t + hh t / 10 ^ (k % 9) * BS ^ t := by
          show vl BS G t + G t * BS ^ t = _
          have e7 : G t = g (n - 1) / 10 ^ (k % 9) := if_neg (by omega)
          have e8 : hh t = g (n - 1) := by show g (t + k / 9) = _; congr 1; omega
          rw [e7, e8, vl_congr (g' := dpU (10 ^ (k % 9)) (10 ^ (9 - k % 9)) hh) (fun j hj => if_pos (by omega))]
        have e9 : 10 ^ (k % 9) * vl BS G (t + 1) + hh 0 % 10 ^ (k % 9) = vl BS hh (t + 1) := by
          rw [e6]
          show _ = vl BS hh t + hh t * BS ^ t
          have e10 : hh t % 10 ^ (k % 9) * BS ^ t + 10 ^ (k % 9) * (hh t / 10 ^ (k % 9)) * BS ^ t = hh t * BS ^ t := by rw [← Nat.add_mul, Nat.mod_add_div]
          rw [Nat.mul_add, ← Nat.mul_assoc (10 ^ (k % 9)) (hh t / _)]
          omega
        rw [ht]
        rw [ht] at e3
        have e11 : x / 10 ^ k = x / 10 ^ (9 * (k / 9)) / 10 ^ (k % 9) := by rw [Nat.div_div_eq_div_mul, ← Nat.pow_add, show 9 * (k / 9) + k % 9 = k by omega]
        rw [e11, ← e3, ← e9, Nat.add_comm (10 ^ (k % 9) * _), Nat.add_mul_div_left _ _ h0, Nat.div_eq_of_lt (Nat.mod_lt _ h0), Nat.zero_add]
      rw [hval] at t2
      exact e_ret t2
    · refine e_f (fun z => hd ((nI_ltI (by omega) (by omega)).mp z)) ?_
      refine e_b1 (pF_eq h1 (Nat.le_of_ble_eq_true rfl)) ?_
      have hx : x / 10 ^ k = 0 := Nat.div_eq_of_lt (by
        rw [← h8]
        have := vl_lt h6
        rw [BS_pow] at this
        exact Nat.lt_of_lt_of_le this (p10_le (by omega)))
      rw [hx]
      exact e_ret ⟨L, c, NV.mk (n := 0) (g := g) stH_s (by rw [stH_n (ne_AO h2 h1)]; exact h2) (fun j hj => by omega) (by omega) h5 (fun j hj => by omega) (fun hj => by omega) rfl, Or.inl rfl, Fr.st h1 (Or.inl rfl), Nat.le_refl _, Nat.le_refl _, by omega⟩
end DR
