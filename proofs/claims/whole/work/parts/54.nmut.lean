/-- behind a method that makes the Natural a worth y -/
def PN (σ : St) (a L c y : Nat) : Unit → St → Nat → Nat → Prop := fun _ σ' k s => ∃ L' c', NV σ' a L' c' y ∧ (L' = L ∨ σ.2.1 ≤ L') ∧ Fr (fun q => q = a ∨ q = L) σ σ' ∧ c ≤ c' ∧ k ≤ s ∧ s + 2 * c ≤ 2 * c'
section MU
variable {σ : St} {a L c x : Nat}
theorem TN.fr {S : Nat → Prop} {σ' : St} (hT : TN σ) (hD : Dm σ) (hF : Fr S σ σ') (hS : ¬ S σ.2.2) : TN σ' := by
  obtain ⟨f, h1, h2⟩ := hT
  refine ⟨f, ?_, h2⟩
  rw [hF.2.2.1]
  exact hF.at hD h1 hS
theorem TN.neO (hT : TN σ) {o : Nat × List Value} (h : σ.1 a = some (.inr (.inl o))) : σ.2.2 ≠ a := fun e => by
  obtain ⟨f, h1, h2⟩ := hT
  rw [e, h] at h1
  cases h1
theorem TN.neA (hT : TN σ) {y : FieldType × vp_A} (h : σ.1 a = some (.inl y)) : σ.2.2 ≠ a := fun e => by
  obtain ⟨f, h1, h2⟩ := hT
  rw [e, h] at h1
  cases h1
theorem NV.ob (h : NV σ a L c x) : ∃ n, σ.1 a = some (OO L n) := by
  obtain ⟨n, g, f, h1, -⟩ := h.split
  exact ⟨n, h1⟩
theorem NV.ar (h : NV σ a L c x) : ∃ f, σ.1 L = some (AA c f) := by
  obtain ⟨n, g, f, h1, h2, -⟩ := h.split
  exact ⟨f, h2⟩
theorem NV.ne (h : NV σ a L c x) : a ≠ L := by
  obtain ⟨n, g, f, h1, h2, -⟩ := h.split
  exact ne_OA h2 h1
theorem NV.tn (h : NV σ a L c x) (hT : TN σ) : ¬ (σ.2.2 = a ∨ σ.2.2 = L) := by
  obtain ⟨n, g, f, h1, h2, -⟩ := h.split
  rintro (e | e)
  · exact hT.neO h1 e
  · exact hT.neA h2 e
theorem NV.fr {S : Nat → Prop} {σ' : St} (h : NV σ a L c x) (hD : Dm σ) (hF : Fr S σ σ') (ha : ¬ S a) (hL : ¬ S L) : NV σ' a L c x := by
  obtain ⟨n, g, f, h1, h2, h3⟩ := h.split
  exact NV.mk (hF.at hD h1 ha) (hF.at hD h2 hL) h3.1 h3.2.1 h3.2.2.1 h3.2.2.2.1 h3.2.2.2.2.1 h3.2.2.2.2.2
theorem NV.cap (h : NV σ a L c x) : c ≤ 4000 := by
  obtain ⟨n, g, f, h1, h2, h3, h4, h5, -⟩ := h.split
  exact h5
theorem t_clear (h : NV σ a L c x) : Ye (f_X2_clear σ a) (PN σ a L c 0) := by
  obtain ⟨n, g, f, h1, h2, h3, h4, h5, h6, h7, h8⟩ := h.split
  refine e_eq (r := ()) (σ := stH σ a (OO L 0)) (k := 0) (s := 0) ?_ ⟨L, c, NV.mk (n := 0) (g := g) stH_s (by rw [stH_n (ne_AO h2 h1)]; exact h2) (fun j hj => by omega) (by omega) h5 (fun j hj => by omega) (fun hj => by omega) rfl, Or.inl rfl, Fr.st h1 (Or.inl rfl), Nat.le_refl _, Nat.le_refl _, by omega⟩
  unfold f_X2_clear
  refine q_ob h1 ?_
  exact q_b1 (pF_eq h1 (Nat.le_of_ble_eq_true rfl)) rfl
/-- the end of a method that has laid n limbs into L and trims them -/
theorem t_trimV {n : Nat} {g : Nat → Nat} {f : Nat → Int32} (h1 : σ.1 a = some (OO L n)) (h2 : σ.1 L = some (AA c f)) (h3 : ∀ j, j < n → f j = nI (g j)) (h4 : n ≤ c) (h5 : c ≤ 4000) (h6 : ∀ j, j < n → g j < BS) : ∃ n', n' ≤ n ∧ f_X2_trim σ a = some ((), stH σ a (OO L n'), 0, 0) ∧ NV (stH σ a (OO L n')) a L c (vl BS g n) := by
  obtain ⟨n', g1, g2, g3, g4⟩ := t_trim h1 h2 h4 (by omega)
  refine ⟨n', g1, g2, NV.mk (n := n') (g := g) stH_s (by rw [stH_n (ne_AO h2 h1)]; exact h2) (fun j hj => h3 j (by omega)) (by omega) h5 (fun j hj => h6 j (by omega)) (fun hp => ?_) ?_⟩
  · have := g4 hp
    rw [h3 (n' - 1) (by omega)] at this
    exact Nat.pos_of_ne_zero fun z => this (by rw [z]; rfl)
  · refine (vl_pad g1 (fun j hj1 hj2 => ?_)).symm
    have := g3 j hj1 hj2
    rw [h3 j hj2] at this
    exact (nI_z (h6 j hj2)).mp this
theorem t_become {b Lb cb y : Nat} (hD : Dm σ) (h : NV σ a L c x) (hb : NV σ b Lb cb y) (hab : a ≠ b → L ≠ Lb) (hE : a = b → L = Lb) (hy : y < 10 ^ Em) : Ye (f_X2_become σ a b) (PN σ a L c y) := by
  obtain ⟨n, g, f, h1, h2, h3, h4, h5, h6, h7, h8⟩ := h.split
  obtain ⟨m, gb, fb, k1, k2, k3, k4, k5, k6, k7, k8⟩ := hb.split
  have hm : m ≤ 1889 := by
    rcases Nat.eq_zero_or_pos m with w | w
    · omega
    · have := nm_pos k7 w
      rw [k8, BS_pow] at this
      have := p10_inj (Nat.lt_of_le_of_lt this hy)
      have hEm : Em = 17000 := rfl
      omega
  unfold f_X2_become
  refine e_ob h1 ?_
  refine e_b1 (gI_eq k1 rfl) ?_
  refine e_bd (t_makeRoom hD h1 h2 rfl (by omega) (by omega)) ?_
  rintro _ σ2 kc sc ⟨L', c', f', m1, m2, m3, m4, m5, m6, m7, m8, m9, m10, -⟩
  have hD2 := m8.2.2.2 hD
  have hL' : L' ≠ a := ne_AO m2 m1
  have hc' : c' ≤ 4000 := by have h9 : max c (2 * m) ≤ 4000 := Nat.max_le.mpr ⟨h5, by omega⟩; omega
  by_cases e : a = b
  · subst e
    have hx := hE rfl
    subst hx
    have hnm : n = m := by
      have h9 := Option.some.inj (h1.symm.trans k1)
      have h10 : nI n = nI m := by simpa using h9
      exact (nI_eq (by omega) (by omega)).mp h10
    subst hnm
    refine e_b1 (gR_eq m1 rfl) ?_
    refine e_b1 (gR_eq m1 rfl) ?_
    refine e_b1 (gI_eq m1 rfl) ?_
    refine e_b1 (cpy_eq m2 m2 (sp := 0) (dp := 0) (n := n) rfl rfl rfl (by omega) (by omega) (by omega) (by omega)) ?_
    have hself : va_cpy f' f' 0 0 n = f' := by
      funext j
      unfold va_cpy
      split
      · congr 1; omega
      · rfl
    rw [hself, stH_self m2]
    refine e_b1 (gI_eq m1 rfl) ?_
    refine e_b1 (pF_eq m1 (Nat.le_of_ble_eq_true rfl)) ?_
    have hs : stH σ2 a (.inr (.inl (2, [Value.ref L', .int (nI n)].set 1 (.int (nI n))))) = σ2 := stH_self m1
    rw [hs]
    refine e_ret ⟨L', c', NV.mk m1 m2 (fun j hj => (m6 j (by omega)).trans (by
      have hff : f = fb := by have h9 := Option.some.inj (h2.symm.trans k2); simp at h9; exact h9.2
      rw [hff]; exact k3 j hj)) (by omega) hc' k6 k7 k8, m7, m8.mono (fun q _ z => Or.inl z), m4, by omega, by omega⟩
  · have hne := hab e
    have kb1 : σ2.1 b = some (OO Lb m) := m8.at hD k1 (fun z => e z.symm)
    have kb2 : σ2.1 Lb = some (AA cb fb) := m8.at hD k2 (fun z => ne_AO k2 h1 z)
    have hLL : L' ≠ Lb := by
      rcases m7 with z | z
      · rw [z]; exact hne
      · have := hD.lt k2
        omega
    refine e_b1 (gR_eq kb1 rfl) ?_
    refine e_b1 (gR_eq m1 rfl) ?_
    refine e_b1 (gI_eq kb1 rfl) ?_
    refine e_b1 (cpy_eq kb2 m2 (sp := 0) (dp := 0) (n := m) rfl rfl rfl (by omega) (by omega) (by omega) (by omega)) ?_
    have kb3 : (stH σ2 L' (AA c' (va_cpy fb f' 0 0 m))).1 b = some (OO Lb m) := by rw [stH_n (ne_OA m2 kb1)]; exact kb1
    have km1 : (stH σ2 L' (AA c' (va_cpy fb f' 0 0 m))).1 a = some (OO L' n) := by rw [stH_n hL'.symm]; exact m1
    refine e_b1 (gI_eq kb3 rfl) ?_
    refine e_b1 (pF_eq km1 (Nat.le_of_ble_eq_true rfl)) ?_
    refine e_ret ⟨L', c', NV.mk (n := m) (g := gb) (f := va_cpy fb f' 0 0 m) stH_s ?_ (fun j hj => ?_) m3 hc' k6 k7 k8, m7, ?_, m4, by omega, by omega⟩
    · rw [stH_n hL', stH_s]
    · rw [pk_cpy_in (Nat.zero_le _) (by omega), ← k3 j hj]
      congr 1
      omega
    · have f1 : Fr (fun q => q = L') σ2 (stH σ2 L' (AA c' (va_cpy fb f' 0 0 m))) := Fr.st m2 rfl
      have f2 : Fr (fun q => q = a) (stH σ2 L' (AA c' (va_cpy fb f' 0 0 m))) (stH (stH σ2 L' (AA c' (va_cpy fb f' 0 0 m))) a (.inr (.inl (2, [Value.ref L', .int (nI n)].set 1 (.int (nI m)))))) := Fr.st km1 rfl
      refine ((m8.mono (S1 := fun q => q = a ∨ q = L) (fun q _ z => Or.inl z)).trans f1 (fun q hq z => ?_)).trans f2 (fun q _ z => Or.inl z)
      rcases m7 with w | w
      · exact Or.inr (z.trans w)
      · omega
end MU
