section ST3
variable {σ : St}
theorem mst_self {o : Nat} {X : Nat → Nat → Int32} (h0 : σ.1 o = some (mob o X)) (h1 : ∀ k, 0 < k → k ≤ 8 → σ.1 (o + k) = some (AA (ln k) (X k))) : mst σ o X = σ := by
  unfold mst
  obtain ⟨f, n⟩ := σ
  congr 1
  funext q
  by_cases hq : q = o
  · rw [if_pos hq, hq]; exact h0.symm
  · rw [if_neg hq]
    by_cases h2 : o < q ∧ q ≤ o + 8
    · rw [if_pos h2]
      have := h1 (q - o) (by omega) (by omega)
      rw [show o + (q - o) = q by omega] at this
      exact this.symm
    · rw [if_neg h2]
theorem t_mself : mst (adL σ (m9 σ.2.1)) σ.2.1 X0 = adL σ (m9 σ.2.1) := by
  refine mst_self (ad_at (i := 0) rfl) (fun k h1 h2 => ?_)
  have h : k = 1 ∨ k = 2 ∨ k = 3 ∨ k = 4 ∨ k = 5 ∨ k = 6 ∨ k = 7 ∨ k = 8 := by omega
  rcases h with rfl | rfl | rfl | rfl | rfl | rfl | rfl | rfl
  · exact ad_at (i := 1) rfl
  · exact ad_at (i := 2) rfl
  · exact ad_at (i := 3) rfl
  · exact ad_at (i := 4) rfl
  · exact ad_at (i := 5) rfl
  · exact ad_at (i := 6) rfl
  · exact ad_at (i := 7) rfl
  · exact ad_at (i := 8) rfl
theorem rg0 : RG X0 A0 := ⟨ok_A0, fun i _ => ⟨rfl, fun j hj => absurd hj (by show ¬ j < sz 0; rw [sz_0]; omega), rfl, rfl⟩⟩
theorem tx0 : TX X0 E0 := ⟨rfl, by decide, fun j hj => absurd hj (Nat.not_lt_zero j)⟩
theorem wx0 : WX X0 E0 := ⟨rfl, by decide, fun j hj => absurd hj (Nat.not_lt_zero j)⟩
end ST3
