theorem law_pure : LawPure := by
  intro n0 tT b N xs f hN hb hT hf hbt
  have hF := FU_ge
  obtain ⟨σ, hσ⟩ : ∃ σ, iSt n0 tT b N xs f = σ := ⟨_, rfl⟩
  rw [hσ]
  have s1 : σ.2.1 = n0 := by rw [← hσ]; rfl
  have s2 : σ.2.2 = tT := by rw [← hσ]; rfl
  have sc : ∀ q, σ.1 q = if q = b then some (.inr (.inr (N, xs))) else if q = tT then some (.inr (.inr (10, f))) else none := fun q => by rw [← hσ]; rfl
  have hD : Dm σ := fun q hq => by rw [sc, if_neg (by omega), if_neg (by omega)]
  have hTN : TN σ := by
    by_cases e : tT = b
    · obtain ⟨e1, e2⟩ := hbt e.symm
      refine ⟨xs, ?_, fun j hj => by rw [e2 j hj, hf j hj]; rfl⟩
      rw [s2, sc, if_pos e, e1]
    · refine ⟨f, ?_, fun j hj => by rw [hf j hj]; rfl⟩
      rw [s2, sc, if_neg e, if_pos rfl]
  have main : Ye (f_L_law σ b) (fun r _ k s => r = 1 ∧ k ≤ 600000 ∧ s ≤ 7302250) := by
    unfold f_L_law
    refine e_nw ?_
    have e0 : nwH σ (.inr (.inl (5, [.null, .null, .null, .null, .null, .null, .null, .null]))) = adL σ [.inr (.inl (5, [.null, .null, .null, .null, .null, .null, .null, .null]))] := by
      have := ad_nw (σ := σ) (es := []) (e := .inr (.inl (5, [.null, .null, .null, .null, .null, .null, .null, .null])))
      rwa [ad_nil] at this
    rw [e0]
    refine e_bd (t_cinit (σ := σ)) ?_
    rintro u σ3 kc sc' ⟨g, rfl, hg, hk, hs⟩
    have ci := t_ci0 hg hD hTN
    have hlen : (adL σ (b14 σ.2.1 g ++ rgs σ.2.1 8)).2.1 = σ.2.1 + 38 := by
      rw [ad_n, List.length_append, rgs_len]; rfl
    obtain ⟨σ3, hσ3⟩ : ∃ σ3, adL σ (b14 σ.2.1 g ++ rgs σ.2.1 8) = σ3 := ⟨_, rfl⟩
    have b3 : σ3.1 b = some (.inr (.inr (N, xs))) := by rw [← hσ3, ad_old (by omega), sc, if_pos rfl]
    rw [hσ3] at ci hlen ⊢
    refine e_nw ?_
    have e1 : nwH σ3 (.inr (.inl (6, [.null, .null, .null, .null, .null, .null, .int 0, .int 0, .null, .int 0, .null]))) = adL σ3 [.inr (.inl (6, [.null, .null, .null, .null, .null, .null, .int 0, .int 0, .null, .int 0, .null]))] := by
      have := ad_nw (σ := σ3) (es := []) (e := .inr (.inl (6, [.null, .null, .null, .null, .null, .null, .int 0, .int 0, .null, .int 0, .null])))
      rwa [ad_nil] at this
    rw [e1]
    refine e_bd (t_minit (σ := σ3)) ?_
    rintro u σ6 k6 s6 ⟨rfl, hk6, hs6⟩
    have li : LI σ.2.1 b N xs (adL σ3 (m9 σ3.2.1)) (L0 σ.2.1) c0 (fun _ => 0) A0 E0 E0 X0 A0 E0 E0 := by
      refine ⟨ci.fr0 ad_fr, ?_, rg0, tx0, wx0, ?_, fun i hi => ?_, ?_, by omega⟩
      · have := t_mself (σ := σ3)
        rwa [hlen] at this ⊢
      · rw [ad_old (by omega)]; exact b3
      · unfold L0
        left
        repeat' split
        all_goals omega
      · rw [ad_n, hlen]
        show σ.2.1 + 47 ≤ σ.2.1 + 38 + 9
        omega
    have lp := t_law_loop hN FU 0 _ _ _ _ _ _ _ _ (by omega) (by omega) li
    rw [hlen] at lp ⊢
    refine e_bd lp ?_
    rintro u σ7 k7 s7 ⟨z1, z2⟩
    refine e_ret ⟨rfl, ?_, ?_⟩
    · omega
    · omega
  obtain ⟨r, σ', k, s, h1, h2, h3, h4⟩ := main
  subst h2
  exact ⟨σ', k, s, h1, h3, h4⟩
