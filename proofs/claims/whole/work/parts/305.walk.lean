set_option maxHeartbeats 4000000 in
set_option maxRecDepth 100000 in
theorem m_X5_goesFarther {G : Gm} {l : Launch} {σ : St} {i0 : Int32} {i1 : Int32} {i2 : Int32} {i3 : Int32} {r : Int32} (hf : f_X5_goesFarther σ i0 i1 i2 i3 = some r) : Ct G l y_X5_goesFarther prog_1_method_36_code 4 (some .boolean) 0 0 [.int i0, .int i1, .int i2, .int i3] σ (some (.int r)) σ 0 0 := by
  unfold f_X5_goesFarther at hf
  refine Ct.ofV pl_X5_goesFarther (Nat.le_of_ble_eq_true rfl) ?_
  intro K hR hN hnm hC hE
  show V K 0 0 σ 0 [(0, .int i0), (1, .int i1), (2, .int i2), (3, .int i3)] []
  refine v_iload_n hC 1 dX5_goesFarther_0 rfl ?_
  refine v_if_ne hC hf dX5_goesFarther_1 (tgt := 6) (by decide) (fun hf => ?_) (fun hf => ?_)
  · refine v_iload_n hC 0 dX5_goesFarther_6 rfl ?_
    by_cases hx0 : i0 = 0
    · rw [if_pos hx0] at hf
      refine v_tabIn hC dX5_goesFarther_7 (by rw [hx0]; decide) (by rw [hx0]; decide) (off := 41) (by rw [hx0]; decide) (tgt := 48) (by decide) ?_
      refine v_iconst (v := 1) hC dX5_goesFarther_48 (by decide) ?_
      exact v_retZP hC hf hE dX5_goesFarther_49
    · rw [if_neg hx0] at hf
      by_cases hx2 : i0 = 2
      · rw [if_pos hx2] at hf
        refine v_tabIn hC dX5_goesFarther_7 (by rw [hx2]; decide) (by rw [hx2]; decide) (off := 43) (by rw [hx2]; decide) (tgt := 50) (by decide) ?_
        refine v_iload_n hC 2 dX5_goesFarther_50 rfl ?_
        refine v_if_ne hC hf dX5_goesFarther_51 (tgt := 58) (by decide) (fun hf => ?_) (fun hf => ?_)
        · refine v_iconst (v := 0) hC dX5_goesFarther_58 (by decide) ?_
          exact v_retZP hC hf hE dX5_goesFarther_59
        · refine v_at 54 rfl ?_
          refine v_iconst (v := 1) hC dX5_goesFarther_54 (by decide) ?_
          refine v_goto (tgt := 59) hC dX5_goesFarther_55 (by decide) ?_
          exact v_retZP hC hf hE dX5_goesFarther_59
      · rw [if_neg hx2] at hf
        by_cases hx3 : i0 = 3
        · rw [if_pos hx3] at hf
          refine v_tabIn hC dX5_goesFarther_7 (by rw [hx3]; decide) (by rw [hx3]; decide) (off := 53) (by rw [hx3]; decide) (tgt := 60) (by decide) ?_
          refine v_iload_n hC 2 dX5_goesFarther_60 rfl ?_
          exact v_retZP hC hf hE dX5_goesFarther_61
        · rw [if_neg hx3] at hf
          by_cases hx4 : i0 = 4
          · rw [if_pos hx4] at hf
            refine v_tabIn hC dX5_goesFarther_7 (by rw [hx4]; decide) (by rw [hx4]; decide) (off := 55) (by rw [hx4]; decide) (tgt := 62) (by decide) ?_
            refine v_iload_n hC 1 dX5_goesFarther_62 rfl ?_
            refine v_iconst (v := 2) hC dX5_goesFarther_63 (by decide) ?_
            refine v_icmp_lt hC hf dX5_goesFarther_64 (tgt := 71) (by decide) (fun hf => ?_) (fun hf => ?_)
            · refine v_iconst (v := 0) hC dX5_goesFarther_71 (by decide) ?_
              exact v_retZP hC hf hE dX5_goesFarther_72
            · refine v_at 67 rfl ?_
              refine v_iconst (v := 1) hC dX5_goesFarther_67 (by decide) ?_
              refine v_goto (tgt := 72) hC dX5_goesFarther_68 (by decide) ?_
              exact v_retZP hC hf hE dX5_goesFarther_72
          · rw [if_neg hx4] at hf
            by_cases hx5 : i0 = 5
            · rw [if_pos hx5] at hf
              refine v_tabIn hC dX5_goesFarther_7 (by rw [hx5]; decide) (by rw [hx5]; decide) (off := 66) (by rw [hx5]; decide) (tgt := 73) (by decide) ?_
              refine v_iload_n hC 1 dX5_goesFarther_73 rfl ?_
              refine v_iconst (v := 3) hC dX5_goesFarther_74 (by decide) ?_
              refine v_icmp_ne hC hf dX5_goesFarther_75 (tgt := 82) (by decide) (fun hf => ?_) (fun hf => ?_)
              · refine v_iconst (v := 0) hC dX5_goesFarther_82 (by decide) ?_
                exact v_retZP hC hf hE dX5_goesFarther_83
              · refine v_at 78 rfl ?_
                refine v_iconst (v := 1) hC dX5_goesFarther_78 (by decide) ?_
                refine v_goto (tgt := 83) hC dX5_goesFarther_79 (by decide) ?_
                exact v_retZP hC hf hE dX5_goesFarther_83
            · rw [if_neg hx5] at hf
              by_cases hx6 : i0 = 6
              · rw [if_pos hx6] at hf
                refine v_tabIn hC dX5_goesFarther_7 (by rw [hx6]; decide) (by rw [hx6]; decide) (off := 77) (by rw [hx6]; decide) (tgt := 84) (by decide) ?_
                refine v_iload_n hC 1 dX5_goesFarther_84 rfl ?_
                refine v_iconst (v := 3) hC dX5_goesFarther_85 (by decide) ?_
                refine v_icmp_eq hC hf dX5_goesFarther_86 (tgt := 98) (by decide) (fun hf => ?_) (fun hf => ?_)
                · refine v_iconst (v := 1) hC dX5_goesFarther_98 (by decide) ?_
                  refine v_goto (tgt := 103) hC dX5_goesFarther_99 (by decide) ?_
                  exact v_retZP hC hf hE dX5_goesFarther_103
                · refine v_at 89 rfl ?_
                  refine v_iload_n hC 1 dX5_goesFarther_89 rfl ?_
                  refine v_iconst (v := 2) hC dX5_goesFarther_90 (by decide) ?_
                  refine v_icmp_ne hC hf dX5_goesFarther_91 (tgt := 102) (by decide) (fun hf => ?_) (fun hf => ?_)
                  · refine v_iconst (v := 0) hC dX5_goesFarther_102 (by decide) ?_
                    exact v_retZP hC hf hE dX5_goesFarther_103
                  · refine v_at 94 rfl ?_
                    refine v_iload_n hC 3 dX5_goesFarther_94 rfl ?_
                    refine v_if_eq hC hf dX5_goesFarther_95 (tgt := 102) (by decide) (fun hf => ?_) (fun hf => ?_)
                    · refine v_iconst (v := 0) hC dX5_goesFarther_102 (by decide) ?_
                      exact v_retZP hC hf hE dX5_goesFarther_103
                    · refine v_at 98 rfl ?_
                      refine v_iconst (v := 1) hC dX5_goesFarther_98 (by decide) ?_
                      refine v_goto (tgt := 103) hC dX5_goesFarther_99 (by decide) ?_
                      exact v_retZP hC hf hE dX5_goesFarther_103
              · rw [if_neg hx6] at hf
                by_cases ho : (i0 : Int32).toInt < 0 ∨ 6 < (i0 : Int32).toInt
                · refine v_tabOut hC dX5_goesFarther_7 ho (tgt := 104) (by decide) ?_
                  refine v_iconst (v := 0) hC dX5_goesFarther_104 (by decide) ?_
                  exact v_retZP hC hf hE dX5_goesFarther_105
                · have q0 : (i0 : Int32).toInt ≠ 0 := fun h => hx0 (Int32.toInt_inj.mp h)
                  have q2 : (i0 : Int32).toInt ≠ 2 := fun h => hx2 (Int32.toInt_inj.mp h)
                  have q3 : (i0 : Int32).toInt ≠ 3 := fun h => hx3 (Int32.toInt_inj.mp h)
                  have q4 : (i0 : Int32).toInt ≠ 4 := fun h => hx4 (Int32.toInt_inj.mp h)
                  have q5 : (i0 : Int32).toInt ≠ 5 := fun h => hx5 (Int32.toInt_inj.mp h)
                  have q6 : (i0 : Int32).toInt ≠ 6 := fun h => hx6 (Int32.toInt_inj.mp h)
                  have hx : i0 = 1 := Int32.toInt_inj.mp (show (i0 : Int32).toInt = 1 by omega)
                  refine v_tabIn hC dX5_goesFarther_7 (by rw [hx]; decide) (by rw [hx]; decide) (off := 97) (by rw [hx]; decide) (tgt := 104) (by decide) ?_
                  refine v_iconst (v := 0) hC dX5_goesFarther_104 (by decide) ?_
                  exact v_retZP hC hf hE dX5_goesFarther_105
  · refine v_at 4 rfl ?_
    refine v_iconst (v := 0) hC dX5_goesFarther_4 (by decide) ?_
    exact v_retZP hC hf hE dX5_goesFarther_5
set_option maxHeartbeats 4000000 in
set_option maxRecDepth 100000 in
theorem m_X5_cutQuotient {G : Gm} {l : Launch} {σ : St} {a0 : Nat} {i1 : Int32} {i2 : Int32} {i3 : Int32} {i4 : Int32} {r : Int32} {σf : St} {k s : Nat} (hf : f_X5_cutQuotient σ a0 i1 i2 i3 i4 = some (r, σf, k, s)) : (∃ fs : List Value, σ.1 a0 = some (.inr (.inl (5, fs)))) ∧ Ct G l y_X5_cutQuotient prog_1_method_35_code 6 (some .boolean) 4 90 [.ref a0, .int i1, .int i2, .int i3, .int i4] σ (some (.int r)) σf k s := by
  unfold f_X5_cutQuotient at hf
  obtain ⟨hob, hf⟩ := ob_some hf
  refine ⟨hob, Ct.ofV pl_X5_cutQuotient (Nat.le_of_ble_eq_true rfl) ?_⟩
  intro K hR hN hnm hC hE
  show V K (k + 0) (s + 0) σ 0 [(0, .ref a0), (1, .int i1), (2, .int i2), (3, .int i3), (4, .int i4)] []
  refine v_aload_n hC 0 dX5_cutQuotient_0 rfl ?_
  refine v_getR hC (host := "") hf fd_5_2 w_187 dX5_cutQuotient_1 (fun r1 hf => ?_)
  refine v_iload_n hC 1 dX5_cutQuotient_4 rfl ?_
  refine v_iload_n hC 2 dX5_cutQuotient_5 rfl ?_
  refine v_cVE hC (y := y_X2_cut) (ci := 2) [.int i1, .int i2] [] (fun r => some (.int r)) (fun r => .int r :: []) hf (fun _ _ _ _ h => m_X2_cut h) rfl (fun _ => rfl) rfl rfl hR (Nat.le_of_ble_eq_true rfl) (Nat.le_of_ble_eq_true rfl) w_411 w_408 w_409 w_410 w_59 nm_X2_cut rfl (Nat.le_of_ble_eq_true rfl) dX5_cutQuotient_6 (fun x2 σ3 _ _ hf => ?_)
  refine v_istore hC [(5, .int x2), (0, .ref a0), (1, .int i1), (2, .int i2), (3, .int i3), (4, .int i4)] dX5_cutQuotient_9 hN (Nat.le_of_ble_eq_true rfl) rfl ?_
  refine v_iload hC 0 dX5_cutQuotient_11 rfl ?_
  refine v_jnE hf (fun z4 kr sr => V K (kr + 0) (sr + 0) σ3 25 [(0, .ref a0), (3, .int i3), (4, .int i4), (5, .int x2)] []) (fun z4 _ _ hf => ?_) (fun k4 hk4 hf => ?_)
  · refine v_iload hC 2 dX5_cutQuotient_25 rfl ?_
    refine v_iload hC 3 dX5_cutQuotient_27 rfl ?_
    refine v_iload_n hC 1 dX5_cutQuotient_29 rfl ?_
    refine v_aload_n hC 0 dX5_cutQuotient_30 rfl ?_
    refine v_getR hC (host := "") hf fd_5_2 w_187 dX5_cutQuotient_31 (fun r5 hf => ?_)
    refine v_cVP hC (y := y_X2_isOdd) (ci := 2) [] [.int i3, .int x2, .int i4] (fun r => some (.int r)) (fun r => .int r :: [.int i3, .int x2, .int i4]) hf (fun _ h => m_X2_isOdd h) rfl (fun _ => rfl) rfl rfl hR (Nat.le_of_ble_eq_true rfl) (Nat.le_of_ble_eq_true rfl) w_427 w_424 w_425 w_426 w_59 nm_X2_isOdd rfl (Nat.le_of_ble_eq_true rfl) dX5_cutQuotient_34 (fun x6 hf => ?_)
    refine v_cSP hC (y := y_X5_goesFarther) [.int i4, .int x2, .int i3, .int x6] [] (fun r => some (.int r)) (fun r => .int r :: []) hf (fun _ h => m_X5_goesFarther h) rfl (fun _ => rfl) hR (Nat.le_of_ble_eq_true rfl) (Nat.le_of_ble_eq_true rfl) w_430 w_428 w_429 w_58 nm_X5_goesFarther rfl (Nat.le_of_ble_eq_true rfl) dX5_cutQuotient_37 (fun x7 hf => ?_)
    refine v_if_eq hC hf dX5_cutQuotient_40 (tgt := 50) (by decide) (fun hf => ?_) (fun hf => ?_)
    · refine v_iconst (v := 1) hC dX5_cutQuotient_50 (by decide) ?_
      exact v_retZ hC hf hE dX5_cutQuotient_51
    · refine v_at 43 rfl ?_
      refine v_aload_n hC 0 dX5_cutQuotient_43 rfl ?_
      refine v_getR hC (host := "") hf fd_5_2 w_187 dX5_cutQuotient_44 (fun r8 hf => ?_)
      refine v_cVE hC (y := y_X2_addOne) (ci := 2) [] [] (fun _ => none) (fun _ => []) hf (fun _ _ _ _ h => m_X2_addOne h) rfl (fun _ => rfl) rfl rfl hR (Nat.le_of_ble_eq_true rfl) (Nat.le_of_ble_eq_true rfl) w_434 w_431 w_432 w_433 w_59 nm_X2_addOne rfl (Nat.le_of_ble_eq_true rfl) dX5_cutQuotient_47 (fun _ σ9 _ _ hf => ?_)
      refine v_iconst (v := 1) hC dX5_cutQuotient_50 (by decide) ?_
      exact v_retZ hC hf hE dX5_cutQuotient_51
  · refine v_if_eq hC hf dX5_cutQuotient_13 (tgt := 25) (by decide) (fun hf => ?_) (fun hf => ?_)
    · exact v_sub [(0, .ref a0), (3, .int i3), (4, .int i4), (5, .int x2)] [1, 4, 5, 0] rfl (hk4 _ _ _ hf)
    · refine v_at 16 rfl ?_
      refine v_iload hC 5 dX5_cutQuotient_16 rfl ?_
      refine v_bipush (v := 7) hC dX5_cutQuotient_18 (by decide) ?_
      refine v_icmp_ne hC hf dX5_cutQuotient_20 (tgt := 25) (by decide) (fun hf => ?_) (fun hf => ?_)
      · exact v_sub [(0, .ref a0), (3, .int i3), (4, .int i4), (5, .int x2)] [1, 4, 5, 0] rfl (hk4 _ _ _ hf)
      · refine v_at 23 rfl ?_
        refine v_iconst (v := 0) hC dX5_cutQuotient_23 (by decide) ?_
        exact v_retZ hC hf hE dX5_cutQuotient_24
set_option maxHeartbeats 4000000 in
set_option maxRecDepth 100000 in
theorem m_X5_divide {G : Gm} {l : Launch} {σ : St} {a0 : Nat} {i1 : Int32} {i2 : Int32} {i3 : Int32} {i4 : Int32} {i5 : Int32} {r : Int32} {σf : St} {k s : Nat} (hf : f_X5_divide σ a0 i1 i2 i3 i4 i5 = some (r, σf, k, s)) : (∃ fs : List Value, σ.1 a0 = some (.inr (.inl (5, fs)))) ∧ Ct G l y_X5_divide prog_1_method_8_code 14 (some .boolean) 6 147 [.ref a0, .int i1, .int i2, .int i3, .int i4, .int i5] σ (some (.int r)) σf k s := by
  unfold f_X5_divide at hf
  obtain ⟨hob, hf⟩ := ob_some hf
  refine ⟨hob, Ct.ofV pl_X5_divide (Nat.le_of_ble_eq_true rfl) ?_⟩
  intro K hR hN hnm hC hE
  show V K (k + 0) (s + 0) σ 0 [(0, .ref a0), (1, .int i1), (2, .int i2), (3, .int i3), (4, .int i4), (5, .int i5)] []
  refine v_iload_n hC 2 dX5_divide_0 rfl ?_
  refine v_cSP hC (y := y_X5_isRegister) [.int i2] [] (fun r => some (.int r)) (fun r => .int r :: []) hf (fun _ h => m_X5_isRegister h) rfl (fun _ => rfl) hR (Nat.le_of_ble_eq_true rfl) (Nat.le_of_ble_eq_true rfl) w_228 w_226 w_227 w_58 nm_X5_isRegister rfl (Nat.le_of_ble_eq_true rfl) dX5_divide_1 (fun x1 hf => ?_)
  refine v_if_eq hC hf dX5_divide_4 (tgt := 22) (by decide) (fun hf => ?_) (fun hf => ?_)
  · refine v_iconst (v := 0) hC dX5_divide_22 (by decide) ?_
    exact v_retZ hC hf hE dX5_divide_23
  · refine v_at 7 rfl ?_
    refine v_iload_n hC 3 dX5_divide_7 rfl ?_
    refine v_cSP hC (y := y_X5_isRegister) [.int i3] [] (fun r => some (.int r)) (fun r => .int r :: []) hf (fun _ h => m_X5_isRegister h) rfl (fun _ => rfl) hR (Nat.le_of_ble_eq_true rfl) (Nat.le_of_ble_eq_true rfl) w_228 w_226 w_227 w_58 nm_X5_isRegister rfl (Nat.le_of_ble_eq_true rfl) dX5_divide_8 (fun x2 hf => ?_)
    refine v_if_eq hC hf dX5_divide_11 (tgt := 22) (by decide) (fun hf => ?_) (fun hf => ?_)
    · refine v_iconst (v := 0) hC dX5_divide_22 (by decide) ?_
      exact v_retZ hC hf hE dX5_divide_23
    · refine v_at 14 rfl ?_
      refine v_iload hC 5 dX5_divide_14 rfl ?_
      refine v_cSP hC (y := y_X5_isRounding) [.int i5] [] (fun r => some (.int r)) (fun r => .int r :: []) hf (fun _ h => m_X5_isRounding h) rfl (fun _ => rfl) hR (Nat.le_of_ble_eq_true rfl) (Nat.le_of_ble_eq_true rfl) w_363 w_361 w_362 w_58 nm_X5_isRounding rfl (Nat.le_of_ble_eq_true rfl) dX5_divide_16 (fun x3 hf => ?_)
      refine v_if_ne hC hf dX5_divide_19 (tgt := 24) (by decide) (fun hf => ?_) (fun hf => ?_)
      · refine v_aload_n hC 0 dX5_divide_24 rfl ?_
        refine v_getR hC (host := "") hf fd_5_0 w_185 dX5_divide_25 (fun r4 hf => ?_)
        refine v_iload_n hC 2 dX5_divide_28 rfl ?_
        refine v_ldA hC hf dX5_divide_29 (fun r5 hf => ?_)
        refine v_astore hC [(6, .ref r5), (0, .ref a0), (1, .int i1), (2, .int i2), (3, .int i3), (4, .int i4), (5, .int i5)] dX5_divide_30 hN (Nat.le_of_ble_eq_true rfl) rfl ?_
        refine v_aload_n hC 1 dX5_divide_32 rfl ?_
        refine v_getR hC (host := "") hf fd_5_0 w_185 dX5_divide_33 (fun r6 hf => ?_)
        refine v_iload_n hC 4 dX5_divide_36 rfl ?_
        refine v_at 37 rfl ?_
        refine v_ldA hC hf dX5_divide_37 (fun r7 hf => ?_)
        refine v_astore hC [(7, .ref r7), (6, .ref r5), (0, .ref a0), (1, .int i1), (2, .int i2), (3, .int i3), (4, .int i4), (5, .int i5)] dX5_divide_38 hN (Nat.le_of_ble_eq_true rfl) rfl ?_
        refine v_aload hC 0 dX5_divide_40 rfl ?_
        refine v_getRN hC hf fd_0_0 n_15 dX5_divide_42 (fun r8 hf => ?_)
        refine v_cVP hC (y := y_X2_isZero) (ci := 2) [] [] (fun r => some (.int r)) (fun r => .int r :: []) hf (fun _ h => m_X2_isZero h) rfl (fun _ => rfl) rfl rfl hR (Nat.le_of_ble_eq_true rfl) (Nat.le_of_ble_eq_true rfl) w_273 w_290 w_271 w_272 w_59 nm_X2_isZero rfl (Nat.le_of_ble_eq_true rfl) dX5_divide_45 (fun x9 hf => ?_)
        refine v_if_eq hC hf dX5_divide_48 (tgt := 53) (by decide) (fun hf => ?_) (fun hf => ?_)
        · refine v_aload hC 1 dX5_divide_53 rfl ?_
          refine v_getRN hC hf fd_0_0 n_15 dX5_divide_55 (fun r10 hf => ?_)
          refine v_cVP hC (y := y_X2_isZero) (ci := 2) [] [] (fun r => some (.int r)) (fun r => .int r :: []) hf (fun _ h => m_X2_isZero h) rfl (fun _ => rfl) rfl rfl hR (Nat.le_of_ble_eq_true rfl) (Nat.le_of_ble_eq_true rfl) w_273 w_290 w_271 w_272 w_59 nm_X2_isZero rfl (Nat.le_of_ble_eq_true rfl) dX5_divide_58 (fun x11 hf => ?_)
          refine v_if_eq hC hf dX5_divide_61 (tgt := 79) (by decide) (fun hf => ?_) (fun hf => ?_)
          · refine v_iload hC 6 dX5_divide_79 rfl ?_
            refine v_i2l hC dX5_divide_81 ?_
            refine v_aload hC 1 dX5_divide_82 rfl ?_
            refine v_getIN hC hf fd_0_2 n_19 dX5_divide_84 (fun x12 hf => ?_)
            refine v_i2l hC dX5_divide_87 ?_
            refine v_lsub hC dX5_divide_88 ?_
            refine v_aload hC 0 dX5_divide_89 rfl ?_
            refine v_getIN hC hf fd_0_2 n_19 dX5_divide_91 (fun x13 hf => ?_)
            refine v_at 94 rfl ?_
            refine v_i2l hC dX5_divide_94 ?_
            refine v_ladd hC dX5_divide_95 ?_
            refine v_lconst (v := 1) hC dX5_divide_96 (by decide) ?_
            refine v_ladd hC dX5_divide_97 ?_
            refine v_ltL hf (fun l14 hf => ?_)
            refine v_lstore hC [(8, .long l14), (7, .ref r7), (6, .ref r5), (0, .ref a0), (1, .int i1), (2, .int i2), (3, .int i3), (4, .int i4), (5, .int i5)] dX5_divide_98 hN (Nat.le_of_ble_eq_true rfl) rfl ?_
            refine v_aload hC 2 dX5_divide_100 rfl ?_
            refine v_getRN hC hf fd_0_0 n_15 dX5_divide_102 (fun r15 hf => ?_)
            refine v_cVP hC (y := y_X2_digitCount) (ci := 2) [] [] (fun r => some (.int r)) (fun r => .int r :: []) hf (fun _ h => m_X2_digitCount h) rfl (fun _ => rfl) rfl rfl hR (Nat.le_of_ble_eq_true rfl) (Nat.le_of_ble_eq_true rfl) w_235 w_232 w_233 w_234 w_59 nm_X2_digitCount rfl (Nat.le_of_ble_eq_true rfl) dX5_divide_105 (fun x16 hf => ?_)
            refine v_at 108 rfl ?_
            refine v_aload hC 1 dX5_divide_108 rfl ?_
            refine v_getRN hC hf fd_0_0 n_15 dX5_divide_110 (fun r17 hf => ?_)
            refine v_cVP hC (y := y_X2_digitCount) (ci := 2) [] [.int x16] (fun r => some (.int r)) (fun r => .int r :: [.int x16]) hf (fun _ h => m_X2_digitCount h) rfl (fun _ => rfl) rfl rfl hR (Nat.le_of_ble_eq_true rfl) (Nat.le_of_ble_eq_true rfl) w_235 w_232 w_233 w_234 w_59 nm_X2_digitCount rfl (Nat.le_of_ble_eq_true rfl) dX5_divide_113 (fun x18 hf => ?_)
            refine v_isub hC dX5_divide_116 ?_
            refine v_i2l hC dX5_divide_117 ?_
            refine v_lload hC 0 dX5_divide_118 rfl ?_
            refine v_ladd hC dX5_divide_120 ?_
            refine v_lconst (v := 1) hC dX5_divide_121 (by decide) ?_
            refine v_at 122 rfl ?_
            refine v_lsub hC dX5_divide_122 ?_
            refine v_ldc2 hC dX5_divide_123 w_351 ?_
            refine v_lcmp_le hC hf dX5_divide_126 dX5_divide_127 (tgt := 132) (by decide) (fun hf => ?_) (fun hf => ?_)
            · refine v_lload hC 0 dX5_divide_132 rfl ?_
              refine v_lconst (v := 0) hC dX5_divide_134 (by decide) ?_
              refine v_cSP hC (y := y_J9_max_f86c9) [.long l14, .long 0] [] (fun r => some (.long r)) (fun r => .long r :: []) hf (fun _ h => m_J9_max_f86c9 h) rfl (fun _ => rfl) hR (Nat.le_of_ble_eq_true rfl) (Nat.le_of_ble_eq_true rfl) w_366 w_364 w_365 w_65 nm_J9_max_f86c9 rfl (Nat.le_of_ble_eq_true rfl) dX5_divide_135 (fun l19 hf => ?_)
              refine v_l2i hC dX5_divide_138 ?_
              refine v_ltI hf (fun x20 hf => ?_)
              refine v_istore hC [(10, .int x20), (8, .long l14), (7, .ref r7), (6, .ref r5), (0, .ref a0), (1, .int i1), (2, .int i2), (3, .int i3), (4, .int i4), (5, .int i5)] dX5_divide_139 hN (Nat.le_of_ble_eq_true rfl) rfl ?_
              refine v_aload_n hC 4 dX5_divide_141 rfl ?_
              refine v_aload hC 3 dX5_divide_142 rfl ?_
              refine v_getRN hC hf fd_0_0 n_15 dX5_divide_144 (fun r21 hf => ?_)
              refine v_at 147 rfl ?_
              refine v_iload hC 0 dX5_divide_147 rfl ?_
              refine v_aload hC 2 dX5_divide_149 rfl ?_
              refine v_getRN hC hf fd_0_0 n_15 dX5_divide_151 (fun r22 hf => ?_)
              refine v_cVE hC (y := y_X5_divideRaised) (ci := 5) [.ref r21, .int x20, .ref r22] [] (fun r => some (.int r)) (fun r => .int r :: []) hf (fun _ _ _ _ h => m_X5_divideRaised h) rfl (fun _ => rfl) rfl rfl hR (Nat.le_of_ble_eq_true rfl) (Nat.le_of_ble_eq_true rfl) w_370 w_367 w_369 w_7 w_58 nm_X5_divideRaised rfl (Nat.le_of_ble_eq_true rfl) dX5_divide_154 (fun x23 σ24 _ _ hf => ?_)
              refine v_istore hC [(11, .int x23), (10, .int x20), (8, .long l14), (7, .ref r7), (6, .ref r5), (0, .ref a0), (1, .int i1), (2, .int i2), (3, .int i3), (4, .int i4), (5, .int i5)] dX5_divide_157 hN (Nat.le_of_ble_eq_true rfl) rfl ?_
              refine v_iload hC 1 dX5_divide_159 rfl ?_
              refine v_i2l hC dX5_divide_161 ?_
              refine v_lload hC 2 dX5_divide_162 rfl ?_
              refine v_at 164 rfl ?_
              refine v_lsub hC dX5_divide_164 ?_
              refine v_lconst (v := 1) hC dX5_divide_165 (by decide) ?_
              refine v_ladd hC dX5_divide_166 ?_
              refine v_ldc2 hC dX5_divide_167 w_402 ?_
              refine v_cSP hC (y := y_J9_min_f86c9) [.long ((((x20 : Int32).toInt64) - l14) + 1), .long 4098] [] (fun r => some (.long r)) (fun r => .long r :: []) hf (fun _ h => m_J9_min_f86c9 h) rfl (fun _ => rfl) hR (Nat.le_of_ble_eq_true rfl) (Nat.le_of_ble_eq_true rfl) w_389 w_403 w_388 w_65 nm_J9_min_f86c9 rfl (Nat.le_of_ble_eq_true rfl) dX5_divide_170 (fun l25 hf => ?_)
              refine v_l2i hC dX5_divide_173 ?_
              refine v_ltI hf (fun x26 hf => ?_)
              refine v_istore hC [(12, .int x26), (11, .int x23), (10, .int x20), (8, .long l14), (7, .ref r7), (6, .ref r5), (0, .ref a0), (1, .int i1), (2, .int i2), (3, .int i3), (4, .int i4), (5, .int i5)] dX5_divide_174 hN (Nat.le_of_ble_eq_true rfl) rfl ?_
              refine v_aload hC 5 dX5_divide_176 rfl ?_
              refine v_at 178 rfl ?_
              refine v_getIN hC hf fd_0_1 n_17 dX5_divide_178 (fun x27 hf => ?_)
              refine v_aload hC 4 dX5_divide_181 rfl ?_
              refine v_getIN hC hf fd_0_1 n_17 dX5_divide_183 (fun x28 hf => ?_)
              refine v_jnE hf (fun z29 kr sr => V K (kr + 0) (sr + 0) σ24 194 [(0, .ref a0), (1, .int i1), (4, .int i4), (5, .int i5), (11, .int x23), (12, .int x26)] [.int z29]) (fun z29 _ _ hf => ?_) (fun k29 hk29 hf => ?_)
              · refine v_istore hC [(13, .int z29), (0, .ref a0), (1, .int i1), (4, .int i4), (5, .int i5), (11, .int x23), (12, .int x26)] dX5_divide_194 hN (Nat.le_of_ble_eq_true rfl) rfl ?_
                refine v_aload_n hC 1 dX5_divide_196 rfl ?_
                refine v_iload hC 6 dX5_divide_197 rfl ?_
                refine v_iload hC 5 dX5_divide_199 rfl ?_
                refine v_iload hC 0 dX5_divide_201 rfl ?_
                refine v_iload hC 4 dX5_divide_203 rfl ?_
                refine v_cVE hC (y := y_X5_cutQuotient) (ci := 5) [.int x26, .int x23, .int z29, .int i5] [] (fun r => some (.int r)) (fun r => .int r :: []) hf (fun _ _ _ _ h => m_X5_cutQuotient h) rfl (fun _ => rfl) rfl rfl hR (Nat.le_of_ble_eq_true rfl) (Nat.le_of_ble_eq_true rfl) w_407 w_404 w_406 w_13 w_58 nm_X5_cutQuotient rfl (Nat.le_of_ble_eq_true rfl) dX5_divide_205 (fun x30 σ31 _ _ hf => ?_)
                refine v_if_eq hC hf dX5_divide_208 (tgt := 232) (by decide) (fun hf => ?_) (fun hf => ?_)
                · refine v_iconst (v := 0) hC dX5_divide_232 (by decide) ?_
                  exact v_retZ hC hf hE dX5_divide_233
                · refine v_at 211 rfl ?_
                  refine v_aload_n hC 1 dX5_divide_211 rfl ?_
                  refine v_iload_n hC 2 dX5_divide_212 rfl ?_
                  refine v_aload_n hC 1 dX5_divide_213 rfl ?_
                  refine v_getR hC (host := "") hf fd_5_2 w_187 dX5_divide_214 (fun r32 hf => ?_)
                  refine v_iload hC 0 dX5_divide_217 rfl ?_
                  refine v_iload hC 3 dX5_divide_219 rfl ?_
                  refine v_i2l hC dX5_divide_221 ?_
                  refine v_cVE hC (y := y_X5_keep) (ci := 5) [.int i1, .ref r32, .int z29, .long ((i4 : Int32).toInt64)] [] (fun r => some (.int r)) (fun r => .int r :: []) hf (fun _ _ _ _ h => m_X5_keep h) rfl (fun _ => rfl) rfl rfl hR (Nat.le_of_ble_eq_true rfl) (Nat.le_of_ble_eq_true rfl) w_225 w_222 w_224 w_0 w_58 nm_X5_keep rfl (Nat.le_of_ble_eq_true rfl) dX5_divide_222 (fun x33 σ34 _ _ hf => ?_)
                  refine v_at 225 rfl ?_
                  refine v_if_eq hC hf dX5_divide_225 (tgt := 232) (by decide) (fun hf => ?_) (fun hf => ?_)
                  · refine v_iconst (v := 0) hC dX5_divide_232 (by decide) ?_
                    exact v_retZ hC hf hE dX5_divide_233
                  · refine v_at 228 rfl ?_
                    refine v_iconst (v := 1) hC dX5_divide_228 (by decide) ?_
                    refine v_goto (tgt := 233) hC dX5_divide_229 (by decide) ?_
                    exact v_retZ hC hf hE dX5_divide_233
              · refine v_icmp_eq hC hf dX5_divide_186 (tgt := 193) (by decide) (fun hf => ?_) (fun hf => ?_)
                · refine v_iconst (v := 0) hC dX5_divide_193 (by decide) ?_
                  refine v_at 194 rfl ?_
                  exact v_sub [(0, .ref a0), (1, .int i1), (4, .int i4), (5, .int i5), (11, .int x23), (12, .int x26)] [6, 7, 10, 11, 1, 0] rfl (hk29 _ _ _ hf)
                · refine v_at 189 rfl ?_
                  refine v_iconst (v := 1) hC dX5_divide_189 (by decide) ?_
                  refine v_goto (tgt := 194) hC dX5_divide_190 (by decide) ?_
                  exact v_sub [(0, .ref a0), (1, .int i1), (4, .int i4), (5, .int i5), (11, .int x23), (12, .int x26)] [6, 7, 10, 11, 1, 0] rfl (hk29 _ _ _ hf)
            · refine v_at 130 rfl ?_
              refine v_iconst (v := 0) hC dX5_divide_130 (by decide) ?_
              exact v_retZ hC hf hE dX5_divide_131
          · refine v_at 64 rfl ?_
            refine v_aload_n hC 2 dX5_divide_64 rfl ?_
            refine v_iload_n hC 3 dX5_divide_65 rfl ?_
            refine v_aload hC 1 dX5_divide_66 rfl ?_
            refine v_getRN hC hf fd_0_0 n_15 dX5_divide_68 (fun r35 hf => ?_)
            refine v_iconst (v := 0) hC dX5_divide_71 (by decide) ?_
            refine v_iload hC 6 dX5_divide_72 rfl ?_
            refine v_i2l hC dX5_divide_74 ?_
            refine v_cVE hC (y := y_X5_keep) (ci := 5) [.int i1, .ref r35, .int 0, .long ((i4 : Int32).toInt64)] [] (fun r => some (.int r)) (fun r => .int r :: []) hf (fun _ _ _ _ h => m_X5_keep h) rfl (fun _ => rfl) rfl rfl hR (Nat.le_of_ble_eq_true rfl) (Nat.le_of_ble_eq_true rfl) w_225 w_222 w_224 w_0 w_58 nm_X5_keep rfl (Nat.le_of_ble_eq_true rfl) dX5_divide_75 (fun x36 σ37 _ _ hf => ?_)
            refine v_at 78 rfl ?_
            exact v_retZ hC hf hE dX5_divide_78
        · refine v_at 51 rfl ?_
          refine v_iconst (v := 0) hC dX5_divide_51 (by decide) ?_
          exact v_retZ hC hf hE dX5_divide_52
      · refine v_at 22 rfl ?_
        refine v_iconst (v := 0) hC dX5_divide_22 (by decide) ?_
        exact v_retZ hC hf hE dX5_divide_23
set_option maxHeartbeats 4000000 in
set_option maxRecDepth 100000 in
theorem m_X5_isPrecision {G : Gm} {l : Launch} {σ : St} {i0 : Int32} {r : Int32} (hf : f_X5_isPrecision σ i0 = some r) : Ct G l y_X5_isPrecision prog_1_method_27_code 1 (some .boolean) 0 0 [.int i0] σ (some (.int r)) σ 0 0 := by
  unfold f_X5_isPrecision at hf
  refine Ct.ofV pl_X5_isPrecision (Nat.le_of_ble_eq_true rfl) ?_
  intro K hR hN hnm hC hE
  show V K 0 0 σ 0 [(0, .int i0)] []
  refine v_iload_n hC 0 dX5_isPrecision_0 rfl ?_
  refine v_if_lt hC hf dX5_isPrecision_1 (tgt := 15) (by decide) (fun hf => ?_) (fun hf => ?_)
  · refine v_iconst (v := 0) hC dX5_isPrecision_15 (by decide) ?_
    exact v_retZP hC hf hE dX5_isPrecision_16
  · refine v_at 4 rfl ?_
    refine v_iload_n hC 0 dX5_isPrecision_4 rfl ?_
    refine v_sipush (v := 4096) hC dX5_isPrecision_5 (by decide) ?_
    refine v_icmp_gt hC hf dX5_isPrecision_8 (tgt := 15) (by decide) (fun hf => ?_) (fun hf => ?_)
    · refine v_iconst (v := 0) hC dX5_isPrecision_15 (by decide) ?_
      exact v_retZP hC hf hE dX5_isPrecision_16
    · refine v_at 11 rfl ?_
      refine v_iconst (v := 1) hC dX5_isPrecision_11 (by decide) ?_
      refine v_goto (tgt := 16) hC dX5_isPrecision_12 (by decide) ?_
      exact v_retZP hC hf hE dX5_isPrecision_16
set_option maxHeartbeats 4000000 in
set_option maxRecDepth 100000 in
theorem m_X5_keepExactRatio {G : Gm} {l : Launch} {σ : St} {a0 : Nat} {i1 : Int32} {a2 : Nat} {a3 : Nat} {j4 : Int64} {r : Int32} {σf : St} {k s : Nat} (hf : f_X5_keepExactRatio σ a0 i1 a2 a3 j4 = some (r, σf, k, s)) : (∃ fs : List Value, σ.1 a0 = some (.inr (.inl (5, fs)))) ∧ Ct G l y_X5_keepExactRatio prog_1_method_39_code 8 (some .boolean) 6 147 [.ref a0, .int i1, .ref a2, .ref a3, .long j4] σ (some (.int r)) σf k s := by
  unfold f_X5_keepExactRatio at hf
  obtain ⟨hob, hf⟩ := ob_some hf
  refine ⟨hob, Ct.ofV pl_X5_keepExactRatio (Nat.le_of_ble_eq_true rfl) ?_⟩
  intro K hR hN hnm hC hE
  show V K (k + 0) (s + 0) σ 0 [(0, .ref a0), (1, .int i1), (2, .ref a2), (3, .ref a3), (4, .long j4)] []
  refine v_sipush (v := 4096) hC dX5_keepExactRatio_0 (by decide) ?_
  refine v_aload_n hC 3 dX5_keepExactRatio_3 rfl ?_
  refine v_getRN hC hf fd_0_0 n_15 dX5_keepExactRatio_4 (fun r1 hf => ?_)
  refine v_cVP hC (y := y_X2_digitCount) (ci := 2) [] [.int 4096] (fun r => some (.int r)) (fun r => .int r :: [.int 4096]) hf (fun _ h => m_X2_digitCount h) rfl (fun _ => rfl) rfl rfl hR (Nat.le_of_ble_eq_true rfl) (Nat.le_of_ble_eq_true rfl) w_235 w_232 w_233 w_234 w_59 nm_X2_digitCount rfl (Nat.le_of_ble_eq_true rfl) dX5_keepExactRatio_7 (fun x2 hf => ?_)
  refine v_iadd hC dX5_keepExactRatio_10 ?_
  refine v_aload_n hC 2 dX5_keepExactRatio_11 rfl ?_
  refine v_getRN hC hf fd_0_0 n_15 dX5_keepExactRatio_12 (fun r3 hf => ?_)
  refine v_cVP hC (y := y_X2_digitCount) (ci := 2) [] [.int (4096 + x2)] (fun r => some (.int r)) (fun r => .int r :: [.int (4096 + x2)]) hf (fun _ h => m_X2_digitCount h) rfl (fun _ => rfl) rfl rfl hR (Nat.le_of_ble_eq_true rfl) (Nat.le_of_ble_eq_true rfl) w_235 w_232 w_233 w_234 w_59 nm_X2_digitCount rfl (Nat.le_of_ble_eq_true rfl) dX5_keepExactRatio_15 (fun x4 hf => ?_)
  refine v_at 18 rfl ?_
  refine v_isub hC dX5_keepExactRatio_18 ?_
  refine v_ltI hf (fun x5 hf => ?_)
  refine v_istore hC [(6, .int x5), (0, .ref a0), (1, .int i1), (2, .ref a2), (3, .ref a3), (4, .long j4)] dX5_keepExactRatio_19 hN (Nat.le_of_ble_eq_true rfl) rfl ?_
  refine v_aload_n hC 1 dX5_keepExactRatio_21 rfl ?_
  refine v_aload_n hC 3 dX5_keepExactRatio_22 rfl ?_
  refine v_getRN hC hf fd_0_0 n_15 dX5_keepExactRatio_23 (fun r6 hf => ?_)
  refine v_iload hC 0 dX5_keepExactRatio_26 rfl ?_
  refine v_aload_n hC 4 dX5_keepExactRatio_28 rfl ?_
  refine v_getRN hC hf fd_0_0 n_15 dX5_keepExactRatio_29 (fun r7 hf => ?_)
  refine v_at 32 rfl ?_
  refine v_cVE hC (y := y_X5_divideRaised) (ci := 5) [.ref r6, .int x5, .ref r7] [] (fun r => some (.int r)) (fun r => .int r :: []) hf (fun _ _ _ _ h => m_X5_divideRaised h) rfl (fun _ => rfl) rfl rfl hR (Nat.le_of_ble_eq_true rfl) (Nat.le_of_ble_eq_true rfl) w_370 w_367 w_369 w_7 w_58 nm_X5_divideRaised rfl (Nat.le_of_ble_eq_true rfl) dX5_keepExactRatio_32 (fun x8 σ9 _ _ hf => ?_)
  refine v_if_eq hC hf dX5_keepExactRatio_35 (tgt := 40) (by decide) (fun hf => ?_) (fun hf => ?_)
  · refine v_iload hC 0 dX5_keepExactRatio_40 rfl ?_
    refine v_aload_n hC 1 dX5_keepExactRatio_42 rfl ?_
    refine v_getR hC (host := "") hf fd_5_2 w_187 dX5_keepExactRatio_43 (fun r10 hf => ?_)
    refine v_cVP hC (y := y_X2_endingZeros) (ci := 2) [] [.int x5] (fun r => some (.int r)) (fun r => .int r :: [.int x5]) hf (fun _ h => m_X2_endingZeros h) rfl (fun _ => rfl) rfl rfl hR (Nat.le_of_ble_eq_true rfl) (Nat.le_of_ble_eq_true rfl) w_450 w_447 w_448 w_449 w_59 nm_X2_endingZeros rfl (Nat.le_of_ble_eq_true rfl) dX5_keepExactRatio_46 (fun x11 hf => ?_)
    refine v_cSP hC (y := y_J9_min_7cf53) [.int x5, .int x11] [] (fun r => some (.int r)) (fun r => .int r :: []) hf (fun _ h => m_J9_min_7cf53 h) rfl (fun _ => rfl) hR (Nat.le_of_ble_eq_true rfl) (Nat.le_of_ble_eq_true rfl) w_265 w_451 w_264 w_65 nm_J9_min_7cf53 rfl (Nat.le_of_ble_eq_true rfl) dX5_keepExactRatio_49 (fun x12 hf => ?_)
    refine v_istore hC [(7, .int x12), (6, .int x5), (0, .ref a0), (1, .int i1), (2, .ref a2), (3, .ref a3), (4, .long j4)] dX5_keepExactRatio_52 hN (Nat.le_of_ble_eq_true rfl) rfl ?_
    refine v_aload_n hC 2 dX5_keepExactRatio_54 rfl ?_
    refine v_getR hC (host := "") hf fd_5_2 w_187 dX5_keepExactRatio_55 (fun r13 hf => ?_)
    refine v_at 58 rfl ?_
    refine v_iload hC 0 dX5_keepExactRatio_58 rfl ?_
    refine v_cVE hC (y := y_X2_drop) (ci := 2) [.int x12] [] (fun _ => none) (fun _ => []) hf (fun _ _ _ _ h => m_X2_drop h) rfl (fun _ => rfl) rfl rfl hR (Nat.le_of_ble_eq_true rfl) (Nat.le_of_ble_eq_true rfl) w_423 w_452 w_421 w_422 w_59 nm_X2_drop rfl (Nat.le_of_ble_eq_true rfl) dX5_keepExactRatio_60 (fun _ σ14 _ _ hf => ?_)
    refine v_aload_n hC 2 dX5_keepExactRatio_63 rfl ?_
    refine v_iload_n hC 3 dX5_keepExactRatio_64 rfl ?_
    refine v_aload_n hC 2 dX5_keepExactRatio_65 rfl ?_
    refine v_getR hC (host := "") hf fd_5_2 w_187 dX5_keepExactRatio_66 (fun r15 hf => ?_)
    refine v_aload_n hC 4 dX5_keepExactRatio_69 rfl ?_
    refine v_getIN hC hf fd_0_1 n_17 dX5_keepExactRatio_70 (fun x16 hf => ?_)
    refine v_at 73 rfl ?_
    refine v_aload_n hC 5 dX5_keepExactRatio_73 rfl ?_
    refine v_getIN hC hf fd_0_1 n_17 dX5_keepExactRatio_74 (fun x17 hf => ?_)
    refine v_jnE hf (fun z18 kr sr => V K (kr + 0) (sr + 0) σ14 85 [(4, .long j4), (6, .int x5), (7, .int x12)] [.int z18, .ref r15, .int i1, .ref a0]) (fun z18 _ _ hf => ?_) (fun k18 hk18 hf => ?_)
    · refine v_lload hC 0 dX5_keepExactRatio_85 rfl ?_
      refine v_iload hC 1 dX5_keepExactRatio_87 rfl ?_
      refine v_i2l hC dX5_keepExactRatio_89 ?_
      refine v_ladd hC dX5_keepExactRatio_90 ?_
      refine v_iload hC 2 dX5_keepExactRatio_91 rfl ?_
      refine v_i2l hC dX5_keepExactRatio_93 ?_
      refine v_lsub hC dX5_keepExactRatio_94 ?_
      refine v_cVE hC (y := y_X5_keep) (ci := 5) [.int i1, .ref r15, .int z18, .long ((j4 + ((x5 : Int32).toInt64)) - ((x12 : Int32).toInt64))] [] (fun r => some (.int r)) (fun r => .int r :: []) hf (fun _ _ _ _ h => m_X5_keep h) rfl (fun _ => rfl) rfl rfl hR (Nat.le_of_ble_eq_true rfl) (Nat.le_of_ble_eq_true rfl) w_225 w_222 w_224 w_0 w_58 nm_X5_keep rfl (Nat.le_of_ble_eq_true rfl) dX5_keepExactRatio_95 (fun x19 σ20 _ _ hf => ?_)
      refine v_at 98 rfl ?_
      exact v_retZ hC hf hE dX5_keepExactRatio_98
    · refine v_icmp_eq hC hf dX5_keepExactRatio_77 (tgt := 84) (by decide) (fun hf => ?_) (fun hf => ?_)
      · refine v_iconst (v := 0) hC dX5_keepExactRatio_84 (by decide) ?_
        refine v_at 85 rfl ?_
        exact v_sub [(4, .long j4), (6, .int x5), (7, .int x12)] [6, 1, 0] rfl (hk18 _ _ _ hf)
      · refine v_at 80 rfl ?_
        refine v_iconst (v := 1) hC dX5_keepExactRatio_80 (by decide) ?_
        refine v_goto (tgt := 85) hC dX5_keepExactRatio_81 (by decide) ?_
        exact v_sub [(4, .long j4), (6, .int x5), (7, .int x12)] [6, 1, 0] rfl (hk18 _ _ _ hf)
  · refine v_at 38 rfl ?_
    refine v_iconst (v := 0) hC dX5_keepExactRatio_38 (by decide) ?_
    exact v_retZ hC hf hE dX5_keepExactRatio_39
set_option maxHeartbeats 4000000 in
set_option maxRecDepth 100000 in
theorem m_X5_keepRounded {G : Gm} {l : Launch} {σ : St} {a0 : Nat} {i1 : Int32} {i2 : Int32} {j3 : Int64} {i5 : Int32} {i6 : Int32} {i7 : Int32} {r : Int32} {σf : St} {k s : Nat} (hf : f_X5_keepRounded σ a0 i1 i2 j3 i5 i6 i7 = some (r, σf, k, s)) : (∃ fs : List Value, σ.1 a0 = some (.inr (.inl (5, fs)))) ∧ Ct G l y_X5_keepRounded prog_1_method_37_code 9 (some .boolean) 6 138 [.ref a0, .int i1, .int i2, .long j3, .int i5, .int i6, .int i7] σ (some (.int r)) σf k s := by
  unfold f_X5_keepRounded at hf
  obtain ⟨hob, hf⟩ := ob_some hf
  refine ⟨hob, Ct.ofV pl_X5_keepRounded (Nat.le_of_ble_eq_true rfl) ?_⟩
  intro K hR hN hnm hC hE
  show V K (k + 0) (s + 0) σ 0 [(0, .ref a0), (1, .int i1), (2, .int i2), (3, .long j3), (5, .int i5), (6, .int i6), (7, .int i7)] []
  refine v_aload_n hC 0 dX5_keepRounded_0 rfl ?_
  refine v_getR hC (host := "") hf fd_5_2 w_187 dX5_keepRounded_1 (fun r1 hf => ?_)
  refine v_cVP hC (y := y_X2_digitCount) (ci := 2) [] [] (fun r => some (.int r)) (fun r => .int r :: []) hf (fun _ h => m_X2_digitCount h) rfl (fun _ => rfl) rfl rfl hR (Nat.le_of_ble_eq_true rfl) (Nat.le_of_ble_eq_true rfl) w_235 w_232 w_233 w_234 w_59 nm_X2_digitCount rfl (Nat.le_of_ble_eq_true rfl) dX5_keepRounded_4 (fun x2 hf => ?_)
  refine v_iload hC 5 dX5_keepRounded_7 rfl ?_
  refine v_isub hC dX5_keepRounded_9 ?_
  refine v_ltI hf (fun x3 hf => ?_)
  refine v_istore hC [(8, .int x3), (0, .ref a0), (1, .int i1), (2, .int i2), (3, .long j3), (5, .int i5), (6, .int i6), (7, .int i7)] dX5_keepRounded_10 hN (Nat.le_of_ble_eq_true rfl) rfl ?_
  refine v_aload_n hC 1 dX5_keepRounded_12 rfl ?_
  refine v_iload hC 0 dX5_keepRounded_13 rfl ?_
  refine v_at 15 rfl ?_
  refine v_iload hC 5 dX5_keepRounded_15 rfl ?_
  refine v_iload_n hC 3 dX5_keepRounded_17 rfl ?_
  refine v_iload hC 7 dX5_keepRounded_18 rfl ?_
  refine v_cVE hC (y := y_X5_cutQuotient) (ci := 5) [.int x3, .int i5, .int i2, .int i7] [] (fun r => some (.int r)) (fun r => .int r :: []) hf (fun _ _ _ _ h => m_X5_cutQuotient h) rfl (fun _ => rfl) rfl rfl hR (Nat.le_of_ble_eq_true rfl) (Nat.le_of_ble_eq_true rfl) w_407 w_404 w_406 w_13 w_58 nm_X5_cutQuotient rfl (Nat.le_of_ble_eq_true rfl) dX5_keepRounded_20 (fun x4 σ5 _ _ hf => ?_)
  refine v_if_ne hC hf dX5_keepRounded_23 (tgt := 28) (by decide) (fun hf => ?_) (fun hf => ?_)
  · refine v_aload_n hC 1 dX5_keepRounded_28 rfl ?_
    refine v_getR hC (host := "") hf fd_5_2 w_187 dX5_keepRounded_29 (fun r6 hf => ?_)
    refine v_cVP hC (y := y_X2_digitCount) (ci := 2) [] [] (fun r => some (.int r)) (fun r => .int r :: []) hf (fun _ h => m_X2_digitCount h) rfl (fun _ => rfl) rfl rfl hR (Nat.le_of_ble_eq_true rfl) (Nat.le_of_ble_eq_true rfl) w_235 w_232 w_233 w_234 w_59 nm_X2_digitCount rfl (Nat.le_of_ble_eq_true rfl) dX5_keepRounded_32 (fun x7 hf => ?_)
    refine v_iload hC 6 dX5_keepRounded_35 rfl ?_
    refine v_jnE hf (fun z8 kr sr => V K (kr + 0) (sr + 0) z8.2 51 [(0, .ref a0), (1, .int i1), (2, .int i2), (3, .long j3), (8, .int z8.1)] []) (fun z8 _ _ hf => ?_) (fun k8 hk8 hf => ?_)
    · refine v_aload_n hC 0 dX5_keepRounded_51 rfl ?_
      refine v_iload_n hC 1 dX5_keepRounded_52 rfl ?_
      refine v_aload_n hC 0 dX5_keepRounded_53 rfl ?_
      refine v_getR hC (host := "") hf fd_5_2 w_187 dX5_keepRounded_54 (fun r9 hf => ?_)
      refine v_iload_n hC 2 dX5_keepRounded_57 rfl ?_
      refine v_lload_n hC 3 dX5_keepRounded_58 rfl ?_
      refine v_iload hC 4 dX5_keepRounded_59 rfl ?_
      refine v_i2l hC dX5_keepRounded_61 ?_
      refine v_at 62 rfl ?_
      refine v_lsub hC dX5_keepRounded_62 ?_
      refine v_cVE hC (y := y_X5_keep) (ci := 5) [.int i1, .ref r9, .int i2, .long (j3 - ((z8.1 : Int32).toInt64))] [] (fun r => some (.int r)) (fun r => .int r :: []) hf (fun _ _ _ _ h => m_X5_keep h) rfl (fun _ => rfl) rfl rfl hR (Nat.le_of_ble_eq_true rfl) (Nat.le_of_ble_eq_true rfl) w_225 w_222 w_224 w_0 w_58 nm_X5_keep rfl (Nat.le_of_ble_eq_true rfl) dX5_keepRounded_63 (fun x10 σ11 _ _ hf => ?_)
      exact v_retZ hC hf hE dX5_keepRounded_66
    · refine v_icmp_le hC hf dX5_keepRounded_37 (tgt := 51) (by decide) (fun hf => ?_) (fun hf => ?_)
      · exact v_sub [(0, .ref a0), (1, .int i1), (2, .int i2), (3, .long j3), (8, .int x3)] [1, 2, 3, 4, 0] rfl (hk8 _ _ _ hf)
      · refine v_at 40 rfl ?_
        refine v_aload_n hC 1 dX5_keepRounded_40 rfl ?_
        refine v_getR hC (host := "") hf fd_5_2 w_187 dX5_keepRounded_41 (fun r12 hf => ?_)
        refine v_iconst (v := 1) hC dX5_keepRounded_44 (by decide) ?_
        refine v_cVE hC (y := y_X2_drop) (ci := 2) [.int 1] [] (fun _ => none) (fun _ => []) hf (fun _ _ _ _ h => m_X2_drop h) rfl (fun _ => rfl) rfl rfl hR (Nat.le_of_ble_eq_true rfl) (Nat.le_of_ble_eq_true rfl) w_423 w_452 w_421 w_422 w_59 nm_X2_drop rfl (Nat.le_of_ble_eq_true rfl) dX5_keepRounded_45 (fun _ σ13 _ _ hf => ?_)
        refine v_incL hC hf 0 (fun x14 => [(8, .int x14), (0, .ref a0), (1, .int i1), (2, .int i2), (3, .long j3), (5, .int i5), (6, .int i6), (7, .int i7)]) dX5_keepRounded_48 rfl (by decide) hN (Nat.le_of_ble_eq_true rfl) (fun _ => rfl) (fun x14 hf => ?_)
        refine v_at 51 rfl ?_
        exact v_sub [(0, .ref a0), (1, .int i1), (2, .int i2), (3, .long j3), (8, .int x14)] [1, 2, 3, 4, 0] rfl (hk8 _ _ _ hf)
  · refine v_at 26 rfl ?_
    refine v_iconst (v := 0) hC dX5_keepRounded_26 (by decide) ?_
    exact v_retZ hC hf hE dX5_keepRounded_27
set_option maxHeartbeats 4000000 in
set_option maxRecDepth 100000 in
theorem m_X5_settle {G : Gm} {l : Launch} {σ : St} {a0 : Nat} {i1 : Int32} {i2 : Int32} {j3 : Int64} {i5 : Int32} {j6 : Int64} {i8 : Int32} {i9 : Int32} {r : Int32} {σf : St} {k s : Nat} (hf : f_X5_settle σ a0 i1 i2 j3 i5 j6 i8 i9 = some (r, σf, k, s)) : (∃ fs : List Value, σ.1 a0 = some (.inr (.inl (5, fs)))) ∧ Ct G l y_X5_settle prog_1_method_38_code 18 (some .boolean) 7 166 [.ref a0, .int i1, .int i2, .long j3, .int i5, .long j6, .int i8, .int i9] σ (some (.int r)) σf k s := by
  unfold f_X5_settle at hf
  obtain ⟨hob, hf⟩ := ob_some hf
  refine ⟨hob, Ct.ofV pl_X5_settle (Nat.le_of_ble_eq_true rfl) ?_⟩
  intro K hR hN hnm hC hE
  show V K (k + 0) (s + 0) σ 0 [(0, .ref a0), (1, .int i1), (2, .int i2), (3, .long j3), (5, .int i5), (6, .long j6), (8, .int i8), (9, .int i9)] []
  refine v_aload_n hC 0 dX5_settle_0 rfl ?_
  refine v_getR hC (host := "") hf fd_5_2 w_187 dX5_settle_1 (fun r1 hf => ?_)
  refine v_cVP hC (y := y_X2_endingZeros) (ci := 2) [] [] (fun r => some (.int r)) (fun r => .int r :: []) hf (fun _ h => m_X2_endingZeros h) rfl (fun _ => rfl) rfl rfl hR (Nat.le_of_ble_eq_true rfl) (Nat.le_of_ble_eq_true rfl) w_450 w_447 w_448 w_449 w_59 nm_X2_endingZeros rfl (Nat.le_of_ble_eq_true rfl) dX5_settle_4 (fun x2 hf => ?_)
  refine v_istore hC [(10, .int x2), (0, .ref a0), (1, .int i1), (2, .int i2), (3, .long j3), (5, .int i5), (6, .long j6), (8, .int i8), (9, .int i9)] dX5_settle_7 hN (Nat.le_of_ble_eq_true rfl) rfl ?_
  refine v_aload_n hC 1 dX5_settle_9 rfl ?_
  refine v_getR hC (host := "") hf fd_5_2 w_187 dX5_settle_10 (fun r3 hf => ?_)
  refine v_cVP hC (y := y_X2_digitCount) (ci := 2) [] [] (fun r => some (.int r)) (fun r => .int r :: []) hf (fun _ h => m_X2_digitCount h) rfl (fun _ => rfl) rfl rfl hR (Nat.le_of_ble_eq_true rfl) (Nat.le_of_ble_eq_true rfl) w_235 w_232 w_233 w_234 w_59 nm_X2_digitCount rfl (Nat.le_of_ble_eq_true rfl) dX5_settle_13 (fun x4 hf => ?_)
  refine v_iload hC 0 dX5_settle_16 rfl ?_
  refine v_at 18 rfl ?_
  refine v_isub hC dX5_settle_18 ?_
  refine v_ltI hf (fun x5 hf => ?_)
  refine v_istore hC [(11, .int x5), (10, .int x2), (0, .ref a0), (1, .int i1), (2, .int i2), (3, .long j3), (5, .int i5), (6, .long j6), (8, .int i8), (9, .int i9)] dX5_settle_19 hN (Nat.le_of_ble_eq_true rfl) rfl ?_
  refine v_iload hC 6 dX5_settle_21 rfl ?_
  refine v_jnE hf (fun z6 kr sr => V K (kr + 0) (sr + 0) σ 33 [(0, .ref a0), (1, .int i1), (2, .int i2), (3, .long j3), (5, .int i5), (8, .int i8), (9, .int i9)] []) (fun z6 _ _ hf => ?_) (fun k6 hk6 hf => ?_)
  · refine v_aload_n hC 0 dX5_settle_33 rfl ?_
    refine v_iload_n hC 1 dX5_settle_34 rfl ?_
    refine v_iload_n hC 2 dX5_settle_35 rfl ?_
    refine v_lload_n hC 3 dX5_settle_36 rfl ?_
    refine v_iload hC 4 dX5_settle_37 rfl ?_
    refine v_iload hC 5 dX5_settle_39 rfl ?_
    refine v_iload hC 6 dX5_settle_41 rfl ?_
    refine v_cVE hC (y := y_X5_keepRounded) (ci := 5) [.int i1, .int i2, .long j3, .int i5, .int i8, .int i9] [] (fun r => some (.int r)) (fun r => .int r :: []) hf (fun _ _ _ _ h => m_X5_keepRounded h) rfl (fun _ => rfl) rfl rfl hR (Nat.le_of_ble_eq_true rfl) (Nat.le_of_ble_eq_true rfl) w_460 w_457 w_459 w_16 w_58 nm_X5_keepRounded rfl (Nat.le_of_ble_eq_true rfl) dX5_settle_43 (fun x7 σ8 _ _ hf => ?_)
    refine v_at 46 rfl ?_
    exact v_retZ hC hf hE dX5_settle_46
  · refine v_if_ne hC hf dX5_settle_23 (tgt := 33) (by decide) (fun hf => ?_) (fun hf => ?_)
    · exact v_sub [(0, .ref a0), (1, .int i1), (2, .int i2), (3, .long j3), (5, .int i5), (8, .int i8), (9, .int i9)] [2, 3, 4, 5, 6, 8, 9] rfl (hk6 _ _ _ hf)
    · refine v_at 26 rfl ?_
      refine v_iload hC 0 dX5_settle_26 rfl ?_
      refine v_iload hC 8 dX5_settle_28 rfl ?_
      refine v_icmp_le hC hf dX5_settle_30 (tgt := 47) (by decide) (fun hf => ?_) (fun hf => ?_)
      · refine v_lload_n hC 5 dX5_settle_47 rfl ?_
        refine v_iload hC 1 dX5_settle_48 rfl ?_
        refine v_i2l hC dX5_settle_50 ?_
        refine v_lsub hC dX5_settle_51 ?_
        refine v_ltL hf (fun l9 hf => ?_)
        refine v_lstore hC [(12, .long l9), (11, .int x5), (10, .int x2), (0, .ref a0), (1, .int i1), (2, .int i2), (3, .long j3), (5, .int i5), (6, .long j6), (8, .int i8), (9, .int i9)] dX5_settle_52 hN (Nat.le_of_ble_eq_true rfl) rfl ?_
        refine v_lload hC 0 dX5_settle_54 rfl ?_
        refine v_iload hC 9 dX5_settle_56 rfl ?_
        refine v_i2l hC dX5_settle_58 ?_
        refine v_at 59 rfl ?_
        refine v_ladd hC dX5_settle_59 ?_
        refine v_iload hC 1 dX5_settle_60 rfl ?_
        refine v_i2l hC dX5_settle_62 ?_
        refine v_lsub hC dX5_settle_63 ?_
        refine v_ltL hf (fun l10 hf => ?_)
        refine v_lstore hC [(14, .long l10), (12, .long l9), (11, .int x5), (10, .int x2), (0, .ref a0), (1, .int i1), (2, .int i2), (3, .long j3), (5, .int i5), (6, .long j6), (8, .int i8), (9, .int i9)] dX5_settle_64 hN (Nat.le_of_ble_eq_true rfl) rfl ?_
        refine v_lload hC 1 dX5_settle_66 rfl ?_
        refine v_lload hC 0 dX5_settle_68 rfl ?_
        refine v_lload hC 9 dX5_settle_70 rfl ?_
        refine v_at 72 rfl ?_
        refine v_cSP hC (y := y_J9_min_f86c9) [.long l10, .long j6] [.long l9] (fun r => some (.long r)) (fun r => .long r :: [.long l9]) hf (fun _ h => m_J9_min_f86c9 h) rfl (fun _ => rfl) hR (Nat.le_of_ble_eq_true rfl) (Nat.le_of_ble_eq_true rfl) w_389 w_403 w_388 w_65 nm_J9_min_f86c9 rfl (Nat.le_of_ble_eq_true rfl) dX5_settle_72 (fun l11 hf => ?_)
        refine v_cSP hC (y := y_J9_max_f86c9) [.long l9, .long l11] [] (fun r => some (.long r)) (fun r => .long r :: []) hf (fun _ h => m_J9_max_f86c9 h) rfl (fun _ => rfl) hR (Nat.le_of_ble_eq_true rfl) (Nat.le_of_ble_eq_true rfl) w_366 w_364 w_365 w_65 nm_J9_max_f86c9 rfl (Nat.le_of_ble_eq_true rfl) dX5_settle_75 (fun l12 hf => ?_)
        refine v_lstore hC [(16, .long l12), (14, .long l10), (12, .long l9), (11, .int x5), (10, .int x2), (0, .ref a0), (1, .int i1), (2, .int i2), (3, .long j3), (5, .int i5), (6, .long j6), (8, .int i8), (9, .int i9)] dX5_settle_78 hN (Nat.le_of_ble_eq_true rfl) rfl ?_
        refine v_aload_n hC 5 dX5_settle_80 rfl ?_
        refine v_getR hC (host := "") hf fd_5_2 w_187 dX5_settle_81 (fun r13 hf => ?_)
        refine v_lload_n hC 8 dX5_settle_84 rfl ?_
        refine v_lload hC 0 dX5_settle_85 rfl ?_
        refine v_lsub hC dX5_settle_87 ?_
        refine v_at 88 rfl ?_
        refine v_l2i hC dX5_settle_88 ?_
        refine v_cVE hC (y := y_X2_drop) (ci := 2) [.int ((j3 - l12 : Int64).toInt32)] [] (fun _ => none) (fun _ => []) hf (fun _ _ _ _ h => m_X2_drop h) rfl (fun _ => rfl) rfl rfl hR (Nat.le_of_ble_eq_true rfl) (Nat.le_of_ble_eq_true rfl) w_423 w_452 w_421 w_422 w_59 nm_X2_drop rfl (Nat.le_of_ble_eq_true rfl) dX5_settle_89 (fun _ σ14 _ _ hf => ?_)
        refine v_aload_n hC 5 dX5_settle_92 rfl ?_
        refine v_iload_n hC 6 dX5_settle_93 rfl ?_
        refine v_aload_n hC 5 dX5_settle_94 rfl ?_
        refine v_getR hC (host := "") hf fd_5_2 w_187 dX5_settle_95 (fun r15 hf => ?_)
        refine v_iload_n hC 7 dX5_settle_98 rfl ?_
        refine v_lload hC 0 dX5_settle_99 rfl ?_
        refine v_at 101 rfl ?_
        refine v_cVE hC (y := y_X5_keep) (ci := 5) [.int i1, .ref r15, .int i2, .long l12] [] (fun r => some (.int r)) (fun r => .int r :: []) hf (fun _ _ _ _ h => m_X5_keep h) rfl (fun _ => rfl) rfl rfl hR (Nat.le_of_ble_eq_true rfl) (Nat.le_of_ble_eq_true rfl) w_225 w_222 w_224 w_0 w_58 nm_X5_keep rfl (Nat.le_of_ble_eq_true rfl) dX5_settle_101 (fun x16 σ17 _ _ hf => ?_)
        exact v_retZ hC hf hE dX5_settle_104
      · refine v_at 33 rfl ?_
        exact v_sub [(0, .ref a0), (1, .int i1), (2, .int i2), (3, .long j3), (5, .int i5), (8, .int i8), (9, .int i9)] [2, 3, 4, 5, 6, 8, 9] rfl (hk6 _ _ _ hf)
set_option maxHeartbeats 4000000 in
set_option maxRecDepth 100000 in
theorem m_X5_ratio {G : Gm} {l : Launch} {σ : St} {a0 : Nat} {i1 : Int32} {i2 : Int32} {i3 : Int32} {i4 : Int32} {i5 : Int32} {r : Int32} {σf : St} {k s : Nat} (hf : f_X5_ratio σ a0 i1 i2 i3 i4 i5 = some (r, σf, k, s)) : (∃ fs : List Value, σ.1 a0 = some (.inr (.inl (5, fs)))) ∧ Ct G l y_X5_ratio prog_1_method_9_code 13 (some .boolean) 8 203 [.ref a0, .int i1, .int i2, .int i3, .int i4, .int i5] σ (some (.int r)) σf k s := by
  unfold f_X5_ratio at hf
  obtain ⟨hob, hf⟩ := ob_some hf
  refine ⟨hob, Ct.ofV pl_X5_ratio (Nat.le_of_ble_eq_true rfl) ?_⟩
  intro K hR hN hnm hC hE
  show V K (k + 0) (s + 0) σ 0 [(0, .ref a0), (1, .int i1), (2, .int i2), (3, .int i3), (4, .int i4), (5, .int i5)] []
  refine v_iload_n hC 2 dX5_ratio_0 rfl ?_
  refine v_cSP hC (y := y_X5_isRegister) [.int i2] [] (fun r => some (.int r)) (fun r => .int r :: []) hf (fun _ h => m_X5_isRegister h) rfl (fun _ => rfl) hR (Nat.le_of_ble_eq_true rfl) (Nat.le_of_ble_eq_true rfl) w_228 w_226 w_227 w_58 nm_X5_isRegister rfl (Nat.le_of_ble_eq_true rfl) dX5_ratio_1 (fun x1 hf => ?_)
  refine v_if_eq hC hf dX5_ratio_4 (tgt := 30) (by decide) (fun hf => ?_) (fun hf => ?_)
  · refine v_iconst (v := 0) hC dX5_ratio_30 (by decide) ?_
    exact v_retZ hC hf hE dX5_ratio_31
  · refine v_at 7 rfl ?_
    refine v_iload_n hC 3 dX5_ratio_7 rfl ?_
    refine v_cSP hC (y := y_X5_isRegister) [.int i3] [] (fun r => some (.int r)) (fun r => .int r :: []) hf (fun _ h => m_X5_isRegister h) rfl (fun _ => rfl) hR (Nat.le_of_ble_eq_true rfl) (Nat.le_of_ble_eq_true rfl) w_228 w_226 w_227 w_58 nm_X5_isRegister rfl (Nat.le_of_ble_eq_true rfl) dX5_ratio_8 (fun x2 hf => ?_)
    refine v_if_eq hC hf dX5_ratio_11 (tgt := 30) (by decide) (fun hf => ?_) (fun hf => ?_)
    · refine v_iconst (v := 0) hC dX5_ratio_30 (by decide) ?_
      exact v_retZ hC hf hE dX5_ratio_31
    · refine v_at 14 rfl ?_
      refine v_iload hC 4 dX5_ratio_14 rfl ?_
      refine v_cSP hC (y := y_X5_isPrecision) [.int i4] [] (fun r => some (.int r)) (fun r => .int r :: []) hf (fun _ h => m_X5_isPrecision h) rfl (fun _ => rfl) hR (Nat.le_of_ble_eq_true rfl) (Nat.le_of_ble_eq_true rfl) w_442 w_440 w_441 w_58 nm_X5_isPrecision rfl (Nat.le_of_ble_eq_true rfl) dX5_ratio_16 (fun x3 hf => ?_)
      refine v_if_eq hC hf dX5_ratio_19 (tgt := 30) (by decide) (fun hf => ?_) (fun hf => ?_)
      · refine v_iconst (v := 0) hC dX5_ratio_30 (by decide) ?_
        exact v_retZ hC hf hE dX5_ratio_31
      · refine v_at 22 rfl ?_
        refine v_iload hC 5 dX5_ratio_22 rfl ?_
        refine v_cSP hC (y := y_X5_isRounding) [.int i5] [] (fun r => some (.int r)) (fun r => .int r :: []) hf (fun _ h => m_X5_isRounding h) rfl (fun _ => rfl) hR (Nat.le_of_ble_eq_true rfl) (Nat.le_of_ble_eq_true rfl) w_363 w_361 w_362 w_58 nm_X5_isRounding rfl (Nat.le_of_ble_eq_true rfl) dX5_ratio_24 (fun x4 hf => ?_)
        refine v_if_ne hC hf dX5_ratio_27 (tgt := 32) (by decide) (fun hf => ?_) (fun hf => ?_)
        · refine v_aload_n hC 0 dX5_ratio_32 rfl ?_
          refine v_getR hC (host := "") hf fd_5_0 w_185 dX5_ratio_33 (fun r5 hf => ?_)
          refine v_iload_n hC 2 dX5_ratio_36 rfl ?_
          refine v_ldA hC hf dX5_ratio_37 (fun r6 hf => ?_)
          refine v_astore hC [(6, .ref r6), (0, .ref a0), (1, .int i1), (2, .int i2), (3, .int i3), (4, .int i4), (5, .int i5)] dX5_ratio_38 hN (Nat.le_of_ble_eq_true rfl) rfl ?_
          refine v_aload_n hC 1 dX5_ratio_40 rfl ?_
          refine v_getR hC (host := "") hf fd_5_0 w_185 dX5_ratio_41 (fun r7 hf => ?_)
          refine v_iload_n hC 4 dX5_ratio_44 rfl ?_
          refine v_at 45 rfl ?_
          refine v_ldA hC hf dX5_ratio_45 (fun r8 hf => ?_)
          refine v_astore hC [(7, .ref r8), (6, .ref r6), (0, .ref a0), (1, .int i1), (2, .int i2), (3, .int i3), (4, .int i4), (5, .int i5)] dX5_ratio_46 hN (Nat.le_of_ble_eq_true rfl) rfl ?_
          refine v_aload hC 0 dX5_ratio_48 rfl ?_
          refine v_getRN hC hf fd_0_0 n_15 dX5_ratio_50 (fun r9 hf => ?_)
          refine v_cVP hC (y := y_X2_isZero) (ci := 2) [] [] (fun r => some (.int r)) (fun r => .int r :: []) hf (fun _ h => m_X2_isZero h) rfl (fun _ => rfl) rfl rfl hR (Nat.le_of_ble_eq_true rfl) (Nat.le_of_ble_eq_true rfl) w_273 w_290 w_271 w_272 w_59 nm_X2_isZero rfl (Nat.le_of_ble_eq_true rfl) dX5_ratio_53 (fun x10 hf => ?_)
          refine v_if_eq hC hf dX5_ratio_56 (tgt := 61) (by decide) (fun hf => ?_) (fun hf => ?_)
          · refine v_aload hC 1 dX5_ratio_61 rfl ?_
            refine v_getIN hC hf fd_0_2 n_19 dX5_ratio_63 (fun x11 hf => ?_)
            refine v_i2l hC dX5_ratio_66 ?_
            refine v_aload hC 0 dX5_ratio_67 rfl ?_
            refine v_getIN hC hf fd_0_2 n_19 dX5_ratio_69 (fun x12 hf => ?_)
            refine v_i2l hC dX5_ratio_72 ?_
            refine v_lsub hC dX5_ratio_73 ?_
            refine v_ltL hf (fun l13 hf => ?_)
            refine v_lstore hC [(8, .long l13), (7, .ref r8), (6, .ref r6), (0, .ref a0), (1, .int i1), (2, .int i2), (3, .int i3), (4, .int i4), (5, .int i5)] dX5_ratio_74 hN (Nat.le_of_ble_eq_true rfl) rfl ?_
            refine v_at 76 rfl ?_
            refine v_aload hC 2 dX5_ratio_76 rfl ?_
            refine v_getRN hC hf fd_0_0 n_15 dX5_ratio_78 (fun r14 hf => ?_)
            refine v_cVP hC (y := y_X2_isZero) (ci := 2) [] [] (fun r => some (.int r)) (fun r => .int r :: []) hf (fun _ h => m_X2_isZero h) rfl (fun _ => rfl) rfl rfl hR (Nat.le_of_ble_eq_true rfl) (Nat.le_of_ble_eq_true rfl) w_273 w_290 w_271 w_272 w_59 nm_X2_isZero rfl (Nat.le_of_ble_eq_true rfl) dX5_ratio_81 (fun x15 hf => ?_)
            refine v_if_eq hC hf dX5_ratio_84 (tgt := 101) (by decide) (fun hf => ?_) (fun hf => ?_)
            · refine v_iload hC 7 dX5_ratio_101 rfl ?_
              refine v_if_ne hC hf dX5_ratio_103 (tgt := 118) (by decide) (fun hf => ?_) (fun hf => ?_)
              · refine v_iconst (v := 0) hC dX5_ratio_118 (by decide) ?_
                refine v_iload hC 7 dX5_ratio_119 rfl ?_
                refine v_iconst (v := 1) hC dX5_ratio_121 (by decide) ?_
                refine v_iadd hC dX5_ratio_122 ?_
                refine v_aload hC 1 dX5_ratio_123 rfl ?_
                refine v_getRN hC hf fd_0_0 n_15 dX5_ratio_125 (fun r16 hf => ?_)
                refine v_cVP hC (y := y_X2_digitCount) (ci := 2) [] [.int (i4 + 1), .int 0] (fun r => some (.int r)) (fun r => .int r :: [.int (i4 + 1), .int 0]) hf (fun _ h => m_X2_digitCount h) rfl (fun _ => rfl) rfl rfl hR (Nat.le_of_ble_eq_true rfl) (Nat.le_of_ble_eq_true rfl) w_235 w_232 w_233 w_234 w_59 nm_X2_digitCount rfl (Nat.le_of_ble_eq_true rfl) dX5_ratio_128 (fun x17 hf => ?_)
                refine v_iadd hC dX5_ratio_131 ?_
                refine v_at 132 rfl ?_
                refine v_aload hC 2 dX5_ratio_132 rfl ?_
                refine v_getRN hC hf fd_0_0 n_15 dX5_ratio_134 (fun r18 hf => ?_)
                refine v_cVP hC (y := y_X2_digitCount) (ci := 2) [] [.int ((i4 + 1) + x17), .int 0] (fun r => some (.int r)) (fun r => .int r :: [.int ((i4 + 1) + x17), .int 0]) hf (fun _ h => m_X2_digitCount h) rfl (fun _ => rfl) rfl rfl hR (Nat.le_of_ble_eq_true rfl) (Nat.le_of_ble_eq_true rfl) w_235 w_232 w_233 w_234 w_59 nm_X2_digitCount rfl (Nat.le_of_ble_eq_true rfl) dX5_ratio_137 (fun x19 hf => ?_)
                refine v_isub hC dX5_ratio_140 ?_
                refine v_cSP hC (y := y_J9_max_7cf53) [.int 0, .int (((i4 + 1) + x17) - x19)] [] (fun r => some (.int r)) (fun r => .int r :: []) hf (fun _ h => m_J9_max_7cf53 h) rfl (fun _ => rfl) hR (Nat.le_of_ble_eq_true rfl) (Nat.le_of_ble_eq_true rfl) w_252 w_286 w_251 w_65 nm_J9_max_7cf53 rfl (Nat.le_of_ble_eq_true rfl) dX5_ratio_141 (fun x20 hf => ?_)
                refine v_istore hC [(10, .int x20), (8, .long l13), (7, .ref r8), (6, .ref r6), (0, .ref a0), (1, .int i1), (2, .int i2), (3, .int i3), (4, .int i4), (5, .int i5)] dX5_ratio_144 hN (Nat.le_of_ble_eq_true rfl) rfl ?_
                refine v_aload_n hC 4 dX5_ratio_146 rfl ?_
                refine v_aload hC 3 dX5_ratio_147 rfl ?_
                refine v_at 149 rfl ?_
                refine v_getRN hC hf fd_0_0 n_15 dX5_ratio_149 (fun r21 hf => ?_)
                refine v_iload hC 0 dX5_ratio_152 rfl ?_
                refine v_aload hC 2 dX5_ratio_154 rfl ?_
                refine v_getRN hC hf fd_0_0 n_15 dX5_ratio_156 (fun r22 hf => ?_)
                refine v_cVE hC (y := y_X5_divideRaised) (ci := 5) [.ref r21, .int x20, .ref r22] [] (fun r => some (.int r)) (fun r => .int r :: []) hf (fun _ _ _ _ h => m_X5_divideRaised h) rfl (fun _ => rfl) rfl rfl hR (Nat.le_of_ble_eq_true rfl) (Nat.le_of_ble_eq_true rfl) w_370 w_367 w_369 w_7 w_58 nm_X5_divideRaised rfl (Nat.le_of_ble_eq_true rfl) dX5_ratio_159 (fun x23 σ24 _ _ hf => ?_)
                refine v_istore hC [(11, .int x23), (10, .int x20), (8, .long l13), (7, .ref r8), (6, .ref r6), (0, .ref a0), (1, .int i1), (2, .int i2), (3, .int i3), (4, .int i4), (5, .int i5)] dX5_ratio_162 hN (Nat.le_of_ble_eq_true rfl) rfl ?_
                refine v_aload hC 4 dX5_ratio_164 rfl ?_
                refine v_getIN hC hf fd_0_1 n_17 dX5_ratio_166 (fun x25 hf => ?_)
                refine v_at 169 rfl ?_
                refine v_aload hC 3 dX5_ratio_169 rfl ?_
                refine v_getIN hC hf fd_0_1 n_17 dX5_ratio_171 (fun x26 hf => ?_)
                refine v_jnE hf (fun z27 kr sr => V K (kr + 0) (sr + 0) σ24 182 [(0, .ref a0), (1, .int i1), (4, .int i4), (5, .int i5), (8, .long l13), (10, .int x20), (11, .int x23)] [.int z27]) (fun z27 _ _ hf => ?_) (fun k27 hk27 hf => ?_)
                · refine v_istore hC [(12, .int z27), (0, .ref a0), (1, .int i1), (4, .int i4), (5, .int i5), (8, .long l13), (10, .int x20), (11, .int x23)] dX5_ratio_182 hN (Nat.le_of_ble_eq_true rfl) rfl ?_
                  refine v_aload_n hC 1 dX5_ratio_184 rfl ?_
                  refine v_iload_n hC 2 dX5_ratio_185 rfl ?_
                  refine v_iload hC 0 dX5_ratio_186 rfl ?_
                  refine v_lload hC 5 dX5_ratio_188 rfl ?_
                  refine v_iload hC 6 dX5_ratio_190 rfl ?_
                  refine v_i2l hC dX5_ratio_192 ?_
                  refine v_ladd hC dX5_ratio_193 ?_
                  refine v_at 194 rfl ?_
                  refine v_iload hC 7 dX5_ratio_194 rfl ?_
                  refine v_lload hC 5 dX5_ratio_196 rfl ?_
                  refine v_iload hC 3 dX5_ratio_198 rfl ?_
                  refine v_iload hC 4 dX5_ratio_200 rfl ?_
                  refine v_cVE hC (y := y_X5_settle) (ci := 5) [.int i1, .int z27, .long (l13 + ((x20 : Int32).toInt64)), .int x23, .long l13, .int i4, .int i5] [] (fun r => some (.int r)) (fun r => .int r :: []) hf (fun _ _ _ _ h => m_X5_settle h) rfl (fun _ => rfl) rfl rfl hR (Nat.le_of_ble_eq_true rfl) (Nat.le_of_ble_eq_true rfl) w_456 w_453 w_455 w_15 w_58 nm_X5_settle rfl (Nat.le_of_ble_eq_true rfl) dX5_ratio_202 (fun x28 σ29 _ _ hf => ?_)
                  exact v_retZ hC hf hE dX5_ratio_205
                · refine v_icmp_eq hC hf dX5_ratio_174 (tgt := 181) (by decide) (fun hf => ?_) (fun hf => ?_)
                  · refine v_iconst (v := 0) hC dX5_ratio_181 (by decide) ?_
                    refine v_at 182 rfl ?_
                    exact v_sub [(0, .ref a0), (1, .int i1), (4, .int i4), (5, .int i5), (8, .long l13), (10, .int x20), (11, .int x23)] [5, 6, 9, 10, 2, 1, 0] rfl (hk27 _ _ _ hf)
                  · refine v_at 177 rfl ?_
                    refine v_iconst (v := 1) hC dX5_ratio_177 (by decide) ?_
                    refine v_goto (tgt := 182) hC dX5_ratio_178 (by decide) ?_
                    exact v_sub [(0, .ref a0), (1, .int i1), (4, .int i4), (5, .int i5), (8, .long l13), (10, .int x20), (11, .int x23)] [5, 6, 9, 10, 2, 1, 0] rfl (hk27 _ _ _ hf)
              · refine v_at 106 rfl ?_
                refine v_aload_n hC 3 dX5_ratio_106 rfl ?_
                refine v_iload_n hC 4 dX5_ratio_107 rfl ?_
                refine v_aload hC 2 dX5_ratio_108 rfl ?_
                refine v_aload hC 1 dX5_ratio_110 rfl ?_
                refine v_lload hC 0 dX5_ratio_112 rfl ?_
                refine v_cVE hC (y := y_X5_keepExactRatio) (ci := 5) [.int i1, .ref r6, .ref r8, .long l13] [] (fun r => some (.int r)) (fun r => .int r :: []) hf (fun _ _ _ _ h => m_X5_keepExactRatio h) rfl (fun _ => rfl) rfl rfl hR (Nat.le_of_ble_eq_true rfl) (Nat.le_of_ble_eq_true rfl) w_446 w_443 w_445 w_14 w_58 nm_X5_keepExactRatio rfl (Nat.le_of_ble_eq_true rfl) dX5_ratio_114 (fun x30 σ31 _ _ hf => ?_)
                exact v_retZ hC hf hE dX5_ratio_117
            · refine v_at 87 rfl ?_
              refine v_aload_n hC 3 dX5_ratio_87 rfl ?_
              refine v_iload_n hC 4 dX5_ratio_88 rfl ?_
              refine v_aload hC 2 dX5_ratio_89 rfl ?_
              refine v_getRN hC hf fd_0_0 n_15 dX5_ratio_91 (fun r32 hf => ?_)
              refine v_iconst (v := 0) hC dX5_ratio_94 (by decide) ?_
              refine v_lload hC 0 dX5_ratio_95 rfl ?_
              refine v_cVE hC (y := y_X5_keep) (ci := 5) [.int i1, .ref r32, .int 0, .long l13] [] (fun r => some (.int r)) (fun r => .int r :: []) hf (fun _ _ _ _ h => m_X5_keep h) rfl (fun _ => rfl) rfl rfl hR (Nat.le_of_ble_eq_true rfl) (Nat.le_of_ble_eq_true rfl) w_225 w_222 w_224 w_0 w_58 nm_X5_keep rfl (Nat.le_of_ble_eq_true rfl) dX5_ratio_97 (fun x33 σ34 _ _ hf => ?_)
              exact v_retZ hC hf hE dX5_ratio_100
          · refine v_at 59 rfl ?_
            refine v_iconst (v := 0) hC dX5_ratio_59 (by decide) ?_
            exact v_retZ hC hf hE dX5_ratio_60
        · refine v_at 30 rfl ?_
          refine v_iconst (v := 0) hC dX5_ratio_30 (by decide) ?_
          exact v_retZ hC hf hE dX5_ratio_31
set_option maxHeartbeats 4000000 in
set_option maxRecDepth 100000 in
theorem m_X5_keepWhole {G : Gm} {l : Launch} {σ : St} {a0 : Nat} {i1 : Int32} {i2 : Int32} {a3 : Nat} {i4 : Int32} {j5 : Int64} {j7 : Int64} {r : Int32} {σf : St} {k s : Nat} (hf : f_X5_keepWhole σ a0 i1 i2 a3 i4 j5 j7 = some (r, σf, k, s)) : (∃ fs : List Value, σ.1 a0 = some (.inr (.inl (5, fs)))) ∧ Ct G l y_X5_keepWhole prog_1_method_41_code 10 (some .boolean) 6 138 [.ref a0, .int i1, .int i2, .ref a3, .int i4, .long j5, .long j7] σ (some (.int r)) σf k s := by
  unfold f_X5_keepWhole at hf
  obtain ⟨hob, hf⟩ := ob_some hf
  refine ⟨hob, Ct.ofV pl_X5_keepWhole (Nat.le_of_ble_eq_true rfl) ?_⟩
  intro K hR hN hnm hC hE
  show V K (k + 0) (s + 0) σ 0 [(0, .ref a0), (1, .int i1), (2, .int i2), (3, .ref a3), (4, .int i4), (5, .long j5), (7, .long j7)] []
  refine v_aload_n hC 3 dX5_keepWhole_0 rfl ?_
  refine v_getIN hC hf fd_0_1 n_17 dX5_keepWhole_1 (fun x1 hf => ?_)
  refine v_istore hC [(9, .int x1), (0, .ref a0), (1, .int i1), (2, .int i2), (3, .ref a3), (4, .int i4), (5, .long j5), (7, .long j7)] dX5_keepWhole_4 hN (Nat.le_of_ble_eq_true rfl) rfl ?_
  refine v_aload_n hC 1 dX5_keepWhole_6 rfl ?_
  refine v_getR hC (host := "") hf fd_5_1 w_186 dX5_keepWhole_7 (fun r2 hf => ?_)
  refine v_lload hC 7 dX5_keepWhole_10 rfl ?_
  refine v_cSP hC (y := y_X5_fits) [.ref r2, .long j7] [] (fun r => some (.int r)) (fun r => .int r :: []) hf (fun _ h => m_X5_fits h) rfl (fun _ => rfl) hR (Nat.le_of_ble_eq_true rfl) (Nat.le_of_ble_eq_true rfl) w_231 w_229 w_230 w_58 nm_X5_fits rfl (Nat.le_of_ble_eq_true rfl) dX5_keepWhole_12 (fun x3 hf => ?_)
  refine v_if_eq hC hf dX5_keepWhole_15 (tgt := 64) (by decide) (fun hf => ?_) (fun hf => ?_)
  · refine v_iconst (v := 0) hC dX5_keepWhole_64 (by decide) ?_
    exact v_retZ hC hf hE dX5_keepWhole_65
  · refine v_at 18 rfl ?_
    refine v_aload_n hC 1 dX5_keepWhole_18 rfl ?_
    refine v_iload_n hC 2 dX5_keepWhole_19 rfl ?_
    refine v_aload_n hC 1 dX5_keepWhole_20 rfl ?_
    refine v_getR hC (host := "") hf fd_5_2 w_187 dX5_keepWhole_21 (fun r4 hf => ?_)
    refine v_iload hC 0 dX5_keepWhole_24 rfl ?_
    refine v_iload hC 5 dX5_keepWhole_26 rfl ?_
    refine v_jnE hf (fun z5 kr sr => V K (kr + 0) (sr + 0) σ 36 [(0, .ref a0), (2, .int i2), (5, .long j5), (7, .long j7), (9, .int x1)] [.int z5, .ref r4, .int i1, .ref a0]) (fun z5 _ _ hf => ?_) (fun k5 hk5 hf => ?_)
    · refine v_lload hC 2 dX5_keepWhole_36 rfl ?_
      refine v_cVE hC (y := y_X5_keep) (ci := 5) [.int i1, .ref r4, .int z5, .long j5] [] (fun r => some (.int r)) (fun r => .int r :: []) hf (fun _ _ _ _ h => m_X5_keep h) rfl (fun _ => rfl) rfl rfl hR (Nat.le_of_ble_eq_true rfl) (Nat.le_of_ble_eq_true rfl) w_225 w_222 w_224 w_0 w_58 nm_X5_keep rfl (Nat.le_of_ble_eq_true rfl) dX5_keepWhole_38 (fun x6 σ7 _ _ hf => ?_)
      refine v_if_eq hC hf dX5_keepWhole_41 (tgt := 64) (by decide) (fun hf => ?_) (fun hf => ?_)
      · refine v_iconst (v := 0) hC dX5_keepWhole_64 (by decide) ?_
        exact v_retZ hC hf hE dX5_keepWhole_65
      · refine v_at 44 rfl ?_
        refine v_aload_n hC 0 dX5_keepWhole_44 rfl ?_
        refine v_iload_n hC 1 dX5_keepWhole_45 rfl ?_
        refine v_aload_n hC 0 dX5_keepWhole_46 rfl ?_
        refine v_getR hC (host := "") hf fd_5_1 w_186 dX5_keepWhole_47 (fun r8 hf => ?_)
        refine v_iload hC 4 dX5_keepWhole_50 rfl ?_
        refine v_lload hC 3 dX5_keepWhole_52 rfl ?_
        refine v_cVE hC (y := y_X5_keep) (ci := 5) [.int i2, .ref r8, .int x1, .long j7] [] (fun r => some (.int r)) (fun r => .int r :: []) hf (fun _ _ _ _ h => m_X5_keep h) rfl (fun _ => rfl) rfl rfl hR (Nat.le_of_ble_eq_true rfl) (Nat.le_of_ble_eq_true rfl) w_225 w_222 w_224 w_0 w_58 nm_X5_keep rfl (Nat.le_of_ble_eq_true rfl) dX5_keepWhole_54 (fun x9 σ10 _ _ hf => ?_)
        refine v_if_eq hC hf dX5_keepWhole_57 (tgt := 64) (by decide) (fun hf => ?_) (fun hf => ?_)
        · refine v_iconst (v := 0) hC dX5_keepWhole_64 (by decide) ?_
          exact v_retZ hC hf hE dX5_keepWhole_65
        · refine v_at 60 rfl ?_
          refine v_iconst (v := 1) hC dX5_keepWhole_60 (by decide) ?_
          refine v_goto (tgt := 65) hC dX5_keepWhole_61 (by decide) ?_
          exact v_retZ hC hf hE dX5_keepWhole_65
    · refine v_icmp_eq hC hf dX5_keepWhole_28 (tgt := 35) (by decide) (fun hf => ?_) (fun hf => ?_)
      · refine v_iconst (v := 0) hC dX5_keepWhole_35 (by decide) ?_
        refine v_at 36 rfl ?_
        exact v_sub [(0, .ref a0), (2, .int i2), (5, .long j5), (7, .long j7), (9, .int x1)] [1, 3, 6, 7, 0] rfl (hk5 _ _ _ hf)
      · refine v_at 31 rfl ?_
        refine v_iconst (v := 1) hC dX5_keepWhole_31 (by decide) ?_
        refine v_goto (tgt := 36) hC dX5_keepWhole_32 (by decide) ?_
        exact v_sub [(0, .ref a0), (2, .int i2), (5, .long j5), (7, .long j7), (9, .int x1)] [1, 3, 6, 7, 0] rfl (hk5 _ _ _ hf)
set_option maxHeartbeats 4000000 in
set_option maxRecDepth 100000 in
theorem m_X5_keepWholeOfRaised {G : Gm} {l : Launch} {σ : St} {a0 : Nat} {i1 : Int32} {i2 : Int32} {a3 : Nat} {a4 : Nat} {j5 : Int64} {r : Int32} {σf : St} {k s : Nat} (hf : f_X5_keepWholeOfRaised σ a0 i1 i2 a3 a4 j5 = some (r, σf, k, s)) : (∃ fs : List Value, σ.1 a0 = some (.inr (.inl (5, fs)))) ∧ Ct G l y_X5_keepWholeOfRaised prog_1_method_40_code 15 (some .boolean) 7 167 [.ref a0, .int i1, .int i2, .ref a3, .ref a4, .long j5] σ (some (.int r)) σf k s := by
  unfold f_X5_keepWholeOfRaised at hf
  obtain ⟨hob, hf⟩ := ob_some hf
  refine ⟨hob, Ct.ofV pl_X5_keepWholeOfRaised (Nat.le_of_ble_eq_true rfl) ?_⟩
  intro K hR hN hnm hC hE
  show V K (k + 0) (s + 0) σ 0 [(0, .ref a0), (1, .int i1), (2, .int i2), (3, .ref a3), (4, .ref a4), (5, .long j5)] []
  refine v_sipush (v := 4096) hC dX5_keepWholeOfRaised_0 (by decide) ?_
  refine v_iconst (v := 2) hC dX5_keepWholeOfRaised_3 (by decide) ?_
  refine v_aload hC 4 dX5_keepWholeOfRaised_4 rfl ?_
  refine v_getRN hC hf fd_0_0 n_15 dX5_keepWholeOfRaised_6 (fun r1 hf => ?_)
  refine v_cVP hC (y := y_X2_digitCount) (ci := 2) [] [.int 2, .int 4096] (fun r => some (.int r)) (fun r => .int r :: [.int 2, .int 4096]) hf (fun _ h => m_X2_digitCount h) rfl (fun _ => rfl) rfl rfl hR (Nat.le_of_ble_eq_true rfl) (Nat.le_of_ble_eq_true rfl) w_235 w_232 w_233 w_234 w_59 nm_X2_digitCount rfl (Nat.le_of_ble_eq_true rfl) dX5_keepWholeOfRaised_9 (fun x2 hf => ?_)
  refine v_imul hC dX5_keepWholeOfRaised_12 ?_
  refine v_iadd hC dX5_keepWholeOfRaised_13 ?_
  refine v_aload_n hC 3 dX5_keepWholeOfRaised_14 rfl ?_
  refine v_at 15 rfl ?_
  refine v_getRN hC hf fd_0_0 n_15 dX5_keepWholeOfRaised_15 (fun r3 hf => ?_)
  refine v_cVP hC (y := y_X2_digitCount) (ci := 2) [] [.int (4096 + (2 * x2))] (fun r => some (.int r)) (fun r => .int r :: [.int (4096 + (2 * x2))]) hf (fun _ h => m_X2_digitCount h) rfl (fun _ => rfl) rfl rfl hR (Nat.le_of_ble_eq_true rfl) (Nat.le_of_ble_eq_true rfl) w_235 w_232 w_233 w_234 w_59 nm_X2_digitCount rfl (Nat.le_of_ble_eq_true rfl) dX5_keepWholeOfRaised_18 (fun x4 hf => ?_)
  refine v_isub hC dX5_keepWholeOfRaised_21 ?_
  refine v_ltI hf (fun x5 hf => ?_)
  refine v_istore hC [(7, .int x5), (0, .ref a0), (1, .int i1), (2, .int i2), (3, .ref a3), (4, .ref a4), (5, .long j5)] dX5_keepWholeOfRaised_22 hN (Nat.le_of_ble_eq_true rfl) rfl ?_
  refine v_lload hC 6 dX5_keepWholeOfRaised_24 rfl ?_
  refine v_iload hC 0 dX5_keepWholeOfRaised_26 rfl ?_
  refine v_i2l hC dX5_keepWholeOfRaised_28 ?_
  refine v_cSP hC (y := y_J9_min_f86c9) [.long j5, .long ((x5 : Int32).toInt64)] [] (fun r => some (.long r)) (fun r => .long r :: []) hf (fun _ h => m_J9_min_f86c9 h) rfl (fun _ => rfl) hR (Nat.le_of_ble_eq_true rfl) (Nat.le_of_ble_eq_true rfl) w_389 w_403 w_388 w_65 nm_J9_min_f86c9 rfl (Nat.le_of_ble_eq_true rfl) dX5_keepWholeOfRaised_29 (fun l6 hf => ?_)
  refine v_at 32 rfl ?_
  refine v_l2i hC dX5_keepWholeOfRaised_32 ?_
  refine v_ltI hf (fun x7 hf => ?_)
  refine v_istore hC [(8, .int x7), (7, .int x5), (0, .ref a0), (1, .int i1), (2, .int i2), (3, .ref a3), (4, .ref a4), (5, .long j5)] dX5_keepWholeOfRaised_33 hN (Nat.le_of_ble_eq_true rfl) rfl ?_
  refine v_aload_n hC 2 dX5_keepWholeOfRaised_35 rfl ?_
  refine v_aload_n hC 5 dX5_keepWholeOfRaised_36 rfl ?_
  refine v_getRN hC hf fd_0_0 n_15 dX5_keepWholeOfRaised_37 (fun r8 hf => ?_)
  refine v_iload hC 0 dX5_keepWholeOfRaised_40 rfl ?_
  refine v_aload hC 6 dX5_keepWholeOfRaised_42 rfl ?_
  refine v_getRN hC hf fd_0_0 n_15 dX5_keepWholeOfRaised_44 (fun r9 hf => ?_)
  refine v_at 47 rfl ?_
  refine v_cVE hC (y := y_X5_divideRaised) (ci := 5) [.ref r8, .int x7, .ref r9] [] (fun r => some (.int r)) (fun r => .int r :: []) hf (fun _ _ _ _ h => m_X5_divideRaised h) rfl (fun _ => rfl) rfl rfl hR (Nat.le_of_ble_eq_true rfl) (Nat.le_of_ble_eq_true rfl) w_370 w_367 w_369 w_7 w_58 nm_X5_divideRaised rfl (Nat.le_of_ble_eq_true rfl) dX5_keepWholeOfRaised_47 (fun x10 σ11 _ _ hf => ?_)
  refine v_istore hC [(9, .int x10), (8, .int x7), (7, .int x5), (0, .ref a0), (1, .int i1), (2, .int i2), (3, .ref a3), (4, .ref a4), (5, .long j5)] dX5_keepWholeOfRaised_50 hN (Nat.le_of_ble_eq_true rfl) rfl ?_
  refine v_aload_n hC 3 dX5_keepWholeOfRaised_52 rfl ?_
  refine v_getR hC (host := "") hf fd_5_2 w_187 dX5_keepWholeOfRaised_53 (fun r12 hf => ?_)
  refine v_cVP hC (y := y_X2_isZero) (ci := 2) [] [] (fun r => some (.int r)) (fun r => .int r :: []) hf (fun _ h => m_X2_isZero h) rfl (fun _ => rfl) rfl rfl hR (Nat.le_of_ble_eq_true rfl) (Nat.le_of_ble_eq_true rfl) w_273 w_290 w_271 w_272 w_59 nm_X2_isZero rfl (Nat.le_of_ble_eq_true rfl) dX5_keepWholeOfRaised_56 (fun x13 hf => ?_)
  refine v_if_eq hC hf dX5_keepWholeOfRaised_59 (tgt := 94) (by decide) (fun hf => ?_) (fun hf => ?_)
  · refine v_lload hC 8 dX5_keepWholeOfRaised_94 rfl ?_
    refine v_iload hC 1 dX5_keepWholeOfRaised_96 rfl ?_
    refine v_i2l hC dX5_keepWholeOfRaised_98 ?_
    refine v_lsub hC dX5_keepWholeOfRaised_99 ?_
    refine v_ltL hf (fun l14 hf => ?_)
    refine v_lstore hC [(10, .long l14), (9, .int x10), (8, .int x7), (7, .int x5), (0, .ref a0), (1, .int i1), (2, .int i2), (3, .ref a3), (4, .ref a4), (5, .long j5)] dX5_keepWholeOfRaised_100 hN (Nat.le_of_ble_eq_true rfl) rfl ?_
    refine v_iload hC 1 dX5_keepWholeOfRaised_102 rfl ?_
    refine v_jnE hf (fun z15 kr sr => V K (kr + 0) (sr + 0) σ11 116 [(0, .ref a0), (1, .int i1), (2, .int i2), (3, .ref a3), (4, .ref a4), (5, .long j5), (10, .long l14)] []) (fun z15 _ _ hf => ?_) (fun k15 hk15 hf => ?_)
    · refine v_lload hC 5 dX5_keepWholeOfRaised_116 rfl ?_
      refine v_aload_n hC 0 dX5_keepWholeOfRaised_118 rfl ?_
      refine v_getR hC (host := "") hf fd_5_2 w_187 dX5_keepWholeOfRaised_119 (fun r16 hf => ?_)
      refine v_cVP hC (y := y_X2_endingZeros) (ci := 2) [] [.long j5] (fun r => some (.int r)) (fun r => .int r :: [.long j5]) hf (fun _ h => m_X2_endingZeros h) rfl (fun _ => rfl) rfl rfl hR (Nat.le_of_ble_eq_true rfl) (Nat.le_of_ble_eq_true rfl) w_450 w_447 w_448 w_449 w_59 nm_X2_endingZeros rfl (Nat.le_of_ble_eq_true rfl) dX5_keepWholeOfRaised_122 (fun x17 hf => ?_)
      refine v_i2l hC dX5_keepWholeOfRaised_125 ?_
      refine v_lload hC 6 dX5_keepWholeOfRaised_126 rfl ?_
      refine v_ladd hC dX5_keepWholeOfRaised_128 ?_
      refine v_cSP hC (y := y_J9_min_f86c9) [.long j5, .long (((x17 : Int32).toInt64) + l14)] [] (fun r => some (.long r)) (fun r => .long r :: []) hf (fun _ h => m_J9_min_f86c9 h) rfl (fun _ => rfl) hR (Nat.le_of_ble_eq_true rfl) (Nat.le_of_ble_eq_true rfl) w_389 w_403 w_388 w_65 nm_J9_min_f86c9 rfl (Nat.le_of_ble_eq_true rfl) dX5_keepWholeOfRaised_129 (fun l18 hf => ?_)
      refine v_at 132 rfl ?_
      refine v_lstore hC [(12, .long l18), (0, .ref a0), (1, .int i1), (2, .int i2), (3, .ref a3), (4, .ref a4), (5, .long j5), (10, .long l14)] dX5_keepWholeOfRaised_132 hN (Nat.le_of_ble_eq_true rfl) rfl ?_
      refine v_lload hC 0 dX5_keepWholeOfRaised_134 rfl ?_
      refine v_lload hC 7 dX5_keepWholeOfRaised_136 rfl ?_
      refine v_lsub hC dX5_keepWholeOfRaised_138 ?_
      refine v_l2i hC dX5_keepWholeOfRaised_139 ?_
      refine v_ltI hf (fun x19 hf => ?_)
      refine v_istore hC [(14, .int x19), (12, .long l18), (0, .ref a0), (1, .int i1), (2, .int i2), (3, .ref a3), (4, .ref a4), (5, .long j5), (10, .long l14)] dX5_keepWholeOfRaised_140 hN (Nat.le_of_ble_eq_true rfl) rfl ?_
      refine v_aload_n hC 2 dX5_keepWholeOfRaised_142 rfl ?_
      refine v_getR hC (host := "") hf fd_5_2 w_187 dX5_keepWholeOfRaised_143 (fun r20 hf => ?_)
      refine v_at 146 rfl ?_
      refine v_iload hC 0 dX5_keepWholeOfRaised_146 rfl ?_
      refine v_cVE hC (y := y_X2_drop) (ci := 2) [.int x19] [] (fun _ => none) (fun _ => []) hf (fun _ _ _ _ h => m_X2_drop h) rfl (fun _ => rfl) rfl rfl hR (Nat.le_of_ble_eq_true rfl) (Nat.le_of_ble_eq_true rfl) w_423 w_452 w_421 w_422 w_59 nm_X2_drop rfl (Nat.le_of_ble_eq_true rfl) dX5_keepWholeOfRaised_148 (fun _ σ21 _ _ hf => ?_)
      refine v_aload_n hC 2 dX5_keepWholeOfRaised_151 rfl ?_
      refine v_getR hC (host := "") hf fd_5_1 w_186 dX5_keepWholeOfRaised_152 (fun r22 hf => ?_)
      refine v_iload hC 0 dX5_keepWholeOfRaised_155 rfl ?_
      refine v_cVE hC (y := y_X2_drop) (ci := 2) [.int x19] [] (fun _ => none) (fun _ => []) hf (fun _ _ _ _ h => m_X2_drop h) rfl (fun _ => rfl) rfl rfl hR (Nat.le_of_ble_eq_true rfl) (Nat.le_of_ble_eq_true rfl) w_423 w_452 w_421 w_422 w_59 nm_X2_drop rfl (Nat.le_of_ble_eq_true rfl) dX5_keepWholeOfRaised_157 (fun _ σ23 _ _ hf => ?_)
      refine v_aload_n hC 2 dX5_keepWholeOfRaised_160 rfl ?_
      refine v_iload_n hC 3 dX5_keepWholeOfRaised_161 rfl ?_
      refine v_at 162 rfl ?_
      refine v_iload_n hC 4 dX5_keepWholeOfRaised_162 rfl ?_
      refine v_aload_n hC 5 dX5_keepWholeOfRaised_163 rfl ?_
      refine v_aload hC 6 dX5_keepWholeOfRaised_164 rfl ?_
      refine v_getIN hC hf fd_0_1 n_17 dX5_keepWholeOfRaised_166 (fun x24 hf => ?_)
      refine v_lload hC 1 dX5_keepWholeOfRaised_169 rfl ?_
      refine v_lneg hC dX5_keepWholeOfRaised_171 ?_
      refine v_aload hC 6 dX5_keepWholeOfRaised_172 rfl ?_
      refine v_getIN hC hf fd_0_2 n_19 dX5_keepWholeOfRaised_174 (fun x25 hf => ?_)
      refine v_at 177 rfl ?_
      refine v_i2l hC dX5_keepWholeOfRaised_177 ?_
      refine v_lload hC 1 dX5_keepWholeOfRaised_178 rfl ?_
      refine v_lsub hC dX5_keepWholeOfRaised_180 ?_
      refine v_cVE hC (y := y_X5_keepWhole) (ci := 5) [.int i1, .int i2, .ref a3, .int x24, .long (-l18), .long (((x25 : Int32).toInt64) - l18)] [] (fun r => some (.int r)) (fun r => .int r :: []) hf (fun _ _ _ _ h => m_X5_keepWhole h) rfl (fun _ => rfl) rfl rfl hR (Nat.le_of_ble_eq_true rfl) (Nat.le_of_ble_eq_true rfl) w_468 w_465 w_467 w_17 w_58 nm_X5_keepWhole rfl (Nat.le_of_ble_eq_true rfl) dX5_keepWholeOfRaised_181 (fun x26 σ27 _ _ hf => ?_)
      exact v_retZ hC hf hE dX5_keepWholeOfRaised_184
    · refine v_if_eq hC hf dX5_keepWholeOfRaised_104 (tgt := 116) (by decide) (fun hf => ?_) (fun hf => ?_)
      · exact v_sub [(0, .ref a0), (1, .int i1), (2, .int i2), (3, .ref a3), (4, .ref a4), (5, .long j5), (10, .long l14)] [4, 5, 6, 7, 8, 9, 0] rfl (hk15 _ _ _ hf)
      · refine v_at 107 rfl ?_
        refine v_lload hC 0 dX5_keepWholeOfRaised_107 rfl ?_
        refine v_lconst (v := 0) hC dX5_keepWholeOfRaised_109 (by decide) ?_
        refine v_lcmp_le hC hf dX5_keepWholeOfRaised_110 dX5_keepWholeOfRaised_111 (tgt := 116) (by decide) (fun hf => ?_) (fun hf => ?_)
        · exact v_sub [(0, .ref a0), (1, .int i1), (2, .int i2), (3, .ref a3), (4, .ref a4), (5, .long j5), (10, .long l14)] [4, 5, 6, 7, 8, 9, 0] rfl (hk15 _ _ _ hf)
        · refine v_at 114 rfl ?_
          refine v_iconst (v := 0) hC dX5_keepWholeOfRaised_114 (by decide) ?_
          exact v_retZ hC hf hE dX5_keepWholeOfRaised_115
  · refine v_at 62 rfl ?_
    refine v_aload_n hC 3 dX5_keepWholeOfRaised_62 rfl ?_
    refine v_getR hC (host := "") hf fd_5_1 w_186 dX5_keepWholeOfRaised_63 (fun r28 hf => ?_)
    refine v_aload_n hC 6 dX5_keepWholeOfRaised_66 rfl ?_
    refine v_getRN hC hf fd_0_0 n_15 dX5_keepWholeOfRaised_67 (fun r29 hf => ?_)
    refine v_cVE hC (y := y_X2_become) (ci := 2) [.ref r29] [] (fun _ => none) (fun _ => []) hf (fun _ _ _ _ h => m_X2_become h) rfl (fun _ => rfl) rfl rfl hR (Nat.le_of_ble_eq_true rfl) (Nat.le_of_ble_eq_true rfl) w_245 w_352 w_243 w_244 w_59 nm_X2_become rfl (Nat.le_of_ble_eq_true rfl) dX5_keepWholeOfRaised_70 (fun _ σ30 _ _ hf => ?_)
    refine v_aload_n hC 3 dX5_keepWholeOfRaised_73 rfl ?_
    refine v_iload_n hC 4 dX5_keepWholeOfRaised_74 rfl ?_
    refine v_iload_n hC 5 dX5_keepWholeOfRaised_75 rfl ?_
    refine v_at 76 rfl ?_
    refine v_aload_n hC 6 dX5_keepWholeOfRaised_76 rfl ?_
    refine v_aload hC 7 dX5_keepWholeOfRaised_77 rfl ?_
    refine v_getIN hC hf fd_0_1 n_17 dX5_keepWholeOfRaised_79 (fun x31 hf => ?_)
    refine v_lload hC 8 dX5_keepWholeOfRaised_82 rfl ?_
    refine v_lneg hC dX5_keepWholeOfRaised_84 ?_
    refine v_aload_n hC 6 dX5_keepWholeOfRaised_85 rfl ?_
    refine v_getIN hC hf fd_0_2 n_19 dX5_keepWholeOfRaised_86 (fun x32 hf => ?_)
    refine v_i2l hC dX5_keepWholeOfRaised_89 ?_
    refine v_at 90 rfl ?_
    refine v_cVE hC (y := y_X5_keepWhole) (ci := 5) [.int i1, .int i2, .ref a3, .int x31, .long (-j5), .long ((x32 : Int32).toInt64)] [] (fun r => some (.int r)) (fun r => .int r :: []) hf (fun _ _ _ _ h => m_X5_keepWhole h) rfl (fun _ => rfl) rfl rfl hR (Nat.le_of_ble_eq_true rfl) (Nat.le_of_ble_eq_true rfl) w_468 w_465 w_467 w_17 w_58 nm_X5_keepWhole rfl (Nat.le_of_ble_eq_true rfl) dX5_keepWholeOfRaised_90 (fun x33 σ34 _ _ hf => ?_)
    exact v_retZ hC hf hE dX5_keepWholeOfRaised_93
set_option maxHeartbeats 4000000 in
set_option maxRecDepth 100000 in
theorem m_X5_whole {G : Gm} {l : Launch} {σ : St} {a0 : Nat} {i1 : Int32} {i2 : Int32} {i3 : Int32} {i4 : Int32} {r : Int32} {σf : St} {k s : Nat} (hf : f_X5_whole σ a0 i1 i2 i3 i4 = some (r, σf, k, s)) : (∃ fs : List Value, σ.1 a0 = some (.inr (.inl (5, fs)))) ∧ Ct G l y_X5_whole prog_1_method_10_code 10 (some .boolean) 8 201 [.ref a0, .int i1, .int i2, .int i3, .int i4] σ (some (.int r)) σf k s := by
  unfold f_X5_whole at hf
  obtain ⟨hob, hf⟩ := ob_some hf
  refine ⟨hob, Ct.ofV pl_X5_whole (Nat.le_of_ble_eq_true rfl) ?_⟩
  intro K hR hN hnm hC hE
  show V K (k + 0) (s + 0) σ 0 [(0, .ref a0), (1, .int i1), (2, .int i2), (3, .int i3), (4, .int i4)] []
  refine v_iload_n hC 1 dX5_whole_0 rfl ?_
  refine v_cSP hC (y := y_X5_isRegister) [.int i1] [] (fun r => some (.int r)) (fun r => .int r :: []) hf (fun _ h => m_X5_isRegister h) rfl (fun _ => rfl) hR (Nat.le_of_ble_eq_true rfl) (Nat.le_of_ble_eq_true rfl) w_228 w_226 w_227 w_58 nm_X5_isRegister rfl (Nat.le_of_ble_eq_true rfl) dX5_whole_1 (fun x1 hf => ?_)
  refine v_if_eq hC hf dX5_whole_4 (tgt := 34) (by decide) (fun hf => ?_) (fun hf => ?_)
  · refine v_iconst (v := 0) hC dX5_whole_34 (by decide) ?_
    exact v_retZ hC hf hE dX5_whole_35
  · refine v_at 7 rfl ?_
    refine v_iload_n hC 2 dX5_whole_7 rfl ?_
    refine v_cSP hC (y := y_X5_isRegister) [.int i2] [] (fun r => some (.int r)) (fun r => .int r :: []) hf (fun _ h => m_X5_isRegister h) rfl (fun _ => rfl) hR (Nat.le_of_ble_eq_true rfl) (Nat.le_of_ble_eq_true rfl) w_228 w_226 w_227 w_58 nm_X5_isRegister rfl (Nat.le_of_ble_eq_true rfl) dX5_whole_8 (fun x2 hf => ?_)
    refine v_if_eq hC hf dX5_whole_11 (tgt := 34) (by decide) (fun hf => ?_) (fun hf => ?_)
    · refine v_iconst (v := 0) hC dX5_whole_34 (by decide) ?_
      exact v_retZ hC hf hE dX5_whole_35
    · refine v_at 14 rfl ?_
      refine v_iload_n hC 3 dX5_whole_14 rfl ?_
      refine v_cSP hC (y := y_X5_isRegister) [.int i3] [] (fun r => some (.int r)) (fun r => .int r :: []) hf (fun _ h => m_X5_isRegister h) rfl (fun _ => rfl) hR (Nat.le_of_ble_eq_true rfl) (Nat.le_of_ble_eq_true rfl) w_228 w_226 w_227 w_58 nm_X5_isRegister rfl (Nat.le_of_ble_eq_true rfl) dX5_whole_15 (fun x3 hf => ?_)
      refine v_if_eq hC hf dX5_whole_18 (tgt := 34) (by decide) (fun hf => ?_) (fun hf => ?_)
      · refine v_iconst (v := 0) hC dX5_whole_34 (by decide) ?_
        exact v_retZ hC hf hE dX5_whole_35
      · refine v_at 21 rfl ?_
        refine v_iload hC 4 dX5_whole_21 rfl ?_
        refine v_cSP hC (y := y_X5_isRegister) [.int i4] [] (fun r => some (.int r)) (fun r => .int r :: []) hf (fun _ h => m_X5_isRegister h) rfl (fun _ => rfl) hR (Nat.le_of_ble_eq_true rfl) (Nat.le_of_ble_eq_true rfl) w_228 w_226 w_227 w_58 nm_X5_isRegister rfl (Nat.le_of_ble_eq_true rfl) dX5_whole_23 (fun x4 hf => ?_)
        refine v_if_eq hC hf dX5_whole_26 (tgt := 34) (by decide) (fun hf => ?_) (fun hf => ?_)
        · refine v_iconst (v := 0) hC dX5_whole_34 (by decide) ?_
          exact v_retZ hC hf hE dX5_whole_35
        · refine v_at 29 rfl ?_
          refine v_iload_n hC 1 dX5_whole_29 rfl ?_
          refine v_iload_n hC 2 dX5_whole_30 rfl ?_
          refine v_icmp_ne hC hf dX5_whole_31 (tgt := 36) (by decide) (fun hf => ?_) (fun hf => ?_)
          · refine v_aload_n hC 0 dX5_whole_36 rfl ?_
            refine v_getR hC (host := "") hf fd_5_0 w_185 dX5_whole_37 (fun r5 hf => ?_)
            refine v_iload_n hC 3 dX5_whole_40 rfl ?_
            refine v_ldA hC hf dX5_whole_41 (fun r6 hf => ?_)
            refine v_astore hC [(5, .ref r6), (0, .ref a0), (1, .int i1), (2, .int i2), (3, .int i3), (4, .int i4)] dX5_whole_42 hN (Nat.le_of_ble_eq_true rfl) rfl ?_
            refine v_aload_n hC 1 dX5_whole_44 rfl ?_
            refine v_getR hC (host := "") hf fd_5_0 w_185 dX5_whole_45 (fun r7 hf => ?_)
            refine v_iload hC 5 dX5_whole_48 rfl ?_
            refine v_at 50 rfl ?_
            refine v_ldA hC hf dX5_whole_50 (fun r8 hf => ?_)
            refine v_astore hC [(6, .ref r8), (5, .ref r6), (0, .ref a0), (1, .int i1), (2, .int i2), (3, .int i3), (4, .int i4)] dX5_whole_51 hN (Nat.le_of_ble_eq_true rfl) rfl ?_
            refine v_aload hC 0 dX5_whole_53 rfl ?_
            refine v_getRN hC hf fd_0_0 n_15 dX5_whole_55 (fun r9 hf => ?_)
            refine v_cVP hC (y := y_X2_isZero) (ci := 2) [] [] (fun r => some (.int r)) (fun r => .int r :: []) hf (fun _ h => m_X2_isZero h) rfl (fun _ => rfl) rfl rfl hR (Nat.le_of_ble_eq_true rfl) (Nat.le_of_ble_eq_true rfl) w_273 w_290 w_271 w_272 w_59 nm_X2_isZero rfl (Nat.le_of_ble_eq_true rfl) dX5_whole_58 (fun x10 hf => ?_)
            refine v_if_eq hC hf dX5_whole_61 (tgt := 66) (by decide) (fun hf => ?_) (fun hf => ?_)
            · refine v_aload hC 1 dX5_whole_66 rfl ?_
              refine v_getIN hC hf fd_0_2 n_19 dX5_whole_68 (fun x11 hf => ?_)
              refine v_i2l hC dX5_whole_71 ?_
              refine v_aload hC 0 dX5_whole_72 rfl ?_
              refine v_getIN hC hf fd_0_2 n_19 dX5_whole_74 (fun x12 hf => ?_)
              refine v_i2l hC dX5_whole_77 ?_
              refine v_lsub hC dX5_whole_78 ?_
              refine v_ltL hf (fun l13 hf => ?_)
              refine v_lstore hC [(7, .long l13), (6, .ref r8), (5, .ref r6), (0, .ref a0), (1, .int i1), (2, .int i2), (3, .int i3), (4, .int i4)] dX5_whole_79 hN (Nat.le_of_ble_eq_true rfl) rfl ?_
              refine v_at 81 rfl ?_
              refine v_aload hC 2 dX5_whole_81 rfl ?_
              refine v_getRN hC hf fd_0_0 n_15 dX5_whole_83 (fun r14 hf => ?_)
              refine v_cVP hC (y := y_X2_digitCount) (ci := 2) [] [] (fun r => some (.int r)) (fun r => .int r :: []) hf (fun _ h => m_X2_digitCount h) rfl (fun _ => rfl) rfl rfl hR (Nat.le_of_ble_eq_true rfl) (Nat.le_of_ble_eq_true rfl) w_235 w_232 w_233 w_234 w_59 nm_X2_digitCount rfl (Nat.le_of_ble_eq_true rfl) dX5_whole_86 (fun x15 hf => ?_)
              refine v_i2l hC dX5_whole_89 ?_
              refine v_lload hC 0 dX5_whole_90 rfl ?_
              refine v_lsub hC dX5_whole_92 ?_
              refine v_aload hC 1 dX5_whole_93 rfl ?_
              refine v_getRN hC hf fd_0_0 n_15 dX5_whole_95 (fun r16 hf => ?_)
              refine v_at 98 rfl ?_
              refine v_cVP hC (y := y_X2_digitCount) (ci := 2) [] [.long (((x15 : Int32).toInt64) - l13)] (fun r => some (.int r)) (fun r => .int r :: [.long (((x15 : Int32).toInt64) - l13)]) hf (fun _ h => m_X2_digitCount h) rfl (fun _ => rfl) rfl rfl hR (Nat.le_of_ble_eq_true rfl) (Nat.le_of_ble_eq_true rfl) w_235 w_232 w_233 w_234 w_59 nm_X2_digitCount rfl (Nat.le_of_ble_eq_true rfl) dX5_whole_98 (fun x17 hf => ?_)
              refine v_i2l hC dX5_whole_101 ?_
              refine v_lcmp_ge hC hf dX5_whole_102 dX5_whole_103 (tgt := 147) (by decide) (fun hf => ?_) (fun hf => ?_)
              · refine v_lload hC 0 dX5_whole_147 rfl ?_
                refine v_lconst (v := 0) hC dX5_whole_149 (by decide) ?_
                refine v_lcmp_le hC hf dX5_whole_150 dX5_whole_151 (tgt := 223) (by decide) (fun hf => ?_) (fun hf => ?_)
                · refine v_aload_n hC 3 dX5_whole_223 rfl ?_
                  refine v_iload_n hC 4 dX5_whole_224 rfl ?_
                  refine v_iload_n hC 5 dX5_whole_225 rfl ?_
                  refine v_aload hC 2 dX5_whole_226 rfl ?_
                  refine v_aload hC 1 dX5_whole_228 rfl ?_
                  refine v_lload hC 0 dX5_whole_230 rfl ?_
                  refine v_lneg hC dX5_whole_232 ?_
                  refine v_cVE hC (y := y_X5_keepWholeOfRaised) (ci := 5) [.int i1, .int i2, .ref r6, .ref r8, .long (-l13)] [] (fun r => some (.int r)) (fun r => .int r :: []) hf (fun _ _ _ _ h => m_X5_keepWholeOfRaised h) rfl (fun _ => rfl) rfl rfl hR (Nat.le_of_ble_eq_true rfl) (Nat.le_of_ble_eq_true rfl) w_472 w_469 w_471 w_18 w_58 nm_X5_keepWholeOfRaised rfl (Nat.le_of_ble_eq_true rfl) dX5_whole_233 (fun x18 σ19 _ _ hf => ?_)
                  refine v_at 236 rfl ?_
                  exact v_retZ hC hf hE dX5_whole_236
                · refine v_at 154 rfl ?_
                  refine v_lload hC 0 dX5_whole_154 rfl ?_
                  refine v_l2i hC dX5_whole_156 ?_
                  refine v_ltI hf (fun x20 hf => ?_)
                  refine v_istore hC [(9, .int x20), (7, .long l13), (6, .ref r8), (5, .ref r6), (0, .ref a0), (1, .int i1), (2, .int i2), (3, .int i3), (4, .int i4)] dX5_whole_157 hN (Nat.le_of_ble_eq_true rfl) rfl ?_
                  refine v_aload_n hC 4 dX5_whole_159 rfl ?_
                  refine v_getR hC (host := "") hf fd_5_3 w_188 dX5_whole_160 (fun r21 hf => ?_)
                  refine v_aload hC 2 dX5_whole_163 rfl ?_
                  refine v_getRN hC hf fd_0_0 n_15 dX5_whole_165 (fun r22 hf => ?_)
                  refine v_iload hC 0 dX5_whole_168 rfl ?_
                  refine v_at 170 rfl ?_
                  refine v_cVE hC (y := y_X2_raise) (ci := 2) [.ref r22, .int x20] [] (fun _ => none) (fun _ => []) hf (fun _ _ _ _ h => m_X2_raise h) rfl (fun _ => rfl) rfl rfl hR (Nat.le_of_ble_eq_true rfl) (Nat.le_of_ble_eq_true rfl) w_299 w_296 w_297 w_298 w_59 nm_X2_raise rfl (Nat.le_of_ble_eq_true rfl) dX5_whole_170 (fun _ σ23 _ _ hf => ?_)
                  refine v_aload_n hC 4 dX5_whole_173 rfl ?_
                  refine v_aload hC 3 dX5_whole_174 rfl ?_
                  refine v_getRN hC hf fd_0_0 n_15 dX5_whole_176 (fun r24 hf => ?_)
                  refine v_iconst (v := 0) hC dX5_whole_179 (by decide) ?_
                  refine v_aload_n hC 4 dX5_whole_180 rfl ?_
                  refine v_getR hC (host := "") hf fd_5_3 w_188 dX5_whole_181 (fun r25 hf => ?_)
                  refine v_cVE hC (y := y_X5_divideRaised) (ci := 5) [.ref r24, .int 0, .ref r25] [] (fun r => some (.int r)) (fun r => .int r :: []) hf (fun _ _ _ _ h => m_X5_divideRaised h) rfl (fun _ => rfl) rfl rfl hR (Nat.le_of_ble_eq_true rfl) (Nat.le_of_ble_eq_true rfl) w_370 w_367 w_369 w_7 w_58 nm_X5_divideRaised rfl (Nat.le_of_ble_eq_true rfl) dX5_whole_184 (fun x26 σ27 _ _ hf => ?_)
                  refine v_at 187 rfl ?_
                  refine v_pop hC dX5_whole_187 rfl ?_
                  refine v_aload_n hC 4 dX5_whole_188 rfl ?_
                  refine v_getR hC (host := "") hf fd_5_2 w_187 dX5_whole_189 (fun r28 hf => ?_)
                  refine v_aload_n hC 4 dX5_whole_192 rfl ?_
                  refine v_getR hC (host := "") hf fd_5_2 w_187 dX5_whole_193 (fun r29 hf => ?_)
                  refine v_iload hC 0 dX5_whole_196 rfl ?_
                  refine v_cVE hC (y := y_X2_raise) (ci := 2) [.ref r29, .int x20] [] (fun _ => none) (fun _ => []) hf (fun _ _ _ _ h => m_X2_raise h) rfl (fun _ => rfl) rfl rfl hR (Nat.le_of_ble_eq_true rfl) (Nat.le_of_ble_eq_true rfl) w_299 w_296 w_297 w_298 w_59 nm_X2_raise rfl (Nat.le_of_ble_eq_true rfl) dX5_whole_198 (fun _ σ30 _ _ hf => ?_)
                  refine v_aload_n hC 4 dX5_whole_201 rfl ?_
                  refine v_at 202 rfl ?_
                  refine v_iload_n hC 5 dX5_whole_202 rfl ?_
                  refine v_iload_n hC 6 dX5_whole_203 rfl ?_
                  refine v_aload hC 3 dX5_whole_204 rfl ?_
                  refine v_aload hC 2 dX5_whole_206 rfl ?_
                  refine v_getIN hC hf fd_0_1 n_17 dX5_whole_208 (fun x31 hf => ?_)
                  refine v_lload hC 1 dX5_whole_211 rfl ?_
                  refine v_aload hC 3 dX5_whole_213 rfl ?_
                  refine v_getIN hC hf fd_0_2 n_19 dX5_whole_215 (fun x32 hf => ?_)
                  refine v_at 218 rfl ?_
                  refine v_i2l hC dX5_whole_218 ?_
                  refine v_cVE hC (y := y_X5_keepWhole) (ci := 5) [.int i1, .int i2, .ref r6, .int x31, .long l13, .long ((x32 : Int32).toInt64)] [] (fun r => some (.int r)) (fun r => .int r :: []) hf (fun _ _ _ _ h => m_X5_keepWhole h) rfl (fun _ => rfl) rfl rfl hR (Nat.le_of_ble_eq_true rfl) (Nat.le_of_ble_eq_true rfl) w_468 w_465 w_467 w_17 w_58 nm_X5_keepWhole rfl (Nat.le_of_ble_eq_true rfl) dX5_whole_219 (fun x33 σ34 _ _ hf => ?_)
                  exact v_retZ hC hf hE dX5_whole_222
              · refine v_at 106 rfl ?_
                refine v_aload_n hC 3 dX5_whole_106 rfl ?_
                refine v_getR hC (host := "") hf fd_5_2 w_187 dX5_whole_107 (fun r35 hf => ?_)
                refine v_cVE hC (y := y_X2_clear) (ci := 2) [] [] (fun _ => none) (fun _ => []) hf (fun _ _ _ _ h => m_X2_clear h) rfl (fun _ => rfl) rfl rfl hR (Nat.le_of_ble_eq_true rfl) (Nat.le_of_ble_eq_true rfl) w_294 w_291 w_292 w_293 w_59 nm_X2_clear rfl (Nat.le_of_ble_eq_true rfl) dX5_whole_110 (fun _ σ36 _ _ hf => ?_)
                refine v_aload_n hC 3 dX5_whole_113 rfl ?_
                refine v_getR hC (host := "") hf fd_5_1 w_186 dX5_whole_114 (fun r37 hf => ?_)
                refine v_aload hC 2 dX5_whole_117 rfl ?_
                refine v_getRN hC hf fd_0_0 n_15 dX5_whole_119 (fun r38 hf => ?_)
                refine v_cVE hC (y := y_X2_become) (ci := 2) [.ref r38] [] (fun _ => none) (fun _ => []) hf (fun _ _ _ _ h => m_X2_become h) rfl (fun _ => rfl) rfl rfl hR (Nat.le_of_ble_eq_true rfl) (Nat.le_of_ble_eq_true rfl) w_245 w_352 w_243 w_244 w_59 nm_X2_become rfl (Nat.le_of_ble_eq_true rfl) dX5_whole_122 (fun _ σ39 _ _ hf => ?_)
                refine v_at 125 rfl ?_
                refine v_aload_n hC 3 dX5_whole_125 rfl ?_
                refine v_iload_n hC 4 dX5_whole_126 rfl ?_
                refine v_iload_n hC 5 dX5_whole_127 rfl ?_
                refine v_aload hC 2 dX5_whole_128 rfl ?_
                refine v_aload hC 1 dX5_whole_130 rfl ?_
                refine v_getIN hC hf fd_0_1 n_17 dX5_whole_132 (fun x40 hf => ?_)
                refine v_lload hC 0 dX5_whole_135 rfl ?_
                refine v_aload hC 2 dX5_whole_137 rfl ?_
                refine v_at 139 rfl ?_
                refine v_getIN hC hf fd_0_2 n_19 dX5_whole_139 (fun x41 hf => ?_)
                refine v_i2l hC dX5_whole_142 ?_
                refine v_cVE hC (y := y_X5_keepWhole) (ci := 5) [.int i1, .int i2, .ref r6, .int x40, .long l13, .long ((x41 : Int32).toInt64)] [] (fun r => some (.int r)) (fun r => .int r :: []) hf (fun _ _ _ _ h => m_X5_keepWhole h) rfl (fun _ => rfl) rfl rfl hR (Nat.le_of_ble_eq_true rfl) (Nat.le_of_ble_eq_true rfl) w_468 w_465 w_467 w_17 w_58 nm_X5_keepWhole rfl (Nat.le_of_ble_eq_true rfl) dX5_whole_143 (fun x42 σ43 _ _ hf => ?_)
                exact v_retZ hC hf hE dX5_whole_146
            · refine v_at 64 rfl ?_
              refine v_iconst (v := 0) hC dX5_whole_64 (by decide) ?_
              exact v_retZ hC hf hE dX5_whole_65
          · refine v_at 34 rfl ?_
            refine v_iconst (v := 0) hC dX5_whole_34 (by decide) ?_
            exact v_retZ hC hf hE dX5_whole_35
