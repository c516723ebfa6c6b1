def E_X6_exact_L7 (K : Cq) (a0 : Nat) (i1 : Int32) (i2 : Int32) (j3 : Int64) (y : Int32) (σ : St) (kr sr : Nat) : Prop := V K kr sr σ 94 [(0, .ref a0), (1, .int i1), (2, .int i2), (3, .long j3), (5, .int y)] []
set_option maxHeartbeats 4000000 in
set_option maxRecDepth 100000 in
theorem v_X6_exact_L7 {K : Cq} {k0 s0 : Nat} (hC : Cx K prog_8_method_32_code "TensMillModel") (hR : kR K = rmF 4 91 k0 s0) (hN : kn K = 7) {ko so : Nat} : ∀ (n : Nat) (σ : St) (a0 : Nat) (i1 : Int32) (i2 : Int32) (j3 : Int64) (i5 : Int32) (y : Int32) (σf : St) (kr sr : Nat), f_X6_exact_L7 n σ a0 i1 i2 j3 i5 = some (y, σf, kr, sr) → E_X6_exact_L7 K a0 i1 i2 j3 y σf ko so → V K (kr + ko) (sr + so) σ 7 [(0, .ref a0), (1, .int i1), (2, .int i2), (3, .long j3), (5, .int i5)] [] := by
  intro n
  induction n with
  | zero =>
    intro σ a0 i1 i2 j3 i5 y σf kr sr hf hE
    cases hf
  | succ n ih =>
    intro σ a0 i1 i2 j3 i5 y σf kr sr hf hE
    replace hf : b_X6_exact_L7 (f_X6_exact_L7 n) σ a0 i1 i2 j3 i5 = some (y, σf, kr, sr) := hf
    unfold b_X6_exact_L7 at hf
    refine v_aload_n hC 0 dX6_exact_7 rfl ?_
    refine v_getR hC (host := "") hf fd_6_5 w_663 dX6_exact_8 (fun r2 hf => ?_)
    refine v_iconst (v := 3) hC dX6_exact_11 (by decide) ?_
    refine v_ldI hC hf dX6_exact_12 (fun x3 hf => ?_)
    refine v_if_le hC hf dX6_exact_13 (tgt := 94) (by decide) (fun hf => ?_) (fun hf => ?_)
    · obtain ⟨hX, e1, e2⟩ := v_exE (E := E_X6_exact_L7 K a0 i1 i2 j3) hf hE
      rw [e1, e2]
      exact v_sub [(0, .ref a0), (1, .int i1), (2, .int i2), (3, .long j3), (5, .int i5)] [0, 1, 2, 3, 4] rfl hX
    · refine v_at 16 rfl ?_
      refine v_iload hC 4 dX6_exact_16 rfl ?_
      refine v_sipush (v := 8200) hC dX6_exact_18 (by decide) ?_
      refine v_icmp_ge hC hf dX6_exact_21 (tgt := 94) (by decide) (fun hf => ?_) (fun hf => ?_)
      · obtain ⟨hX, e1, e2⟩ := v_exE (E := E_X6_exact_L7 K a0 i1 i2 j3) hf hE
        rw [e1, e2]
        exact v_sub [(0, .ref a0), (1, .int i1), (2, .int i2), (3, .long j3), (5, .int i5)] [0, 1, 2, 3, 4] rfl hX
      · refine v_at 24 rfl ?_
        refine v_aload_n hC 0 dX6_exact_24 rfl ?_
        refine v_getR hC (host := "") hf fd_6_5 w_663 dX6_exact_25 (fun r4 hf => ?_)
        refine v_iconst (v := 2) hC dX6_exact_28 (by decide) ?_
        refine v_ldI hC hf dX6_exact_29 (fun x5 hf => ?_)
        refine v_sipush (v := 4096) hC dX6_exact_30 (by decide) ?_
        refine v_icmp_gt hC hf dX6_exact_33 (tgt := 94) (by decide) (fun hf => ?_) (fun hf => ?_)
        · obtain ⟨hX, e1, e2⟩ := v_exE (E := E_X6_exact_L7 K a0 i1 i2 j3) hf hE
          rw [e1, e2]
          exact v_sub [(0, .ref a0), (1, .int i1), (2, .int i2), (3, .long j3), (5, .int i5)] [0, 1, 2, 3, 4] rfl hX
        · refine v_at 36 rfl ?_
          refine v_aload_n hC 0 dX6_exact_36 rfl ?_
          refine v_iconst (v := 0) hC dX6_exact_37 (by decide) ?_
          refine v_cVE hC (y := y_X6_step) (ci := 6) [.int 0] [] (fun r => some (.int r)) (fun r => .int r :: []) hf (fun _ _ _ _ h => m_X6_step h) rfl (fun _ => rfl) rfl rfl hR (Nat.le_of_ble_eq_true rfl) (Nat.le_of_ble_eq_true rfl) w_776 w_773 w_775 w_37 w_64 nm_X6_step rfl (Nat.le_of_ble_eq_true rfl) dX6_exact_38 (fun x6 σ7 _ _ hf => ?_)
          refine v_istore hC [(6, .int x6), (0, .ref a0), (1, .int i1), (2, .int i2), (3, .long j3), (5, .int i5)] dX6_exact_41 hN (Nat.le_of_ble_eq_true rfl) rfl ?_
          refine v_aload_n hC 1 dX6_exact_43 rfl ?_
          refine v_iconst (v := 2) hC dX6_exact_44 (by decide) ?_
          refine v_iconst (v := 1) hC dX6_exact_45 (by decide) ?_
          refine v_cVE hC (y := y_X6_raise) (ci := 6) [.int 2, .int 1] [] (fun _ => none) (fun _ => []) hf (fun _ _ _ _ h => m_X6_raise h) rfl (fun _ => rfl) rfl rfl hR (Nat.le_of_ble_eq_true rfl) (Nat.le_of_ble_eq_true rfl) w_726 w_723 w_725 w_30 w_64 nm_X6_raise rfl (Nat.le_of_ble_eq_true rfl) dX6_exact_46 (fun _ σ8 _ _ hf => ?_)
          refine v_at 49 rfl ?_
          refine v_aload_n hC 1 dX6_exact_49 rfl ?_
          refine v_getR hC (host := "") hf fd_6_5 w_663 dX6_exact_50 (fun r9 hf => ?_)
          refine v_iconst (v := 2) hC dX6_exact_53 (by decide) ?_
          refine v_ldI hC hf dX6_exact_54 (fun x10 hf => ?_)
          refine v_jnE hf (fun z11 kr sr => V K (kr + ko) (sr + so) z11 70 [(0, .ref a0), (1, .int i1), (2, .int i2), (3, .long j3), (5, .int i5), (6, .int x6)] []) (fun z11 _ _ hf => ?_) (fun k11 hk11 hf => ?_)
          · refine v_aload_n hC 0 dX6_exact_70 rfl ?_
            refine v_getR hC (host := "") hf fd_6_5 w_663 dX6_exact_71 (fun r12 hf => ?_)
            refine v_iconst (v := 2) hC dX6_exact_74 (by decide) ?_
            refine v_ldI hC hf dX6_exact_75 (fun x13 hf => ?_)
            refine v_jnE hf (fun z14 kr sr => V K (kr + ko) (sr + so) z14 88 [(0, .ref a0), (1, .int i1), (2, .int i2), (3, .long j3), (5, .int i5)] []) (fun z14 _ _ hf => ?_) (fun k14 hk14 hf => ?_)
            · refine v_incL hC hf 4 (fun x15 => [(5, .int x15), (0, .ref a0), (1, .int i1), (2, .int i2), (3, .long j3)]) dX6_exact_88 rfl (by decide) hN (Nat.le_of_ble_eq_true rfl) (fun _ => rfl) (fun x15 hf => ?_)
              refine v_goto (tgt := 7) hC dX6_exact_91 (by decide) ?_
              exact v_sub [(0, .ref a0), (1, .int i1), (2, .int i2), (3, .long j3), (5, .int x15)] [1, 2, 3, 4, 0] rfl (ih _ _ _ _ _ _ _ _ _ _ hf hE)
            · refine v_if_le hC hf dX6_exact_76 (tgt := 88) (by decide) (fun hf => ?_) (fun hf => ?_)
              · exact v_sub [(0, .ref a0), (1, .int i1), (2, .int i2), (3, .long j3), (5, .int i5)] [0, 1, 2, 3, 4] rfl (hk14 _ _ _ hf)
              · refine v_at 79 rfl ?_
                refine v_aload_n hC 0 dX6_exact_79 rfl ?_
                refine v_getR hC (host := "") hf fd_6_4 w_662 dX6_exact_80 (fun r16 hf => ?_)
                refine v_ldc hC dX6_exact_83 w_755 ?_
                refine v_iload hC 5 dX6_exact_85 rfl ?_
                refine v_stI hC hf dX6_exact_87 (fun σ17 hf => ?_)
                refine v_at 88 rfl ?_
                exact v_sub [(0, .ref a0), (1, .int i1), (2, .int i2), (3, .long j3), (5, .int i5)] [0, 1, 2, 3, 4] rfl (hk14 _ _ _ hf)
          · refine v_if_ne hC hf dX6_exact_55 (tgt := 70) (by decide) (fun hf => ?_) (fun hf => ?_)
            · exact v_sub [(0, .ref a0), (1, .int i1), (2, .int i2), (3, .long j3), (5, .int i5), (6, .int x6)] [1, 2, 3, 4, 5, 0] rfl (hk11 _ _ _ hf)
            · refine v_at 58 rfl ?_
              refine v_iload hC 0 dX6_exact_58 rfl ?_
              refine v_if_le hC hf dX6_exact_60 (tgt := 70) (by decide) (fun hf => ?_) (fun hf => ?_)
              · exact v_sub [(0, .ref a0), (1, .int i1), (2, .int i2), (3, .long j3), (5, .int i5), (6, .int x6)] [1, 2, 3, 4, 5, 0] rfl (hk11 _ _ _ hf)
              · refine v_at 63 rfl ?_
                refine v_aload_n hC 1 dX6_exact_63 rfl ?_
                refine v_getR hC (host := "") hf fd_6_5 w_663 dX6_exact_64 (fun r18 hf => ?_)
                refine v_iconst (v := 2) hC dX6_exact_67 (by decide) ?_
                refine v_iconst (v := 1) hC dX6_exact_68 (by decide) ?_
                refine v_stI hC hf dX6_exact_69 (fun σ19 hf => ?_)
                refine v_at 70 rfl ?_
                exact v_sub [(0, .ref a0), (1, .int i1), (2, .int i2), (3, .long j3), (5, .int i5), (6, .int x6)] [1, 2, 3, 4, 5, 0] rfl (hk11 _ _ _ hf)
set_option maxHeartbeats 4000000 in
set_option maxRecDepth 100000 in
theorem m_X6_exact {G : Gm} {l : Launch} {σ : St} {a0 : Nat} {i1 : Int32} {i2 : Int32} {j3 : Int64} {r : Int32} {σf : St} {k s : Nat} (hf : f_X6_exact σ a0 i1 i2 j3 = some (r, σf, k, s)) : (∃ fs : List Value, σ.1 a0 = some (.inr (.inl (6, fs)))) ∧ Ct G l y_X6_exact prog_8_method_32_code 7 (some .boolean) 4 91 [.ref a0, .int i1, .int i2, .long j3] σ (some (.int r)) σf k s := by
  unfold f_X6_exact at hf
  obtain ⟨hob, hf⟩ := ob_some hf
  refine ⟨hob, Ct.ofV pl_X6_exact (Nat.le_of_ble_eq_true rfl) ?_⟩
  intro K hR hN hnm hC hE
  show V K (k + 0) (s + 0) σ 0 [(0, .ref a0), (1, .int i1), (2, .int i2), (3, .long j3)] []
  refine v_aload_n hC 0 dX6_exact_0 rfl ?_
  refine v_cVE hC (y := y_X6_quotient) (ci := 6) [] [] (fun _ => none) (fun _ => []) hf (fun _ _ _ _ h => m_X6_quotient h) rfl (fun _ => rfl) rfl rfl hR (Nat.le_of_ble_eq_true rfl) (Nat.le_of_ble_eq_true rfl) w_772 w_769 w_771 w_36 w_64 nm_X6_quotient rfl (Nat.le_of_ble_eq_true rfl) dX6_exact_1 (fun _ σ1 _ _ hf => ?_)
  refine v_iconst (v := 0) hC dX6_exact_4 (by decide) ?_
  refine v_istore hC [(5, .int 0), (0, .ref a0), (1, .int i1), (2, .int i2), (3, .long j3)] dX6_exact_5 hN (Nat.le_of_ble_eq_true rfl) rfl ?_
  refine v_at 7 rfl ?_
  refine v_sub [(0, .ref a0), (1, .int i1), (2, .int i2), (3, .long j3), (5, .int 0)] [1, 2, 3, 4, 0] rfl ?_
  refine v_lpE hf (E_X6_exact_L7 K a0 i1 i2 j3) (fun _ _ _ _ _ _ h hE => v_X6_exact_L7 hC hR hN _ _ _ _ _ _ _ _ _ _ _ h hE) (fun y20 σ21 _ _ hf => ?_)
  show V K _ _ σ21 94 [(0, .ref a0), (1, .int i1), (2, .int i2), (3, .long j3), (5, .int y20)] []
  refine v_aload_n hC 0 dX6_exact_94 rfl ?_
  refine v_getR hC (host := "") hf fd_6_5 w_663 dX6_exact_95 (fun r22 hf => ?_)
  refine v_iconst (v := 3) hC dX6_exact_98 (by decide) ?_
  refine v_ldI hC hf dX6_exact_99 (fun x23 hf => ?_)
  refine v_if_ne hC hf dX6_exact_100 (tgt := 122) (by decide) (fun hf => ?_) (fun hf => ?_)
  · refine v_iconst (v := 0) hC dX6_exact_122 (by decide) ?_
    exact v_retZ hC hf hE dX6_exact_123
  · refine v_at 103 rfl ?_
    refine v_aload_n hC 0 dX6_exact_103 rfl ?_
    refine v_iload_n hC 1 dX6_exact_104 rfl ?_
    refine v_iconst (v := 2) hC dX6_exact_105 (by decide) ?_
    refine v_iload_n hC 2 dX6_exact_106 rfl ?_
    refine v_lload_n hC 3 dX6_exact_107 rfl ?_
    refine v_iload hC 4 dX6_exact_108 rfl ?_
    refine v_i2l hC dX6_exact_110 ?_
    refine v_ladd hC dX6_exact_111 ?_
    refine v_at 112 rfl ?_
    refine v_cVE hC (y := y_X6_store) (ci := 6) [.int i1, .int 2, .int i2, .long (j3 + ((y20 : Int32).toInt64))] [] (fun r => some (.int r)) (fun r => .int r :: []) hf (fun _ _ _ _ h => m_X6_store h) rfl (fun _ => rfl) rfl rfl hR (Nat.le_of_ble_eq_true rfl) (Nat.le_of_ble_eq_true rfl) w_703 w_700 w_702 w_27 w_64 nm_X6_store rfl (Nat.le_of_ble_eq_true rfl) dX6_exact_112 (fun x24 σ25 _ _ hf => ?_)
    refine v_if_eq hC hf dX6_exact_115 (tgt := 122) (by decide) (fun hf => ?_) (fun hf => ?_)
    · refine v_iconst (v := 0) hC dX6_exact_122 (by decide) ?_
      exact v_retZ hC hf hE dX6_exact_123
    · refine v_at 118 rfl ?_
      refine v_iconst (v := 1) hC dX6_exact_118 (by decide) ?_
      refine v_goto (tgt := 123) hC dX6_exact_119 (by decide) ?_
      exact v_retZ hC hf hE dX6_exact_123
set_option maxHeartbeats 4000000 in
set_option maxRecDepth 100000 in
theorem m_X6_settle {G : Gm} {l : Launch} {σ : St} {a0 : Nat} {i1 : Int32} {i2 : Int32} {j3 : Int64} {j5 : Int64} {i7 : Int32} {r : Int32} {σf : St} {k s : Nat} (hf : f_X6_settle σ a0 i1 i2 j3 j5 i7 = some (r, σf, k, s)) : (∃ fs : List Value, σ.1 a0 = some (.inr (.inl (6, fs)))) ∧ Ct G l y_X6_settle prog_8_method_31_code 13 (some .boolean) 1 27 [.ref a0, .int i1, .int i2, .long j3, .long j5, .int i7] σ (some (.int r)) σf k s := by
  unfold f_X6_settle at hf
  obtain ⟨hob, hf⟩ := ob_some hf
  refine ⟨hob, Ct.ofV pl_X6_settle (Nat.le_of_ble_eq_true rfl) ?_⟩
  intro K hR hN hnm hC hE
  show V K (k + 0) (s + 0) σ 0 [(0, .ref a0), (1, .int i1), (2, .int i2), (3, .long j3), (5, .long j5), (7, .int i7)] []
  refine v_aload_n hC 0 dX6_settle_0 rfl ?_
  refine v_iconst (v := 2) hC dX6_settle_1 (by decide) ?_
  refine v_cVP hC (y := y_X6_zeros) (ci := 6) [.int 2] [] (fun r => some (.int r)) (fun r => .int r :: []) hf (fun _ h => m_X6_zeros h) rfl (fun _ => rfl) rfl rfl hR (Nat.le_of_ble_eq_true rfl) (Nat.le_of_ble_eq_true rfl) w_820 w_817 w_819 w_46 w_64 nm_X6_zeros rfl (Nat.le_of_ble_eq_true rfl) dX6_settle_2 (fun x1 hf => ?_)
  refine v_istore hC [(8, .int x1), (0, .ref a0), (1, .int i1), (2, .int i2), (3, .long j3), (5, .long j5), (7, .int i7)] dX6_settle_5 hN (Nat.le_of_ble_eq_true rfl) rfl ?_
  refine v_aload_n hC 1 dX6_settle_7 rfl ?_
  refine v_iconst (v := 2) hC dX6_settle_8 (by decide) ?_
  refine v_iload hC 0 dX6_settle_9 rfl ?_
  refine v_i2l hC dX6_settle_11 ?_
  refine v_at 12 rfl ?_
  refine v_cVE hC (y := y_X6_lower) (ci := 6) [.int 2, .long ((x1 : Int32).toInt64)] [] (fun _ => none) (fun _ => []) hf (fun _ _ _ _ h => m_X6_lower h) rfl (fun _ => rfl) rfl rfl hR (Nat.le_of_ble_eq_true rfl) (Nat.le_of_ble_eq_true rfl) w_808 w_805 w_807 w_43 w_64 nm_X6_lower rfl (Nat.le_of_ble_eq_true rfl) dX6_settle_12 (fun _ σ2 _ _ hf => ?_)
  refine v_lload_n hC 4 dX6_settle_15 rfl ?_
  refine v_iload hC 0 dX6_settle_16 rfl ?_
  refine v_i2l hC dX6_settle_18 ?_
  refine v_lsub hC dX6_settle_19 ?_
  refine v_ltL hf (fun l3 hf => ?_)
  refine v_lstore hC [(9, .long l3), (8, .int x1), (0, .ref a0), (1, .int i1), (2, .int i2), (3, .long j3), (5, .long j5), (7, .int i7)] dX6_settle_20 hN (Nat.le_of_ble_eq_true rfl) rfl ?_
  refine v_lload hC 6 dX6_settle_22 rfl ?_
  refine v_lload hC 0 dX6_settle_24 rfl ?_
  refine v_at 26 rfl ?_
  refine v_jnE hf (fun z4 kr sr => V K (kr + 0) (sr + 0) σ2 37 [(0, .ref a0), (1, .int i1), (2, .int i2), (7, .int i7), (9, .long l3)] [.long z4]) (fun z4 _ _ hf => ?_) (fun k4 hk4 hf => ?_)
  · refine v_lstore hC [(11, .long z4), (0, .ref a0), (1, .int i1), (2, .int i2), (7, .int i7), (9, .long l3)] dX6_settle_37 hN (Nat.le_of_ble_eq_true rfl) rfl ?_
    refine v_lload hC 0 dX6_settle_39 rfl ?_
    refine v_lload hC 5 dX6_settle_41 rfl ?_
    refine v_iload hC 4 dX6_settle_43 rfl ?_
    refine v_i2l hC dX6_settle_45 ?_
    refine v_ladd hC dX6_settle_46 ?_
    refine v_aload_n hC 1 dX6_settle_47 rfl ?_
    refine v_getR hC (host := "") hf fd_6_5 w_663 dX6_settle_48 (fun r5 hf => ?_)
    refine v_at 51 rfl ?_
    refine v_iconst (v := 2) hC dX6_settle_51 (by decide) ?_
    refine v_ldI hC hf dX6_settle_52 (fun x6 hf => ?_)
    refine v_i2l hC dX6_settle_53 ?_
    refine v_lsub hC dX6_settle_54 ?_
    refine v_jnE hf (fun z7 kr sr => V K (kr + 0) (sr + 0) σ2 78 [(0, .ref a0), (1, .int i1), (2, .int i2), (9, .long l3)] [.long z7]) (fun z7 _ _ hf => ?_) (fun k7 hk7 hf => ?_)
    · refine v_lstore hC [(11, .long z7), (0, .ref a0), (1, .int i1), (2, .int i2), (9, .long l3)] dX6_settle_78 hN (Nat.le_of_ble_eq_true rfl) rfl ?_
      refine v_aload_n hC 1 dX6_settle_80 rfl ?_
      refine v_iconst (v := 2) hC dX6_settle_81 (by decide) ?_
      refine v_lload hC 0 dX6_settle_82 rfl ?_
      refine v_lload hC 4 dX6_settle_84 rfl ?_
      refine v_lsub hC dX6_settle_86 ?_
      refine v_l2i hC dX6_settle_87 ?_
      refine v_cVE hC (y := y_X6_raise) (ci := 6) [.int 2, .int ((z7 - l3 : Int64).toInt32)] [] (fun _ => none) (fun _ => []) hf (fun _ _ _ _ h => m_X6_raise h) rfl (fun _ => rfl) rfl rfl hR (Nat.le_of_ble_eq_true rfl) (Nat.le_of_ble_eq_true rfl) w_726 w_723 w_725 w_30 w_64 nm_X6_raise rfl (Nat.le_of_ble_eq_true rfl) dX6_settle_88 (fun _ σ8 _ _ hf => ?_)
      refine v_at 91 rfl ?_
      refine v_aload_n hC 1 dX6_settle_91 rfl ?_
      refine v_iload_n hC 2 dX6_settle_92 rfl ?_
      refine v_iconst (v := 2) hC dX6_settle_93 (by decide) ?_
      refine v_iload_n hC 3 dX6_settle_94 rfl ?_
      refine v_lload hC 0 dX6_settle_95 rfl ?_
      refine v_cVE hC (y := y_X6_store) (ci := 6) [.int i1, .int 2, .int i2, .long z7] [] (fun r => some (.int r)) (fun r => .int r :: []) hf (fun _ _ _ _ h => m_X6_store h) rfl (fun _ => rfl) rfl rfl hR (Nat.le_of_ble_eq_true rfl) (Nat.le_of_ble_eq_true rfl) w_703 w_700 w_702 w_27 w_64 nm_X6_store rfl (Nat.le_of_ble_eq_true rfl) dX6_settle_97 (fun x9 σ10 _ _ hf => ?_)
      exact v_retZ hC hf hE dX6_settle_100
    · refine v_lcmp_le hC hf dX6_settle_55 dX6_settle_56 (tgt := 76) (by decide) (fun hf => ?_) (fun hf => ?_)
      · refine v_lload hC 0 dX6_settle_76 rfl ?_
        refine v_at 78 rfl ?_
        exact v_sub [(0, .ref a0), (1, .int i1), (2, .int i2), (9, .long l3)] [1, 2, 3, 5] rfl (hk7 _ _ _ hf)
      · refine v_at 59 rfl ?_
        refine v_lload hC 5 dX6_settle_59 rfl ?_
        refine v_iload hC 4 dX6_settle_61 rfl ?_
        refine v_i2l hC dX6_settle_63 ?_
        refine v_ladd hC dX6_settle_64 ?_
        refine v_aload_n hC 1 dX6_settle_65 rfl ?_
        refine v_getR hC (host := "") hf fd_6_5 w_663 dX6_settle_66 (fun r11 hf => ?_)
        refine v_iconst (v := 2) hC dX6_settle_69 (by decide) ?_
        refine v_ldI hC hf dX6_settle_70 (fun x12 hf => ?_)
        refine v_at 71 rfl ?_
        refine v_i2l hC dX6_settle_71 ?_
        refine v_lsub hC dX6_settle_72 ?_
        refine v_goto (tgt := 78) hC dX6_settle_73 (by decide) ?_
        exact v_sub [(0, .ref a0), (1, .int i1), (2, .int i2), (9, .long l3)] [1, 2, 3, 5] rfl (hk7 _ _ _ hf)
  · refine v_lcmp_le hC hf dX6_settle_26 dX6_settle_27 (tgt := 35) (by decide) (fun hf => ?_) (fun hf => ?_)
    · refine v_lload hC 0 dX6_settle_35 rfl ?_
      refine v_at 37 rfl ?_
      exact v_sub [(0, .ref a0), (1, .int i1), (2, .int i2), (7, .int i7), (9, .long l3)] [2, 3, 4, 7, 0] rfl (hk4 _ _ _ hf)
    · refine v_at 30 rfl ?_
      refine v_lload hC 6 dX6_settle_30 rfl ?_
      refine v_goto (tgt := 37) hC dX6_settle_32 (by decide) ?_
      exact v_sub [(0, .ref a0), (1, .int i1), (2, .int i2), (7, .int i7), (9, .long l3)] [2, 3, 4, 7, 0] rfl (hk4 _ _ _ hf)
set_option maxHeartbeats 4000000 in
set_option maxRecDepth 100000 in
theorem m_X6_ratio {G : Gm} {l : Launch} {σ : St} {a0 : Nat} {i1 : Int32} {i2 : Int32} {i3 : Int32} {i4 : Int32} {i5 : Int32} {r : Int32} {σf : St} {k s : Nat} (hf : f_X6_ratio σ a0 i1 i2 i3 i4 i5 = some (r, σf, k, s)) : (∃ fs : List Value, σ.1 a0 = some (.inr (.inl (6, fs)))) ∧ Ct G l y_X6_ratio prog_8_method_30_code 14 (some .boolean) 5 117 [.ref a0, .int i1, .int i2, .int i3, .int i4, .int i5] σ (some (.int r)) σf k s := by
  unfold f_X6_ratio at hf
  obtain ⟨hob, hf⟩ := ob_some hf
  refine ⟨hob, Ct.ofV pl_X6_ratio (Nat.le_of_ble_eq_true rfl) ?_⟩
  intro K hR hN hnm hC hE
  show V K (k + 0) (s + 0) σ 0 [(0, .ref a0), (1, .int i1), (2, .int i2), (3, .int i3), (4, .int i4), (5, .int i5)] []
  refine v_iload_n hC 1 dX6_ratio_0 rfl ?_
  refine v_cSP hC (y := y_X6_is) [.int i1] [] (fun r => some (.int r)) (fun r => .int r :: []) hf (fun _ h => m_X6_is h) rfl (fun _ => rfl) hR (Nat.le_of_ble_eq_true rfl) (Nat.le_of_ble_eq_true rfl) w_698 w_696 w_697 w_64 nm_X6_is rfl (Nat.le_of_ble_eq_true rfl) dX6_ratio_1 (fun x1 hf => ?_)
  refine v_if_eq hC hf dX6_ratio_4 (tgt := 46) (by decide) (fun hf => ?_) (fun hf => ?_)
  · refine v_iconst (v := 0) hC dX6_ratio_46 (by decide) ?_
    exact v_retZ hC hf hE dX6_ratio_47
  · refine v_at 7 rfl ?_
    refine v_iload_n hC 2 dX6_ratio_7 rfl ?_
    refine v_cSP hC (y := y_X6_is) [.int i2] [] (fun r => some (.int r)) (fun r => .int r :: []) hf (fun _ h => m_X6_is h) rfl (fun _ => rfl) hR (Nat.le_of_ble_eq_true rfl) (Nat.le_of_ble_eq_true rfl) w_698 w_696 w_697 w_64 nm_X6_is rfl (Nat.le_of_ble_eq_true rfl) dX6_ratio_8 (fun x2 hf => ?_)
    refine v_if_eq hC hf dX6_ratio_11 (tgt := 46) (by decide) (fun hf => ?_) (fun hf => ?_)
    · refine v_iconst (v := 0) hC dX6_ratio_46 (by decide) ?_
      exact v_retZ hC hf hE dX6_ratio_47
    · refine v_at 14 rfl ?_
      refine v_iload_n hC 3 dX6_ratio_14 rfl ?_
      refine v_cSP hC (y := y_X6_is) [.int i3] [] (fun r => some (.int r)) (fun r => .int r :: []) hf (fun _ h => m_X6_is h) rfl (fun _ => rfl) hR (Nat.le_of_ble_eq_true rfl) (Nat.le_of_ble_eq_true rfl) w_698 w_696 w_697 w_64 nm_X6_is rfl (Nat.le_of_ble_eq_true rfl) dX6_ratio_15 (fun x3 hf => ?_)
      refine v_if_eq hC hf dX6_ratio_18 (tgt := 46) (by decide) (fun hf => ?_) (fun hf => ?_)
      · refine v_iconst (v := 0) hC dX6_ratio_46 (by decide) ?_
        exact v_retZ hC hf hE dX6_ratio_47
      · refine v_at 21 rfl ?_
        refine v_iload hC 4 dX6_ratio_21 rfl ?_
        refine v_cSP hC (y := y_X6_isPrecision) [.int i4] [] (fun r => some (.int r)) (fun r => .int r :: []) hf (fun _ h => m_X6_isPrecision h) rfl (fun _ => rfl) hR (Nat.le_of_ble_eq_true rfl) (Nat.le_of_ble_eq_true rfl) w_800 w_798 w_799 w_64 nm_X6_isPrecision rfl (Nat.le_of_ble_eq_true rfl) dX6_ratio_23 (fun x4 hf => ?_)
        refine v_if_eq hC hf dX6_ratio_26 (tgt := 46) (by decide) (fun hf => ?_) (fun hf => ?_)
        · refine v_iconst (v := 0) hC dX6_ratio_46 (by decide) ?_
          exact v_retZ hC hf hE dX6_ratio_47
        · refine v_at 29 rfl ?_
          refine v_iload hC 5 dX6_ratio_29 rfl ?_
          refine v_cSP hC (y := y_X6_isRounding) [.int i5] [] (fun r => some (.int r)) (fun r => .int r :: []) hf (fun _ h => m_X6_isRounding h) rfl (fun _ => rfl) hR (Nat.le_of_ble_eq_true rfl) (Nat.le_of_ble_eq_true rfl) w_766 w_764 w_765 w_64 nm_X6_isRounding rfl (Nat.le_of_ble_eq_true rfl) dX6_ratio_31 (fun x5 hf => ?_)
          refine v_if_eq hC hf dX6_ratio_34 (tgt := 46) (by decide) (fun hf => ?_) (fun hf => ?_)
          · refine v_iconst (v := 0) hC dX6_ratio_46 (by decide) ?_
            exact v_retZ hC hf hE dX6_ratio_47
          · refine v_at 37 rfl ?_
            refine v_aload_n hC 0 dX6_ratio_37 rfl ?_
            refine v_getR hC (host := "") hf fd_6_1 w_659 dX6_ratio_38 (fun r6 hf => ?_)
            refine v_iload_n hC 3 dX6_ratio_41 rfl ?_
            refine v_ldI hC hf dX6_ratio_42 (fun x7 hf => ?_)
            refine v_if_ne hC hf dX6_ratio_43 (tgt := 48) (by decide) (fun hf => ?_) (fun hf => ?_)
            · refine v_aload_n hC 0 dX6_ratio_48 rfl ?_
              refine v_getR hC (host := "") hf fd_6_2 w_660 dX6_ratio_49 (fun r8 hf => ?_)
              refine v_iload_n hC 2 dX6_ratio_52 rfl ?_
              refine v_ldI hC hf dX6_ratio_53 (fun x9 hf => ?_)
              refine v_aload_n hC 0 dX6_ratio_54 rfl ?_
              refine v_getR hC (host := "") hf fd_6_2 w_660 dX6_ratio_55 (fun r10 hf => ?_)
              refine v_iload_n hC 3 dX6_ratio_58 rfl ?_
              refine v_ldI hC hf dX6_ratio_59 (fun x11 hf => ?_)
              refine v_at 60 rfl ?_
              refine v_imul hC dX6_ratio_60 ?_
              refine v_ltI hf (fun x12 hf => ?_)
              refine v_istore hC [(6, .int x12), (0, .ref a0), (1, .int i1), (2, .int i2), (3, .int i3), (4, .int i4), (5, .int i5)] dX6_ratio_61 hN (Nat.le_of_ble_eq_true rfl) rfl ?_
              refine v_aload_n hC 1 dX6_ratio_63 rfl ?_
              refine v_getR hC (host := "") hf fd_6_3 w_661 dX6_ratio_64 (fun r13 hf => ?_)
              refine v_iload_n hC 3 dX6_ratio_67 rfl ?_
              refine v_ldI hC hf dX6_ratio_68 (fun x14 hf => ?_)
              refine v_i2l hC dX6_ratio_69 ?_
              refine v_aload_n hC 1 dX6_ratio_70 rfl ?_
              refine v_at 71 rfl ?_
              refine v_getR hC (host := "") hf fd_6_3 w_661 dX6_ratio_71 (fun r15 hf => ?_)
              refine v_iload_n hC 4 dX6_ratio_74 rfl ?_
              refine v_ldI hC hf dX6_ratio_75 (fun x16 hf => ?_)
              refine v_i2l hC dX6_ratio_76 ?_
              refine v_lsub hC dX6_ratio_77 ?_
              refine v_ltL hf (fun l17 hf => ?_)
              refine v_lstore hC [(7, .long l17), (6, .int x12), (0, .ref a0), (1, .int i1), (2, .int i2), (3, .int i3), (4, .int i4), (5, .int i5)] dX6_ratio_78 hN (Nat.le_of_ble_eq_true rfl) rfl ?_
              refine v_aload_n hC 2 dX6_ratio_80 rfl ?_
              refine v_iconst (v := 0) hC dX6_ratio_81 (by decide) ?_
              refine v_at 82 rfl ?_
              refine v_iload_n hC 4 dX6_ratio_82 rfl ?_
              refine v_cVE hC (y := y_X6_load) (ci := 6) [.int 0, .int i2] [] (fun _ => none) (fun _ => []) hf (fun _ _ _ _ h => m_X6_load h) rfl (fun _ => rfl) rfl rfl hR (Nat.le_of_ble_eq_true rfl) (Nat.le_of_ble_eq_true rfl) w_713 w_710 w_712 w_28 w_64 nm_X6_load rfl (Nat.le_of_ble_eq_true rfl) dX6_ratio_83 (fun _ σ18 _ _ hf => ?_)
              refine v_aload_n hC 2 dX6_ratio_86 rfl ?_
              refine v_iconst (v := 1) hC dX6_ratio_87 (by decide) ?_
              refine v_iload_n hC 5 dX6_ratio_88 rfl ?_
              refine v_cVE hC (y := y_X6_load) (ci := 6) [.int 1, .int i3] [] (fun _ => none) (fun _ => []) hf (fun _ _ _ _ h => m_X6_load h) rfl (fun _ => rfl) rfl rfl hR (Nat.le_of_ble_eq_true rfl) (Nat.le_of_ble_eq_true rfl) w_713 w_710 w_712 w_28 w_64 nm_X6_load rfl (Nat.le_of_ble_eq_true rfl) dX6_ratio_89 (fun _ σ19 _ _ hf => ?_)
              refine v_aload_n hC 2 dX6_ratio_92 rfl ?_
              refine v_getR hC (host := "") hf fd_6_5 w_663 dX6_ratio_93 (fun r20 hf => ?_)
              refine v_at 96 rfl ?_
              refine v_iconst (v := 0) hC dX6_ratio_96 (by decide) ?_
              refine v_ldI hC hf dX6_ratio_97 (fun x21 hf => ?_)
              refine v_if_ne hC hf dX6_ratio_98 (tgt := 111) (by decide) (fun hf => ?_) (fun hf => ?_)
              · refine v_iload hC 6 dX6_ratio_111 rfl ?_
                refine v_if_ne hC hf dX6_ratio_113 (tgt := 126) (by decide) (fun hf => ?_) (fun hf => ?_)
                · refine v_iload hC 6 dX6_ratio_126 rfl ?_
                  refine v_aload_n hC 2 dX6_ratio_128 rfl ?_
                  refine v_getR hC (host := "") hf fd_6_1 w_659 dX6_ratio_129 (fun r22 hf => ?_)
                  refine v_iload_n hC 5 dX6_ratio_132 rfl ?_
                  refine v_ldI hC hf dX6_ratio_133 (fun x23 hf => ?_)
                  refine v_iadd hC dX6_ratio_134 ?_
                  refine v_aload_n hC 2 dX6_ratio_135 rfl ?_
                  refine v_getR hC (host := "") hf fd_6_1 w_659 dX6_ratio_136 (fun r24 hf => ?_)
                  refine v_at 139 rfl ?_
                  refine v_iload_n hC 4 dX6_ratio_139 rfl ?_
                  refine v_ldI hC hf dX6_ratio_140 (fun x25 hf => ?_)
                  refine v_isub hC dX6_ratio_141 ?_
                  refine v_ltI hf (fun x26 hf => ?_)
                  refine v_istore hC [(9, .int x26), (7, .long l17), (6, .int x12), (0, .ref a0), (1, .int i1), (2, .int i2), (3, .int i3), (4, .int i4), (5, .int i5)] dX6_ratio_142 hN (Nat.le_of_ble_eq_true rfl) rfl ?_
                  refine v_iload hC 0 dX6_ratio_144 rfl ?_
                  refine v_jnE hf (fun z27 kr sr => V K (kr + 0) (sr + 0) z27 167 [(0, .ref a0), (1, .int i1), (4, .int i4), (5, .int i5), (6, .int x12), (7, .long l17), (9, .int x26)] []) (fun z27 _ _ hf => ?_) (fun k27 hk27 hf => ?_)
                  · refine v_aload_n hC 0 dX6_ratio_167 rfl ?_
                    refine v_cVE hC (y := y_X6_quotient) (ci := 6) [] [] (fun _ => none) (fun _ => []) hf (fun _ _ _ _ h => m_X6_quotient h) rfl (fun _ => rfl) rfl rfl hR (Nat.le_of_ble_eq_true rfl) (Nat.le_of_ble_eq_true rfl) w_772 w_769 w_771 w_36 w_64 nm_X6_quotient rfl (Nat.le_of_ble_eq_true rfl) dX6_ratio_168 (fun _ σ28 _ _ hf => ?_)
                    refine v_iload hC 6 dX6_ratio_171 rfl ?_
                    refine v_i2l hC dX6_ratio_173 ?_
                    refine v_lload hC 5 dX6_ratio_174 rfl ?_
                    refine v_ladd hC dX6_ratio_176 ?_
                    refine v_ltL hf (fun l29 hf => ?_)
                    refine v_lstore hC [(10, .long l29), (0, .ref a0), (1, .int i1), (4, .int i4), (5, .int i5), (6, .int x12), (7, .long l17), (9, .int x26)] dX6_ratio_177 hN (Nat.le_of_ble_eq_true rfl) rfl ?_
                    refine v_aload_n hC 1 dX6_ratio_179 rfl ?_
                    refine v_at 180 rfl ?_
                    refine v_getR hC (host := "") hf fd_6_5 w_663 dX6_ratio_180 (fun r30 hf => ?_)
                    refine v_iconst (v := 2) hC dX6_ratio_183 (by decide) ?_
                    refine v_ldI hC hf dX6_ratio_184 (fun x31 hf => ?_)
                    refine v_iload hC 3 dX6_ratio_185 rfl ?_
                    refine v_jnE hf (fun z32 kr sr => V K (kr + 0) (sr + 0) z32.2 275 [(0, .ref a0), (1, .int i1), (4, .int i4), (5, .int i5), (6, .int x12), (7, .long l17), (10, .long z32.1)] []) (fun z32 _ _ hf => ?_) (fun k32 hk32 hf => ?_)
                    · refine v_aload_n hC 0 dX6_ratio_275 rfl ?_
                      refine v_getI hC (host := "") hf fd_6_6 w_664 dX6_ratio_276 (fun x33 hf => ?_)
                      refine v_if_le hC hf dX6_ratio_279 (tgt := 297) (by decide) (fun hf => ?_) (fun hf => ?_)
                      · refine v_aload_n hC 0 dX6_ratio_297 rfl ?_
                        refine v_iload_n hC 1 dX6_ratio_298 rfl ?_
                        refine v_iload hC 4 dX6_ratio_299 rfl ?_
                        refine v_lload hC 6 dX6_ratio_301 rfl ?_
                        refine v_lload hC 5 dX6_ratio_303 rfl ?_
                        refine v_iload hC 2 dX6_ratio_305 rfl ?_
                        refine v_cVE hC (y := y_X6_settle) (ci := 6) [.int i1, .int x12, .long z32.1, .long l17, .int i4] [] (fun r => some (.int r)) (fun r => .int r :: []) hf (fun _ _ _ _ h => m_X6_settle h) rfl (fun _ => rfl) rfl rfl hR (Nat.le_of_ble_eq_true rfl) (Nat.le_of_ble_eq_true rfl) w_816 w_813 w_815 w_45 w_64 nm_X6_settle rfl (Nat.le_of_ble_eq_true rfl) dX6_ratio_307 (fun x34 σ35 _ _ hf => ?_)
                        exact v_retZ hC hf hE dX6_ratio_310
                      · refine v_at 282 rfl ?_
                        refine v_aload_n hC 0 dX6_ratio_282 rfl ?_
                        refine v_iload_n hC 1 dX6_ratio_283 rfl ?_
                        refine v_iconst (v := 2) hC dX6_ratio_284 (by decide) ?_
                        refine v_iload hC 4 dX6_ratio_285 rfl ?_
                        refine v_lload hC 6 dX6_ratio_287 rfl ?_
                        refine v_iload hC 3 dX6_ratio_289 rfl ?_
                        refine v_iload hC 2 dX6_ratio_291 rfl ?_
                        refine v_cVE hC (y := y_X6_finishTo) (ci := 6) [.int i1, .int 2, .int x12, .long z32.1, .int i5, .int i4] [] (fun r => some (.int r)) (fun r => .int r :: []) hf (fun _ _ _ _ h => m_X6_finishTo h) rfl (fun _ => rfl) rfl rfl hR (Nat.le_of_ble_eq_true rfl) (Nat.le_of_ble_eq_true rfl) w_812 w_809 w_811 w_44 w_64 nm_X6_finishTo rfl (Nat.le_of_ble_eq_true rfl) dX6_ratio_293 (fun x36 σ37 _ _ hf => ?_)
                        refine v_at 296 rfl ?_
                        exact v_retZ hC hf hE dX6_ratio_296
                    · refine v_icmp_le hC hf dX6_ratio_187 (tgt := 275) (by decide) (fun hf => ?_) (fun hf => ?_)
                      · exact v_sub [(0, .ref a0), (1, .int i1), (4, .int i4), (5, .int i5), (6, .int x12), (7, .long l17), (10, .long l29)] [1, 2, 3, 4, 5, 6, 0] rfl (hk32 _ _ _ hf)
                      · refine v_at 190 rfl ?_
                        refine v_aload_n hC 1 dX6_ratio_190 rfl ?_
                        refine v_getR hC (host := "") hf fd_6_4 w_662 dX6_ratio_191 (fun r38 hf => ?_)
                        refine v_ldc hC dX6_ratio_194 w_755 ?_
                        refine v_ldI hC hf dX6_ratio_196 (fun x39 hf => ?_)
                        refine v_istore hC [(12, .int x39), (10, .long l29), (0, .ref a0), (1, .int i1), (4, .int i4), (5, .int i5), (6, .int x12), (7, .long l17), (9, .int x26)] dX6_ratio_197 hN (Nat.le_of_ble_eq_true rfl) rfl ?_
                        refine v_aload_n hC 2 dX6_ratio_199 rfl ?_
                        refine v_getI hC (host := "") hf fd_6_6 w_664 dX6_ratio_200 (fun x40 hf => ?_)
                        refine v_jnE hf (fun z41 kr sr => V K (kr + 0) (sr + 0) σ28 211 [(0, .ref a0), (1, .int i1), (4, .int i4), (5, .int i5), (6, .int x12), (7, .long l17), (10, .long l29), (12, .int x39)] [.int z41]) (fun z41 _ _ hf => ?_) (fun k41 hk41 hf => ?_)
                        · refine v_istore hC [(13, .int z41), (0, .ref a0), (1, .int i1), (4, .int i4), (5, .int i5), (6, .int x12), (7, .long l17), (10, .long l29), (12, .int x39)] dX6_ratio_211 hN (Nat.le_of_ble_eq_true rfl) rfl ?_
                          refine v_aload_n hC 1 dX6_ratio_213 rfl ?_
                          refine v_iconst (v := 2) hC dX6_ratio_214 (by decide) ?_
                          refine v_lconst (v := 1) hC dX6_ratio_215 (by decide) ?_
                          refine v_cVE hC (y := y_X6_lower) (ci := 6) [.int 2, .long 1] [] (fun _ => none) (fun _ => []) hf (fun _ _ _ _ h => m_X6_lower h) rfl (fun _ => rfl) rfl rfl hR (Nat.le_of_ble_eq_true rfl) (Nat.le_of_ble_eq_true rfl) w_808 w_805 w_807 w_43 w_64 nm_X6_lower rfl (Nat.le_of_ble_eq_true rfl) dX6_ratio_216 (fun _ σ42 _ _ hf => ?_)
                          refine v_aload_n hC 1 dX6_ratio_219 rfl ?_
                          refine v_iload hC 8 dX6_ratio_220 rfl ?_
                          refine v_iconst (v := 5) hC dX6_ratio_222 (by decide) ?_
                          refine v_at 223 rfl ?_
                          refine v_jnE hf (fun z43 kr sr => V K (kr + 0) (sr + 0) σ42 266 [(0, .ref a0), (1, .int i1), (4, .int i4), (5, .int i5), (6, .int x12), (7, .long l17), (10, .long l29)] [.int z43, .ref a0]) (fun z43 _ _ hf => ?_) (fun k43 hk43 hf => ?_)
                          · refine v_put hC hf fd_6_6 w_664 rfl rfl dX6_ratio_266 (fun σ44 hf => ?_)
                            refine v_lload hC 6 dX6_ratio_269 rfl ?_
                            refine v_lconst (v := 1) hC dX6_ratio_271 (by decide) ?_
                            refine v_lsub hC dX6_ratio_272 ?_
                            refine v_ltL hf (fun l45 hf => ?_)
                            refine v_lstore hC [(10, .long l45), (0, .ref a0), (1, .int i1), (4, .int i4), (5, .int i5), (6, .int x12), (7, .long l17)] dX6_ratio_273 hN (Nat.le_of_ble_eq_true rfl) rfl ?_
                            refine v_at 275 rfl ?_
                            exact v_sub [(0, .ref a0), (1, .int i1), (4, .int i4), (5, .int i5), (6, .int x12), (7, .long l17), (10, .long l45)] [1, 2, 3, 4, 5, 6, 0] rfl (hk32 _ _ _ hf)
                          · refine v_jnE hf (fun z46 kr sr => V K (kr + 0) (sr + 0) σ42 237 [(0, .ref a0), (1, .int i1), (4, .int i4), (5, .int i5), (6, .int x12), (7, .long l17), (10, .long l29)] [.ref a0]) (fun z46 _ _ hf => ?_) (fun k46 hk46 hf => ?_)
                            · refine v_iconst (v := 3) hC dX6_ratio_237 (by decide) ?_
                              refine v_goto (tgt := 266) hC dX6_ratio_238 (by decide) ?_
                              exact v_sub [(0, .ref a0), (1, .int i1), (4, .int i4), (5, .int i5), (6, .int x12), (7, .long l17), (10, .long l29)] [0, 1, 2, 3, 4, 5, 6] rfl (hk43 _ _ _ hf)
                            · refine v_icmp_gt hC hf dX6_ratio_223 (tgt := 237) (by decide) (fun hf => ?_) (fun hf => ?_)
                              · exact v_sub [(0, .ref a0), (1, .int i1), (4, .int i4), (5, .int i5), (6, .int x12), (7, .long l17), (10, .long l29)] [1, 2, 3, 4, 5, 6, 7] rfl (hk46 _ _ _ hf)
                              · refine v_at 226 rfl ?_
                                refine v_iload hC 8 dX6_ratio_226 rfl ?_
                                refine v_iconst (v := 5) hC dX6_ratio_228 (by decide) ?_
                                refine v_jnE hf (fun z47 kr sr => V K (kr + 0) (sr + 0) σ42 241 [(0, .ref a0), (1, .int i1), (4, .int i4), (5, .int i5), (6, .int x12), (7, .long l17), (10, .long l29), (12, .int x39), (13, .int z41)] [.ref a0]) (fun z47 _ _ hf => ?_) (fun k47 hk47 hf => ?_)
                                · refine v_iload hC 7 dX6_ratio_241 rfl ?_
                                  refine v_iconst (v := 5) hC dX6_ratio_243 (by decide) ?_
                                  refine v_icmp_ne hC hf dX6_ratio_244 (tgt := 251) (by decide) (fun hf => ?_) (fun hf => ?_)
                                  · refine v_iload hC 7 dX6_ratio_251 rfl ?_
                                    refine v_jnE hf (fun z48 kr sr => V K (kr + 0) (sr + 0) σ42 261 [(0, .ref a0), (1, .int i1), (4, .int i4), (5, .int i5), (6, .int x12), (7, .long l17), (10, .long l29)] [.ref a0]) (fun z48 _ _ hf => ?_) (fun k48 hk48 hf => ?_)
                                    · refine v_iconst (v := 1) hC dX6_ratio_261 (by decide) ?_
                                      refine v_goto (tgt := 266) hC dX6_ratio_262 (by decide) ?_
                                      exact v_sub [(0, .ref a0), (1, .int i1), (4, .int i4), (5, .int i5), (6, .int x12), (7, .long l17), (10, .long l29)] [0, 1, 2, 3, 4, 5, 6] rfl (hk43 _ _ _ hf)
                                    · refine v_if_gt hC hf dX6_ratio_253 (tgt := 261) (by decide) (fun hf => ?_) (fun hf => ?_)
                                      · exact v_sub [(0, .ref a0), (1, .int i1), (4, .int i4), (5, .int i5), (6, .int x12), (7, .long l17), (10, .long l29)] [0, 1, 2, 3, 4, 5, 6] rfl (hk48 _ _ _ hf)
                                      · refine v_at 256 rfl ?_
                                        refine v_iload hC 8 dX6_ratio_256 rfl ?_
                                        refine v_if_eq hC hf dX6_ratio_258 (tgt := 265) (by decide) (fun hf => ?_) (fun hf => ?_)
                                        · refine v_iconst (v := 0) hC dX6_ratio_265 (by decide) ?_
                                          refine v_at 266 rfl ?_
                                          exact v_sub [(0, .ref a0), (1, .int i1), (4, .int i4), (5, .int i5), (6, .int x12), (7, .long l17), (10, .long l29)] [0, 1, 2, 3, 4, 5, 6] rfl (hk43 _ _ _ hf)
                                        · refine v_at 261 rfl ?_
                                          exact v_sub [(0, .ref a0), (1, .int i1), (4, .int i4), (5, .int i5), (6, .int x12), (7, .long l17), (10, .long l29)] [0, 1, 2, 3, 4, 5, 6] rfl (hk48 _ _ _ hf)
                                  · refine v_at 247 rfl ?_
                                    refine v_iconst (v := 2) hC dX6_ratio_247 (by decide) ?_
                                    refine v_goto (tgt := 266) hC dX6_ratio_248 (by decide) ?_
                                    exact v_sub [(0, .ref a0), (1, .int i1), (4, .int i4), (5, .int i5), (6, .int x12), (7, .long l17), (10, .long l29)] [0, 1, 2, 3, 4, 5, 6] rfl (hk43 _ _ _ hf)
                                · refine v_icmp_ne hC hf dX6_ratio_229 (tgt := 241) (by decide) (fun hf => ?_) (fun hf => ?_)
                                  · exact v_sub [(0, .ref a0), (1, .int i1), (4, .int i4), (5, .int i5), (6, .int x12), (7, .long l17), (10, .long l29), (12, .int x39), (13, .int z41)] [1, 2, 3, 4, 5, 6, 7, 8, 0] rfl (hk47 _ _ _ hf)
                                  · refine v_at 232 rfl ?_
                                    refine v_iload hC 0 dX6_ratio_232 rfl ?_
                                    refine v_if_eq hC hf dX6_ratio_234 (tgt := 241) (by decide) (fun hf => ?_) (fun hf => ?_)
                                    · exact v_sub [(0, .ref a0), (1, .int i1), (4, .int i4), (5, .int i5), (6, .int x12), (7, .long l17), (10, .long l29), (12, .int x39), (13, .int z41)] [1, 2, 3, 4, 5, 6, 7, 8, 0] rfl (hk47 _ _ _ hf)
                                    · refine v_at 237 rfl ?_
                                      exact v_sub [(0, .ref a0), (1, .int i1), (4, .int i4), (5, .int i5), (6, .int x12), (7, .long l17), (10, .long l29)] [1, 2, 3, 4, 5, 6, 7] rfl (hk46 _ _ _ hf)
                        · refine v_if_le hC hf dX6_ratio_203 (tgt := 210) (by decide) (fun hf => ?_) (fun hf => ?_)
                          · refine v_iconst (v := 0) hC dX6_ratio_210 (by decide) ?_
                            refine v_at 211 rfl ?_
                            exact v_sub [(0, .ref a0), (1, .int i1), (4, .int i4), (5, .int i5), (6, .int x12), (7, .long l17), (10, .long l29), (12, .int x39)] [2, 3, 4, 5, 6, 7, 1, 0] rfl (hk41 _ _ _ hf)
                          · refine v_at 206 rfl ?_
                            refine v_iconst (v := 1) hC dX6_ratio_206 (by decide) ?_
                            refine v_goto (tgt := 211) hC dX6_ratio_207 (by decide) ?_
                            exact v_sub [(0, .ref a0), (1, .int i1), (4, .int i4), (5, .int i5), (6, .int x12), (7, .long l17), (10, .long l29), (12, .int x39)] [2, 3, 4, 5, 6, 7, 1, 0] rfl (hk41 _ _ _ hf)
                  · refine v_if_lt hC hf dX6_ratio_146 (tgt := 159) (by decide) (fun hf => ?_) (fun hf => ?_)
                    · refine v_aload_n hC 3 dX6_ratio_159 rfl ?_
                      refine v_iconst (v := 1) hC dX6_ratio_160 (by decide) ?_
                      refine v_iload hC 0 dX6_ratio_161 rfl ?_
                      refine v_ineg hC dX6_ratio_163 ?_
                      refine v_cVE hC (y := y_X6_raise) (ci := 6) [.int 1, .int (-x26)] [] (fun _ => none) (fun _ => []) hf (fun _ _ _ _ h => m_X6_raise h) rfl (fun _ => rfl) rfl rfl hR (Nat.le_of_ble_eq_true rfl) (Nat.le_of_ble_eq_true rfl) w_726 w_723 w_725 w_30 w_64 nm_X6_raise rfl (Nat.le_of_ble_eq_true rfl) dX6_ratio_164 (fun _ σ49 _ _ hf => ?_)
                      refine v_at 167 rfl ?_
                      exact v_sub [(0, .ref a0), (1, .int i1), (4, .int i4), (5, .int i5), (6, .int x12), (7, .long l17), (9, .int x26)] [3, 4, 7, 8, 2, 1, 0] rfl (hk27 _ _ _ hf)
                    · refine v_at 149 rfl ?_
                      refine v_aload_n hC 3 dX6_ratio_149 rfl ?_
                      refine v_iconst (v := 0) hC dX6_ratio_150 (by decide) ?_
                      refine v_iload hC 0 dX6_ratio_151 rfl ?_
                      refine v_cVE hC (y := y_X6_raise) (ci := 6) [.int 0, .int x26] [] (fun _ => none) (fun _ => []) hf (fun _ _ _ _ h => m_X6_raise h) rfl (fun _ => rfl) rfl rfl hR (Nat.le_of_ble_eq_true rfl) (Nat.le_of_ble_eq_true rfl) w_726 w_723 w_725 w_30 w_64 nm_X6_raise rfl (Nat.le_of_ble_eq_true rfl) dX6_ratio_153 (fun _ σ50 _ _ hf => ?_)
                      refine v_goto (tgt := 167) hC dX6_ratio_156 (by decide) ?_
                      exact v_sub [(0, .ref a0), (1, .int i1), (4, .int i4), (5, .int i5), (6, .int x12), (7, .long l17), (9, .int x26)] [3, 4, 7, 8, 2, 1, 0] rfl (hk27 _ _ _ hf)
                · refine v_at 116 rfl ?_
                  refine v_aload_n hC 2 dX6_ratio_116 rfl ?_
                  refine v_iload_n hC 3 dX6_ratio_117 rfl ?_
                  refine v_iload hC 1 dX6_ratio_118 rfl ?_
                  refine v_lload hC 0 dX6_ratio_120 rfl ?_
                  refine v_cVE hC (y := y_X6_exact) (ci := 6) [.int i1, .int x12, .long l17] [] (fun r => some (.int r)) (fun r => .int r :: []) hf (fun _ _ _ _ h => m_X6_exact h) rfl (fun _ => rfl) rfl rfl hR (Nat.le_of_ble_eq_true rfl) (Nat.le_of_ble_eq_true rfl) w_804 w_801 w_803 w_42 w_64 nm_X6_exact rfl (Nat.le_of_ble_eq_true rfl) dX6_ratio_122 (fun x51 σ52 _ _ hf => ?_)
                  exact v_retZ hC hf hE dX6_ratio_125
              · refine v_at 101 rfl ?_
                refine v_aload_n hC 2 dX6_ratio_101 rfl ?_
                refine v_iload_n hC 3 dX6_ratio_102 rfl ?_
                refine v_iconst (v := 0) hC dX6_ratio_103 (by decide) ?_
                refine v_iconst (v := 0) hC dX6_ratio_104 (by decide) ?_
                refine v_lload hC 0 dX6_ratio_105 rfl ?_
                refine v_cVE hC (y := y_X6_store) (ci := 6) [.int i1, .int 0, .int 0, .long l17] [] (fun r => some (.int r)) (fun r => .int r :: []) hf (fun _ _ _ _ h => m_X6_store h) rfl (fun _ => rfl) rfl rfl hR (Nat.le_of_ble_eq_true rfl) (Nat.le_of_ble_eq_true rfl) w_703 w_700 w_702 w_27 w_64 nm_X6_store rfl (Nat.le_of_ble_eq_true rfl) dX6_ratio_107 (fun x53 σ54 _ _ hf => ?_)
                exact v_retZ hC hf hE dX6_ratio_110
            · refine v_at 46 rfl ?_
              refine v_iconst (v := 0) hC dX6_ratio_46 (by decide) ?_
              exact v_retZ hC hf hE dX6_ratio_47
def E_X6_remains_L67 (K : Cq) (a0 : Nat) (i1 : Int32) (i2 : Int32) (i3 : Int32) (j5 : Int64) (i7 : Int32) (i8 : Int32) (i9 : Int32) (j10 : Int64) (i12 : Int32) (y : Unit) (σ : St) (kr sr : Nat) : Prop := V K kr sr σ 99 [(0, .ref a0), (1, .int i1), (2, .int i2), (3, .int i3), (5, .long j5), (7, .int i7), (8, .int i8), (9, .int i9), (10, .long j10), (12, .int i12)] []
set_option maxHeartbeats 4000000 in
set_option maxRecDepth 100000 in
theorem v_X6_remains_L67 {K : Cq} {k0 s0 : Nat} (hC : Cx K prog_8_method_34_code "TensMillModel") (hR : kR K = rmF 2 49 k0 s0) (hN : kn K = 15) {ko so : Nat} : ∀ (n : Nat) (σ : St) (a0 : Nat) (i1 : Int32) (i2 : Int32) (i3 : Int32) (j5 : Int64) (i7 : Int32) (i8 : Int32) (i9 : Int32) (j10 : Int64) (i12 : Int32) (i13 : Int32) (y : Unit) (σf : St) (kr sr : Nat), f_X6_remains_L67 n σ a0 i1 i2 i3 j5 i7 i8 i9 j10 i12 i13 = some (y, σf, kr, sr) → E_X6_remains_L67 K a0 i1 i2 i3 j5 i7 i8 i9 j10 i12 y σf ko so → V K (kr + ko) (sr + so) σ 67 [(0, .ref a0), (1, .int i1), (2, .int i2), (3, .int i3), (5, .long j5), (7, .int i7), (8, .int i8), (9, .int i9), (10, .long j10), (12, .int i12), (13, .int i13)] [] := by
  intro n
  induction n with
  | zero =>
    intro σ a0 i1 i2 i3 j5 i7 i8 i9 j10 i12 i13 y σf kr sr hf hE
    cases hf
  | succ n ih =>
    intro σ a0 i1 i2 i3 j5 i7 i8 i9 j10 i12 i13 y σf kr sr hf hE
    replace hf : b_X6_remains_L67 (f_X6_remains_L67 n) σ a0 i1 i2 i3 j5 i7 i8 i9 j10 i12 i13 = some (y, σf, kr, sr) := hf
    unfold b_X6_remains_L67 at hf
    refine v_iload hC 10 dX6_remains_67 rfl ?_
    refine v_iload hC 9 dX6_remains_69 rfl ?_
    refine v_icmp_ge hC hf dX6_remains_71 (tgt := 99) (by decide) (fun hf => ?_) (fun hf => ?_)
    · obtain ⟨hX, e1, e2⟩ := v_exE (E := E_X6_remains_L67 K a0 i1 i2 i3 j5 i7 i8 i9 j10 i12) hf hE
      rw [e1, e2]
      exact v_sub [(0, .ref a0), (1, .int i1), (2, .int i2), (3, .int i3), (5, .long j5), (7, .int i7), (8, .int i8), (9, .int i9), (10, .long j10), (12, .int i12)] [0, 1, 2, 3, 4, 5, 6, 7, 8, 9] rfl hX
    · refine v_at 74 rfl ?_
      refine v_aload_n hC 0 dX6_remains_74 rfl ?_
      refine v_getR hC (host := "") hf fd_6_4 w_662 dX6_remains_75 (fun r8 hf => ?_)
      refine v_iconst (v := 0) hC dX6_remains_78 (by decide) ?_
      refine v_iload hC 10 dX6_remains_79 rfl ?_
      refine v_iadd hC dX6_remains_81 ?_
      refine v_aload_n hC 0 dX6_remains_82 rfl ?_
      refine v_getR hC (host := "") hf fd_6_4 w_662 dX6_remains_83 (fun r9 hf => ?_)
      refine v_ldc hC dX6_remains_86 w_755 ?_
      refine v_at 88 rfl ?_
      refine v_iload hC 10 dX6_remains_88 rfl ?_
      refine v_iadd hC dX6_remains_90 ?_
      refine v_ldI hC hf dX6_remains_91 (fun x10 hf => ?_)
      refine v_stI hC hf dX6_remains_92 (fun σ11 hf => ?_)
      refine v_incL hC hf 10 (fun x12 => [(13, .int x12), (0, .ref a0), (1, .int i1), (2, .int i2), (3, .int i3), (5, .long j5), (7, .int i7), (8, .int i8), (9, .int i9), (10, .long j10), (12, .int i12)]) dX6_remains_93 rfl (by decide) hN (Nat.le_of_ble_eq_true rfl) (fun _ => rfl) (fun x12 hf => ?_)
      refine v_goto (tgt := 67) hC dX6_remains_96 (by decide) ?_
      exact v_sub [(0, .ref a0), (1, .int i1), (2, .int i2), (3, .int i3), (5, .long j5), (7, .int i7), (8, .int i8), (9, .int i9), (10, .long j10), (12, .int i12), (13, .int x12)] [1, 2, 3, 4, 5, 6, 7, 8, 9, 10, 0] rfl (ih _ _ _ _ _ _ _ _ _ _ _ _ _ _ _ _ hf hE)
def E_X6_remains_L122 (K : Cq) (a0 : Nat) (i1 : Int32) (i2 : Int32) (i3 : Int32) (j5 : Int64) (i7 : Int32) (i8 : Int32) (i9 : Int32) (j10 : Int64) (i12 : Int32) (i13 : Int32) (y : Unit) (σ : St) (kr sr : Nat) : Prop := V K kr sr σ 156 [(0, .ref a0), (1, .int i1), (2, .int i2), (3, .int i3), (5, .long j5), (7, .int i7), (8, .int i8), (9, .int i9), (10, .long j10), (12, .int i12), (13, .int i13)] []
set_option maxHeartbeats 4000000 in
set_option maxRecDepth 100000 in
theorem v_X6_remains_L122 {K : Cq} {k0 s0 : Nat} (hC : Cx K prog_8_method_34_code "TensMillModel") (hR : kR K = rmF 2 49 k0 s0) (hN : kn K = 15) {ko so : Nat} : ∀ (n : Nat) (σ : St) (a0 : Nat) (i1 : Int32) (i2 : Int32) (i3 : Int32) (j5 : Int64) (i7 : Int32) (i8 : Int32) (i9 : Int32) (j10 : Int64) (i12 : Int32) (i13 : Int32) (i14 : Int32) (y : Unit) (σf : St) (kr sr : Nat), f_X6_remains_L122 n σ a0 i1 i2 i3 j5 i7 i8 i9 j10 i12 i13 i14 = some (y, σf, kr, sr) → E_X6_remains_L122 K a0 i1 i2 i3 j5 i7 i8 i9 j10 i12 i13 y σf ko so → V K (kr + ko) (sr + so) σ 122 [(0, .ref a0), (1, .int i1), (2, .int i2), (3, .int i3), (5, .long j5), (7, .int i7), (8, .int i8), (9, .int i9), (10, .long j10), (12, .int i12), (13, .int i13), (14, .int i14)] [] := by
  intro n
  induction n with
  | zero =>
    intro σ a0 i1 i2 i3 j5 i7 i8 i9 j10 i12 i13 i14 y σf kr sr hf hE
    cases hf
  | succ n ih =>
    intro σ a0 i1 i2 i3 j5 i7 i8 i9 j10 i12 i13 i14 y σf kr sr hf hE
    replace hf : b_X6_remains_L122 (f_X6_remains_L122 n) σ a0 i1 i2 i3 j5 i7 i8 i9 j10 i12 i13 i14 = some (y, σf, kr, sr) := hf
    unfold b_X6_remains_L122 at hf
    refine v_iload hC 11 dX6_remains_122 rfl ?_
    refine v_iload hC 10 dX6_remains_124 rfl ?_
    refine v_icmp_ge hC hf dX6_remains_126 (tgt := 156) (by decide) (fun hf => ?_) (fun hf => ?_)
    · obtain ⟨hX, e1, e2⟩ := v_exE (E := E_X6_remains_L122 K a0 i1 i2 i3 j5 i7 i8 i9 j10 i12 i13) hf hE
      rw [e1, e2]
      exact v_sub [(0, .ref a0), (1, .int i1), (2, .int i2), (3, .int i3), (5, .long j5), (7, .int i7), (8, .int i8), (9, .int i9), (10, .long j10), (12, .int i12), (13, .int i13)] [0, 1, 2, 3, 4, 5, 6, 7, 8, 9, 10] rfl hX
    · refine v_at 129 rfl ?_
      refine v_aload_n hC 0 dX6_remains_129 rfl ?_
      refine v_getR hC (host := "") hf fd_6_4 w_662 dX6_remains_130 (fun r20 hf => ?_)
      refine v_sipush (v := 17000) hC dX6_remains_133 (by decide) ?_
      refine v_iload hC 11 dX6_remains_136 rfl ?_
      refine v_iadd hC dX6_remains_138 ?_
      refine v_aload_n hC 0 dX6_remains_139 rfl ?_
      refine v_getR hC (host := "") hf fd_6_4 w_662 dX6_remains_140 (fun r21 hf => ?_)
      refine v_ldc hC dX6_remains_143 w_755 ?_
      refine v_at 145 rfl ?_
      refine v_iload hC 11 dX6_remains_145 rfl ?_
      refine v_iadd hC dX6_remains_147 ?_
      refine v_ldI hC hf dX6_remains_148 (fun x22 hf => ?_)
      refine v_stI hC hf dX6_remains_149 (fun σ23 hf => ?_)
      refine v_incL hC hf 11 (fun x24 => [(14, .int x24), (0, .ref a0), (1, .int i1), (2, .int i2), (3, .int i3), (5, .long j5), (7, .int i7), (8, .int i8), (9, .int i9), (10, .long j10), (12, .int i12), (13, .int i13)]) dX6_remains_150 rfl (by decide) hN (Nat.le_of_ble_eq_true rfl) (fun _ => rfl) (fun x24 hf => ?_)
      refine v_goto (tgt := 122) hC dX6_remains_153 (by decide) ?_
      exact v_sub [(0, .ref a0), (1, .int i1), (2, .int i2), (3, .int i3), (5, .long j5), (7, .int i7), (8, .int i8), (9, .int i9), (10, .long j10), (12, .int i12), (13, .int i13), (14, .int x24)] [1, 2, 3, 4, 5, 6, 7, 8, 9, 10, 11, 0] rfl (ih _ _ _ _ _ _ _ _ _ _ _ _ _ _ _ _ _ hf hE)
def E_X6_remains_L167 (K : Cq) (a0 : Nat) (i1 : Int32) (i2 : Int32) (i3 : Int32) (j5 : Int64) (i7 : Int32) (i8 : Int32) (i9 : Int32) (j10 : Int64) (i12 : Int32) (y : Unit) (σ : St) (kr sr : Nat) : Prop := V K kr sr σ 199 [(0, .ref a0), (1, .int i1), (2, .int i2), (3, .int i3), (5, .long j5), (7, .int i7), (8, .int i8), (9, .int i9), (10, .long j10), (12, .int i12)] []
set_option maxHeartbeats 4000000 in
set_option maxRecDepth 100000 in
theorem v_X6_remains_L167 {K : Cq} {k0 s0 : Nat} (hC : Cx K prog_8_method_34_code "TensMillModel") (hR : kR K = rmF 2 49 k0 s0) (hN : kn K = 15) {ko so : Nat} : ∀ (n : Nat) (σ : St) (a0 : Nat) (i1 : Int32) (i2 : Int32) (i3 : Int32) (j5 : Int64) (i7 : Int32) (i8 : Int32) (i9 : Int32) (j10 : Int64) (i12 : Int32) (i14 : Int32) (y : Unit) (σf : St) (kr sr : Nat), f_X6_remains_L167 n σ a0 i1 i2 i3 j5 i7 i8 i9 j10 i12 i14 = some (y, σf, kr, sr) → E_X6_remains_L167 K a0 i1 i2 i3 j5 i7 i8 i9 j10 i12 y σf ko so → V K (kr + ko) (sr + so) σ 167 [(0, .ref a0), (1, .int i1), (2, .int i2), (3, .int i3), (5, .long j5), (7, .int i7), (8, .int i8), (9, .int i9), (10, .long j10), (12, .int i12), (14, .int i14)] [] := by
  intro n
  induction n with
  | zero =>
    intro σ a0 i1 i2 i3 j5 i7 i8 i9 j10 i12 i14 y σf kr sr hf hE
    cases hf
  | succ n ih =>
    intro σ a0 i1 i2 i3 j5 i7 i8 i9 j10 i12 i14 y σf kr sr hf hE
    replace hf : b_X6_remains_L167 (f_X6_remains_L167 n) σ a0 i1 i2 i3 j5 i7 i8 i9 j10 i12 i14 = some (y, σf, kr, sr) := hf
    unfold b_X6_remains_L167 at hf
    refine v_iload hC 10 dX6_remains_167 rfl ?_
    refine v_iload hC 9 dX6_remains_169 rfl ?_
    refine v_icmp_ge hC hf dX6_remains_171 (tgt := 199) (by decide) (fun hf => ?_) (fun hf => ?_)
    · obtain ⟨hX, e1, e2⟩ := v_exE (E := E_X6_remains_L167 K a0 i1 i2 i3 j5 i7 i8 i9 j10 i12) hf hE
      rw [e1, e2]
      exact v_sub [(0, .ref a0), (1, .int i1), (2, .int i2), (3, .int i3), (5, .long j5), (7, .int i7), (8, .int i8), (9, .int i9), (10, .long j10), (12, .int i12)] [0, 1, 2, 3, 4, 5, 6, 7, 8, 9] rfl hX
    · refine v_at 174 rfl ?_
      refine v_aload_n hC 0 dX6_remains_174 rfl ?_
      refine v_getR hC (host := "") hf fd_6_4 w_662 dX6_remains_175 (fun r29 hf => ?_)
      refine v_ldc hC dX6_remains_178 w_755 ?_
      refine v_iload hC 10 dX6_remains_180 rfl ?_
      refine v_iadd hC dX6_remains_182 ?_
      refine v_aload_n hC 0 dX6_remains_183 rfl ?_
      refine v_getR hC (host := "") hf fd_6_4 w_662 dX6_remains_184 (fun r30 hf => ?_)
      refine v_iconst (v := 0) hC dX6_remains_187 (by decide) ?_
      refine v_at 188 rfl ?_
      refine v_iload hC 10 dX6_remains_188 rfl ?_
      refine v_iadd hC dX6_remains_190 ?_
      refine v_ldI hC hf dX6_remains_191 (fun x31 hf => ?_)
      refine v_stI hC hf dX6_remains_192 (fun σ32 hf => ?_)
      refine v_incL hC hf 10 (fun x33 => [(14, .int x33), (0, .ref a0), (1, .int i1), (2, .int i2), (3, .int i3), (5, .long j5), (7, .int i7), (8, .int i8), (9, .int i9), (10, .long j10), (12, .int i12)]) dX6_remains_193 rfl (by decide) hN (Nat.le_of_ble_eq_true rfl) (fun _ => rfl) (fun x33 hf => ?_)
      refine v_goto (tgt := 167) hC dX6_remains_196 (by decide) ?_
      exact v_sub [(0, .ref a0), (1, .int i1), (2, .int i2), (3, .int i3), (5, .long j5), (7, .int i7), (8, .int i8), (9, .int i9), (10, .long j10), (12, .int i12), (14, .int x33)] [1, 2, 3, 4, 5, 6, 7, 8, 9, 10, 0] rfl (ih _ _ _ _ _ _ _ _ _ _ _ _ _ _ _ _ hf hE)
set_option maxHeartbeats 4000000 in
set_option maxRecDepth 100000 in
theorem m_X6_remains {G : Gm} {l : Launch} {σ : St} {a0 : Nat} {i1 : Int32} {i2 : Int32} {i3 : Int32} {i4 : Int32} {j5 : Int64} {i7 : Int32} {i8 : Int32} {i9 : Int32} {r : Int32} {σf : St} {k s : Nat} (hf : f_X6_remains σ a0 i1 i2 i3 i4 j5 i7 i8 i9 = some (r, σf, k, s)) : (∃ fs : List Value, σ.1 a0 = some (.inr (.inl (6, fs)))) ∧ Ct G l y_X6_remains prog_8_method_34_code 15 (some .boolean) 2 49 [.ref a0, .int i1, .int i2, .int i3, .int i4, .long j5, .int i7, .int i8, .int i9] σ (some (.int r)) σf k s := by
  unfold f_X6_remains at hf
  obtain ⟨hob, hf⟩ := ob_some hf
  refine ⟨hob, Ct.ofV pl_X6_remains (Nat.le_of_ble_eq_true rfl) ?_⟩
  intro K hR hN hnm hC hE
  show V K (k + 0) (s + 0) σ 0 [(0, .ref a0), (1, .int i1), (2, .int i2), (3, .int i3), (4, .int i4), (5, .long j5), (7, .int i7), (8, .int i8), (9, .int i9)] []
  refine v_aload_n hC 0 dX6_remains_0 rfl ?_
  refine v_getR hC (host := "") hf fd_6_5 w_663 dX6_remains_1 (fun r1 hf => ?_)
  refine v_iconst (v := 2) hC dX6_remains_4 (by decide) ?_
  refine v_ldI hC hf dX6_remains_5 (fun x2 hf => ?_)
  refine v_sipush (v := 4096) hC dX6_remains_6 (by decide) ?_
  refine v_icmp_gt hC hf dX6_remains_9 (tgt := 30) (by decide) (fun hf => ?_) (fun hf => ?_)
  · refine v_iconst (v := 0) hC dX6_remains_30 (by decide) ?_
    exact v_retZ hC hf hE dX6_remains_31
  · refine v_at 12 rfl ?_
    refine v_lload hC 5 dX6_remains_12 rfl ?_
    refine v_ldc2 hC dX6_remains_14 w_704 ?_
    refine v_lcmp_lt hC hf dX6_remains_17 dX6_remains_18 (tgt := 30) (by decide) (fun hf => ?_) (fun hf => ?_)
    · refine v_iconst (v := 0) hC dX6_remains_30 (by decide) ?_
      exact v_retZ hC hf hE dX6_remains_31
    · refine v_at 21 rfl ?_
      refine v_lload hC 5 dX6_remains_21 rfl ?_
      refine v_ldc2 hC dX6_remains_23 w_705 ?_
      refine v_lcmp_le hC hf dX6_remains_26 dX6_remains_27 (tgt := 32) (by decide) (fun hf => ?_) (fun hf => ?_)
      · refine v_aload_n hC 0 dX6_remains_32 rfl ?_
        refine v_getR hC (host := "") hf fd_6_3 w_661 dX6_remains_33 (fun r3 hf => ?_)
        refine v_iload_n hC 3 dX6_remains_36 rfl ?_
        refine v_ldI hC hf dX6_remains_37 (fun x4 hf => ?_)
        refine v_i2l hC dX6_remains_38 ?_
        refine v_iload hC 6 dX6_remains_39 rfl ?_
        refine v_i2l hC dX6_remains_41 ?_
        refine v_ladd hC dX6_remains_42 ?_
        refine v_at 43 rfl ?_
        refine v_ltL hf (fun l5 hf => ?_)
        refine v_lstore hC [(10, .long l5), (0, .ref a0), (1, .int i1), (2, .int i2), (3, .int i3), (4, .int i4), (5, .long j5), (7, .int i7), (8, .int i8), (9, .int i9)] dX6_remains_43 hN (Nat.le_of_ble_eq_true rfl) rfl ?_
        refine v_lload hC 0 dX6_remains_45 rfl ?_
        refine v_ldc2 hC dX6_remains_47 w_705 ?_
        refine v_lcmp_le hC hf dX6_remains_50 dX6_remains_51 (tgt := 56) (by decide) (fun hf => ?_) (fun hf => ?_)
        · refine v_aload_n hC 1 dX6_remains_56 rfl ?_
          refine v_getR hC (host := "") hf fd_6_5 w_663 dX6_remains_57 (fun r6 hf => ?_)
          refine v_iconst (v := 2) hC dX6_remains_60 (by decide) ?_
          refine v_ldI hC hf dX6_remains_61 (fun x7 hf => ?_)
          refine v_istore hC [(12, .int x7), (10, .long l5), (0, .ref a0), (1, .int i1), (2, .int i2), (3, .int i3), (4, .int i4), (5, .long j5), (7, .int i7), (8, .int i8), (9, .int i9)] dX6_remains_62 hN (Nat.le_of_ble_eq_true rfl) rfl ?_
          refine v_iconst (v := 0) hC dX6_remains_64 (by decide) ?_
          refine v_istore hC [(13, .int 0), (12, .int x7), (10, .long l5), (0, .ref a0), (1, .int i1), (2, .int i2), (3, .int i3), (4, .int i4), (5, .long j5), (7, .int i7), (8, .int i8), (9, .int i9)] dX6_remains_65 hN (Nat.le_of_ble_eq_true rfl) rfl ?_
          refine v_at 67 rfl ?_
          refine v_sub [(0, .ref a0), (1, .int i1), (2, .int i2), (3, .int i3), (5, .long j5), (7, .int i7), (8, .int i8), (9, .int i9), (10, .long l5), (12, .int x7), (13, .int 0)] [3, 4, 5, 6, 8, 9, 10, 11, 2, 1, 0] rfl ?_
          refine v_lpE hf (E_X6_remains_L67 K a0 i1 i2 i3 j5 i7 i8 i9 l5 x7) (fun _ _ _ _ _ _ h hE => v_X6_remains_L67 hC hR hN _ _ _ _ _ _ _ _ _ _ _ _ _ _ _ _ _ h hE) (fun y13 σ14 _ _ hf => ?_)
          show V K _ _ σ14 99 [(0, .ref a0), (1, .int i1), (2, .int i2), (3, .int i3), (5, .long j5), (7, .int i7), (8, .int i8), (9, .int i9), (10, .long l5), (12, .int x7)] []
          refine v_aload_n hC 0 dX6_remains_99 rfl ?_
          refine v_getR hC (host := "") hf fd_6_5 w_663 dX6_remains_100 (fun r15 hf => ?_)
          refine v_iconst (v := 0) hC dX6_remains_103 (by decide) ?_
          refine v_iload hC 9 dX6_remains_104 rfl ?_
          refine v_stI hC hf dX6_remains_106 (fun σ16 hf => ?_)
          refine v_aload_n hC 0 dX6_remains_107 rfl ?_
          refine v_cVE hC (y := y_X6_product) (ci := 6) [] [] (fun _ => none) (fun _ => []) hf (fun _ _ _ _ h => m_X6_product h) rfl (fun _ => rfl) rfl rfl hR (Nat.le_of_ble_eq_true rfl) (Nat.le_of_ble_eq_true rfl) w_754 w_751 w_753 w_35 w_64 nm_X6_product rfl (Nat.le_of_ble_eq_true rfl) dX6_remains_108 (fun _ σ17 _ _ hf => ?_)
          refine v_aload_n hC 0 dX6_remains_111 rfl ?_
          refine v_at 112 rfl ?_
          refine v_getR hC (host := "") hf fd_6_5 w_663 dX6_remains_112 (fun r18 hf => ?_)
          refine v_iconst (v := 2) hC dX6_remains_115 (by decide) ?_
          refine v_ldI hC hf dX6_remains_116 (fun x19 hf => ?_)
          refine v_istore hC [(13, .int x19), (0, .ref a0), (1, .int i1), (2, .int i2), (3, .int i3), (5, .long j5), (7, .int i7), (8, .int i8), (9, .int i9), (10, .long l5), (12, .int x7)] dX6_remains_117 hN (Nat.le_of_ble_eq_true rfl) rfl ?_
          refine v_iconst (v := 0) hC dX6_remains_119 (by decide) ?_
          refine v_istore hC [(14, .int 0), (13, .int x19), (0, .ref a0), (1, .int i1), (2, .int i2), (3, .int i3), (5, .long j5), (7, .int i7), (8, .int i8), (9, .int i9), (10, .long l5), (12, .int x7)] dX6_remains_120 hN (Nat.le_of_ble_eq_true rfl) rfl ?_
          refine v_at 122 rfl ?_
          refine v_sub [(0, .ref a0), (1, .int i1), (2, .int i2), (3, .int i3), (5, .long j5), (7, .int i7), (8, .int i8), (9, .int i9), (10, .long l5), (12, .int x7), (13, .int x19), (14, .int 0)] [2, 3, 4, 5, 6, 7, 8, 9, 10, 11, 1, 0] rfl ?_
          refine v_lpE hf (E_X6_remains_L122 K a0 i1 i2 i3 j5 i7 i8 i9 l5 x7 x19) (fun _ _ _ _ _ _ h hE => v_X6_remains_L122 hC hR hN _ _ _ _ _ _ _ _ _ _ _ _ _ _ _ _ _ _ h hE) (fun y25 σ26 _ _ hf => ?_)
          show V K _ _ σ26 156 [(0, .ref a0), (1, .int i1), (2, .int i2), (3, .int i3), (5, .long j5), (7, .int i7), (8, .int i8), (9, .int i9), (10, .long l5), (12, .int x7), (13, .int x19)] []
          refine v_aload_n hC 0 dX6_remains_156 rfl ?_
          refine v_getR hC (host := "") hf fd_6_5 w_663 dX6_remains_157 (fun r27 hf => ?_)
          refine v_iconst (v := 1) hC dX6_remains_160 (by decide) ?_
          refine v_iload hC 10 dX6_remains_161 rfl ?_
          refine v_stI hC hf dX6_remains_163 (fun σ28 hf => ?_)
          refine v_iconst (v := 0) hC dX6_remains_164 (by decide) ?_
          refine v_istore hC [(14, .int 0), (0, .ref a0), (1, .int i1), (2, .int i2), (3, .int i3), (5, .long j5), (7, .int i7), (8, .int i8), (9, .int i9), (10, .long l5), (12, .int x7), (13, .int x19)] dX6_remains_165 hN (Nat.le_of_ble_eq_true rfl) rfl ?_
          refine v_at 167 rfl ?_
          refine v_sub [(0, .ref a0), (1, .int i1), (2, .int i2), (3, .int i3), (5, .long j5), (7, .int i7), (8, .int i8), (9, .int i9), (10, .long l5), (12, .int x7), (14, .int 0)] [1, 2, 3, 4, 5, 6, 7, 8, 9, 10, 0] rfl ?_
          refine v_lpE hf (E_X6_remains_L167 K a0 i1 i2 i3 j5 i7 i8 i9 l5 x7) (fun _ _ _ _ _ _ h hE => v_X6_remains_L167 hC hR hN _ _ _ _ _ _ _ _ _ _ _ _ _ _ _ _ _ h hE) (fun y34 σ35 _ _ hf => ?_)
          show V K _ _ σ35 199 [(0, .ref a0), (1, .int i1), (2, .int i2), (3, .int i3), (5, .long j5), (7, .int i7), (8, .int i8), (9, .int i9), (10, .long l5), (12, .int x7)] []
          refine v_aload_n hC 0 dX6_remains_199 rfl ?_
          refine v_getR hC (host := "") hf fd_6_5 w_663 dX6_remains_200 (fun r36 hf => ?_)
          refine v_iconst (v := 2) hC dX6_remains_203 (by decide) ?_
          refine v_iload hC 9 dX6_remains_204 rfl ?_
          refine v_stI hC hf dX6_remains_206 (fun σ37 hf => ?_)
          refine v_aload_n hC 0 dX6_remains_207 rfl ?_
          refine v_iconst (v := 0) hC dX6_remains_208 (by decide) ?_
          refine v_iload_n hC 3 dX6_remains_209 rfl ?_
          refine v_at 210 rfl ?_
          refine v_cVE hC (y := y_X6_load) (ci := 6) [.int 0, .int i3] [] (fun _ => none) (fun _ => []) hf (fun _ _ _ _ h => m_X6_load h) rfl (fun _ => rfl) rfl rfl hR (Nat.le_of_ble_eq_true rfl) (Nat.le_of_ble_eq_true rfl) w_713 w_710 w_712 w_28 w_64 nm_X6_load rfl (Nat.le_of_ble_eq_true rfl) dX6_remains_210 (fun _ σ38 _ _ hf => ?_)
          refine v_aload_n hC 0 dX6_remains_213 rfl ?_
          refine v_iconst (v := 0) hC dX6_remains_214 (by decide) ?_
          refine v_iload hC 5 dX6_remains_215 rfl ?_
          refine v_cVE hC (y := y_X6_raise) (ci := 6) [.int 0, .int i7] [] (fun _ => none) (fun _ => []) hf (fun _ _ _ _ h => m_X6_raise h) rfl (fun _ => rfl) rfl rfl hR (Nat.le_of_ble_eq_true rfl) (Nat.le_of_ble_eq_true rfl) w_726 w_723 w_725 w_30 w_64 nm_X6_raise rfl (Nat.le_of_ble_eq_true rfl) dX6_remains_217 (fun _ σ39 _ _ hf => ?_)
          refine v_aload_n hC 0 dX6_remains_220 rfl ?_
          refine v_iconst (v := 0) hC dX6_remains_221 (by decide) ?_
          refine v_iconst (v := 1) hC dX6_remains_222 (by decide) ?_
          refine v_at 223 rfl ?_
          refine v_cVE hC (y := y_X6_less) (ci := 6) [.int 0, .int 1] [] (fun _ => none) (fun _ => []) hf (fun _ _ _ _ h => m_X6_less h) rfl (fun _ => rfl) rfl rfl hR (Nat.le_of_ble_eq_true rfl) (Nat.le_of_ble_eq_true rfl) w_742 w_739 w_741 w_34 w_64 nm_X6_less rfl (Nat.le_of_ble_eq_true rfl) dX6_remains_223 (fun _ σ40 _ _ hf => ?_)
          refine v_aload_n hC 0 dX6_remains_226 rfl ?_
          refine v_getR hC (host := "") hf fd_6_5 w_663 dX6_remains_227 (fun r41 hf => ?_)
          refine v_iconst (v := 0) hC dX6_remains_230 (by decide) ?_
          refine v_ldI hC hf dX6_remains_231 (fun x42 hf => ?_)
          refine v_sipush (v := 4096) hC dX6_remains_232 (by decide) ?_
          refine v_icmp_le hC hf dX6_remains_235 (tgt := 240) (by decide) (fun hf => ?_) (fun hf => ?_)
          · refine v_aload_n hC 0 dX6_remains_240 rfl ?_
            refine v_iload_n hC 2 dX6_remains_241 rfl ?_
            refine v_iconst (v := 0) hC dX6_remains_242 (by decide) ?_
            refine v_iload hC 7 dX6_remains_243 rfl ?_
            refine v_lload hC 8 dX6_remains_245 rfl ?_
            refine v_cVE hC (y := y_X6_store) (ci := 6) [.int i2, .int 0, .int i9, .long l5] [] (fun r => some (.int r)) (fun r => .int r :: []) hf (fun _ _ _ _ h => m_X6_store h) rfl (fun _ => rfl) rfl rfl hR (Nat.le_of_ble_eq_true rfl) (Nat.le_of_ble_eq_true rfl) w_703 w_700 w_702 w_27 w_64 nm_X6_store rfl (Nat.le_of_ble_eq_true rfl) dX6_remains_247 (fun x43 σ44 _ _ hf => ?_)
            refine v_istore hC [(14, .int x43), (0, .ref a0), (1, .int i1), (2, .int i2), (3, .int i3), (5, .long j5), (7, .int i7), (8, .int i8), (9, .int i9), (10, .long l5), (12, .int x7)] dX6_remains_250 hN (Nat.le_of_ble_eq_true rfl) rfl ?_
            refine v_aload_n hC 1 dX6_remains_252 rfl ?_
            refine v_at 253 rfl ?_
            refine v_iload_n hC 2 dX6_remains_253 rfl ?_
            refine v_iconst (v := 2) hC dX6_remains_254 (by decide) ?_
            refine v_iload hC 7 dX6_remains_255 rfl ?_
            refine v_lload hC 5 dX6_remains_257 rfl ?_
            refine v_cVE hC (y := y_X6_store) (ci := 6) [.int i1, .int 2, .int i8, .long j5] [] (fun r => some (.int r)) (fun r => .int r :: []) hf (fun _ _ _ _ h => m_X6_store h) rfl (fun _ => rfl) rfl rfl hR (Nat.le_of_ble_eq_true rfl) (Nat.le_of_ble_eq_true rfl) w_703 w_700 w_702 w_27 w_64 nm_X6_store rfl (Nat.le_of_ble_eq_true rfl) dX6_remains_259 (fun x45 σ46 _ _ hf => ?_)
            refine v_if_eq hC hf dX6_remains_262 (tgt := 274) (by decide) (fun hf => ?_) (fun hf => ?_)
            · refine v_iconst (v := 0) hC dX6_remains_274 (by decide) ?_
              exact v_retZ hC hf hE dX6_remains_275
            · refine v_at 265 rfl ?_
              refine v_iload hC 0 dX6_remains_265 rfl ?_
              refine v_if_eq hC hf dX6_remains_267 (tgt := 274) (by decide) (fun hf => ?_) (fun hf => ?_)
              · refine v_iconst (v := 0) hC dX6_remains_274 (by decide) ?_
                exact v_retZ hC hf hE dX6_remains_275
              · refine v_at 270 rfl ?_
                refine v_iconst (v := 1) hC dX6_remains_270 (by decide) ?_
                refine v_goto (tgt := 275) hC dX6_remains_271 (by decide) ?_
                exact v_retZ hC hf hE dX6_remains_275
          · refine v_at 238 rfl ?_
            refine v_iconst (v := 0) hC dX6_remains_238 (by decide) ?_
            exact v_retZ hC hf hE dX6_remains_239
        · refine v_at 54 rfl ?_
          refine v_iconst (v := 0) hC dX6_remains_54 (by decide) ?_
          exact v_retZ hC hf hE dX6_remains_55
      · refine v_at 30 rfl ?_
        refine v_iconst (v := 0) hC dX6_remains_30 (by decide) ?_
        exact v_retZ hC hf hE dX6_remains_31
def E_X6_whole_L203 (K : Cq) (a0 : Nat) (i1 : Int32) (i2 : Int32) (i3 : Int32) (i4 : Int32) (i5 : Int32) (i6 : Int32) (j7 : Int64) (y : Int32) (σ : St) (kr sr : Nat) : Prop := V K kr sr σ 288 [(0, .ref a0), (1, .int i1), (2, .int i2), (3, .int i3), (4, .int i4), (5, .int i5), (6, .int i6), (7, .long j7), (12, .int y)] []
set_option maxHeartbeats 4000000 in
set_option maxRecDepth 100000 in
theorem v_X6_whole_L203 {K : Cq} {k0 s0 : Nat} (hC : Cx K prog_8_method_33_code "TensMillModel") (hR : kR K = rmF 4 91 k0 s0) (hN : kn K = 14) {ko so : Nat} : ∀ (n : Nat) (σ : St) (a0 : Nat) (i1 : Int32) (i2 : Int32) (i3 : Int32) (i4 : Int32) (i5 : Int32) (i6 : Int32) (j7 : Int64) (i12 : Int32) (y : Int32) (σf : St) (kr sr : Nat), f_X6_whole_L203 n σ a0 i1 i2 i3 i4 i5 i6 j7 i12 = some (y, σf, kr, sr) → E_X6_whole_L203 K a0 i1 i2 i3 i4 i5 i6 j7 y σf ko so → V K (kr + ko) (sr + so) σ 203 [(0, .ref a0), (1, .int i1), (2, .int i2), (3, .int i3), (4, .int i4), (5, .int i5), (6, .int i6), (7, .long j7), (12, .int i12)] [] := by
  intro n
  induction n with
  | zero =>
    intro σ a0 i1 i2 i3 i4 i5 i6 j7 i12 y σf kr sr hf hE
    cases hf
  | succ n ih =>
    intro σ a0 i1 i2 i3 i4 i5 i6 j7 i12 y σf kr sr hf hE
    replace hf : b_X6_whole_L203 (f_X6_whole_L203 n) σ a0 i1 i2 i3 i4 i5 i6 j7 i12 = some (y, σf, kr, sr) := hf
    unfold b_X6_whole_L203 at hf
    refine v_aload_n hC 0 dX6_whole_203 rfl ?_
    refine v_getR hC (host := "") hf fd_6_5 w_663 dX6_whole_204 (fun r25 hf => ?_)
    refine v_iconst (v := 3) hC dX6_whole_207 (by decide) ?_
    refine v_ldI hC hf dX6_whole_208 (fun x26 hf => ?_)
    refine v_if_le hC hf dX6_whole_209 (tgt := 288) (by decide) (fun hf => ?_) (fun hf => ?_)
    · obtain ⟨hX, e1, e2⟩ := v_exE (E := E_X6_whole_L203 K a0 i1 i2 i3 i4 i5 i6 j7) hf hE
      rw [e1, e2]
      exact v_sub [(0, .ref a0), (1, .int i1), (2, .int i2), (3, .int i3), (4, .int i4), (5, .int i5), (6, .int i6), (7, .long j7), (12, .int i12)] [0, 1, 2, 3, 4, 5, 6, 7, 8] rfl hX
    · refine v_at 212 rfl ?_
      refine v_iload hC 8 dX6_whole_212 rfl ?_
      refine v_i2l hC dX6_whole_214 ?_
      refine v_lload hC 7 dX6_whole_215 rfl ?_
      refine v_lneg hC dX6_whole_217 ?_
      refine v_lcmp_ge hC hf dX6_whole_218 dX6_whole_219 (tgt := 288) (by decide) (fun hf => ?_) (fun hf => ?_)
      · obtain ⟨hX, e1, e2⟩ := v_exE (E := E_X6_whole_L203 K a0 i1 i2 i3 i4 i5 i6 j7) hf hE
        rw [e1, e2]
        exact v_sub [(0, .ref a0), (1, .int i1), (2, .int i2), (3, .int i3), (4, .int i4), (5, .int i5), (6, .int i6), (7, .long j7), (12, .int i12)] [0, 1, 2, 3, 4, 5, 6, 7, 8] rfl hX
      · refine v_at 222 rfl ?_
        refine v_iload hC 8 dX6_whole_222 rfl ?_
        refine v_sipush (v := 12500) hC dX6_whole_224 (by decide) ?_
        refine v_icmp_ge hC hf dX6_whole_227 (tgt := 288) (by decide) (fun hf => ?_) (fun hf => ?_)
        · obtain ⟨hX, e1, e2⟩ := v_exE (E := E_X6_whole_L203 K a0 i1 i2 i3 i4 i5 i6 j7) hf hE
          rw [e1, e2]
          exact v_sub [(0, .ref a0), (1, .int i1), (2, .int i2), (3, .int i3), (4, .int i4), (5, .int i5), (6, .int i6), (7, .long j7), (12, .int i12)] [0, 1, 2, 3, 4, 5, 6, 7, 8] rfl hX
        · refine v_at 230 rfl ?_
          refine v_aload_n hC 0 dX6_whole_230 rfl ?_
          refine v_iconst (v := 0) hC dX6_whole_231 (by decide) ?_
          refine v_cVE hC (y := y_X6_step) (ci := 6) [.int 0] [] (fun r => some (.int r)) (fun r => .int r :: []) hf (fun _ _ _ _ h => m_X6_step h) rfl (fun _ => rfl) rfl rfl hR (Nat.le_of_ble_eq_true rfl) (Nat.le_of_ble_eq_true rfl) w_776 w_773 w_775 w_37 w_64 nm_X6_step rfl (Nat.le_of_ble_eq_true rfl) dX6_whole_232 (fun x27 σ28 _ _ hf => ?_)
          refine v_istore hC [(13, .int x27), (0, .ref a0), (1, .int i1), (2, .int i2), (3, .int i3), (4, .int i4), (5, .int i5), (6, .int i6), (7, .long j7), (12, .int i12)] dX6_whole_235 hN (Nat.le_of_ble_eq_true rfl) rfl ?_
          refine v_aload_n hC 1 dX6_whole_237 rfl ?_
          refine v_iconst (v := 2) hC dX6_whole_238 (by decide) ?_
          refine v_iconst (v := 1) hC dX6_whole_239 (by decide) ?_
          refine v_cVE hC (y := y_X6_raise) (ci := 6) [.int 2, .int 1] [] (fun _ => none) (fun _ => []) hf (fun _ _ _ _ h => m_X6_raise h) rfl (fun _ => rfl) rfl rfl hR (Nat.le_of_ble_eq_true rfl) (Nat.le_of_ble_eq_true rfl) w_726 w_723 w_725 w_30 w_64 nm_X6_raise rfl (Nat.le_of_ble_eq_true rfl) dX6_whole_240 (fun _ σ29 _ _ hf => ?_)
          refine v_at 243 rfl ?_
          refine v_aload_n hC 1 dX6_whole_243 rfl ?_
          refine v_getR hC (host := "") hf fd_6_5 w_663 dX6_whole_244 (fun r30 hf => ?_)
          refine v_iconst (v := 2) hC dX6_whole_247 (by decide) ?_
          refine v_ldI hC hf dX6_whole_248 (fun x31 hf => ?_)
          refine v_jnE hf (fun z32 kr sr => V K (kr + ko) (sr + so) z32 264 [(0, .ref a0), (1, .int i1), (2, .int i2), (3, .int i3), (4, .int i4), (5, .int i5), (6, .int i6), (7, .long j7), (12, .int i12), (13, .int x27)] []) (fun z32 _ _ hf => ?_) (fun k32 hk32 hf => ?_)
          · refine v_aload_n hC 0 dX6_whole_264 rfl ?_
            refine v_getR hC (host := "") hf fd_6_5 w_663 dX6_whole_265 (fun r33 hf => ?_)
            refine v_iconst (v := 2) hC dX6_whole_268 (by decide) ?_
            refine v_ldI hC hf dX6_whole_269 (fun x34 hf => ?_)
            refine v_jnE hf (fun z35 kr sr => V K (kr + ko) (sr + so) z35 282 [(0, .ref a0), (1, .int i1), (2, .int i2), (3, .int i3), (4, .int i4), (5, .int i5), (6, .int i6), (7, .long j7), (12, .int i12)] []) (fun z35 _ _ hf => ?_) (fun k35 hk35 hf => ?_)
            · refine v_incL hC hf 8 (fun x36 => [(12, .int x36), (0, .ref a0), (1, .int i1), (2, .int i2), (3, .int i3), (4, .int i4), (5, .int i5), (6, .int i6), (7, .long j7)]) dX6_whole_282 rfl (by decide) hN (Nat.le_of_ble_eq_true rfl) (fun _ => rfl) (fun x36 hf => ?_)
              refine v_goto (tgt := 203) hC dX6_whole_285 (by decide) ?_
              exact v_sub [(0, .ref a0), (1, .int i1), (2, .int i2), (3, .int i3), (4, .int i4), (5, .int i5), (6, .int i6), (7, .long j7), (12, .int x36)] [1, 2, 3, 4, 5, 6, 7, 8, 0] rfl (ih _ _ _ _ _ _ _ _ _ _ _ _ _ _ hf hE)
            · refine v_if_le hC hf dX6_whole_270 (tgt := 282) (by decide) (fun hf => ?_) (fun hf => ?_)
              · exact v_sub [(0, .ref a0), (1, .int i1), (2, .int i2), (3, .int i3), (4, .int i4), (5, .int i5), (6, .int i6), (7, .long j7), (12, .int i12)] [0, 1, 2, 3, 4, 5, 6, 7, 8] rfl (hk35 _ _ _ hf)
              · refine v_at 273 rfl ?_
                refine v_aload_n hC 0 dX6_whole_273 rfl ?_
                refine v_getR hC (host := "") hf fd_6_4 w_662 dX6_whole_274 (fun r37 hf => ?_)
                refine v_ldc hC dX6_whole_277 w_755 ?_
                refine v_iload hC 9 dX6_whole_279 rfl ?_
                refine v_stI hC hf dX6_whole_281 (fun σ38 hf => ?_)
                refine v_at 282 rfl ?_
                exact v_sub [(0, .ref a0), (1, .int i1), (2, .int i2), (3, .int i3), (4, .int i4), (5, .int i5), (6, .int i6), (7, .long j7), (12, .int i12)] [0, 1, 2, 3, 4, 5, 6, 7, 8] rfl (hk35 _ _ _ hf)
          · refine v_if_ne hC hf dX6_whole_249 (tgt := 264) (by decide) (fun hf => ?_) (fun hf => ?_)
            · exact v_sub [(0, .ref a0), (1, .int i1), (2, .int i2), (3, .int i3), (4, .int i4), (5, .int i5), (6, .int i6), (7, .long j7), (12, .int i12), (13, .int x27)] [1, 2, 3, 4, 5, 6, 7, 8, 9, 0] rfl (hk32 _ _ _ hf)
            · refine v_at 252 rfl ?_
              refine v_iload hC 0 dX6_whole_252 rfl ?_
              refine v_if_le hC hf dX6_whole_254 (tgt := 264) (by decide) (fun hf => ?_) (fun hf => ?_)
              · exact v_sub [(0, .ref a0), (1, .int i1), (2, .int i2), (3, .int i3), (4, .int i4), (5, .int i5), (6, .int i6), (7, .long j7), (12, .int i12), (13, .int x27)] [1, 2, 3, 4, 5, 6, 7, 8, 9, 0] rfl (hk32 _ _ _ hf)
              · refine v_at 257 rfl ?_
                refine v_aload_n hC 1 dX6_whole_257 rfl ?_
                refine v_getR hC (host := "") hf fd_6_5 w_663 dX6_whole_258 (fun r39 hf => ?_)
                refine v_iconst (v := 2) hC dX6_whole_261 (by decide) ?_
                refine v_iconst (v := 1) hC dX6_whole_262 (by decide) ?_
                refine v_stI hC hf dX6_whole_263 (fun σ40 hf => ?_)
                refine v_at 264 rfl ?_
                exact v_sub [(0, .ref a0), (1, .int i1), (2, .int i2), (3, .int i3), (4, .int i4), (5, .int i5), (6, .int i6), (7, .long j7), (12, .int i12), (13, .int x27)] [1, 2, 3, 4, 5, 6, 7, 8, 9, 0] rfl (hk32 _ _ _ hf)
set_option maxHeartbeats 4000000 in
set_option maxRecDepth 100000 in
theorem m_X6_whole {G : Gm} {l : Launch} {σ : St} {a0 : Nat} {i1 : Int32} {i2 : Int32} {i3 : Int32} {i4 : Int32} {r : Int32} {σf : St} {k s : Nat} (hf : f_X6_whole σ a0 i1 i2 i3 i4 = some (r, σf, k, s)) : (∃ fs : List Value, σ.1 a0 = some (.inr (.inl (6, fs)))) ∧ Ct G l y_X6_whole prog_8_method_33_code 14 (some .boolean) 4 91 [.ref a0, .int i1, .int i2, .int i3, .int i4] σ (some (.int r)) σf k s := by
  unfold f_X6_whole at hf
  obtain ⟨hob, hf⟩ := ob_some hf
  refine ⟨hob, Ct.ofV pl_X6_whole (Nat.le_of_ble_eq_true rfl) ?_⟩
  intro K hR hN hnm hC hE
  show V K (k + 0) (s + 0) σ 0 [(0, .ref a0), (1, .int i1), (2, .int i2), (3, .int i3), (4, .int i4)] []
  refine v_iload_n hC 1 dX6_whole_0 rfl ?_
  refine v_cSP hC (y := y_X6_is) [.int i1] [] (fun r => some (.int r)) (fun r => .int r :: []) hf (fun _ h => m_X6_is h) rfl (fun _ => rfl) hR (Nat.le_of_ble_eq_true rfl) (Nat.le_of_ble_eq_true rfl) w_698 w_696 w_697 w_64 nm_X6_is rfl (Nat.le_of_ble_eq_true rfl) dX6_whole_1 (fun x1 hf => ?_)
  refine v_if_eq hC hf dX6_whole_4 (tgt := 44) (by decide) (fun hf => ?_) (fun hf => ?_)
  · refine v_iconst (v := 0) hC dX6_whole_44 (by decide) ?_
    exact v_retZ hC hf hE dX6_whole_45
  · refine v_at 7 rfl ?_
    refine v_iload_n hC 2 dX6_whole_7 rfl ?_
    refine v_cSP hC (y := y_X6_is) [.int i2] [] (fun r => some (.int r)) (fun r => .int r :: []) hf (fun _ h => m_X6_is h) rfl (fun _ => rfl) hR (Nat.le_of_ble_eq_true rfl) (Nat.le_of_ble_eq_true rfl) w_698 w_696 w_697 w_64 nm_X6_is rfl (Nat.le_of_ble_eq_true rfl) dX6_whole_8 (fun x2 hf => ?_)
    refine v_if_eq hC hf dX6_whole_11 (tgt := 44) (by decide) (fun hf => ?_) (fun hf => ?_)
    · refine v_iconst (v := 0) hC dX6_whole_44 (by decide) ?_
      exact v_retZ hC hf hE dX6_whole_45
    · refine v_at 14 rfl ?_
      refine v_iload_n hC 3 dX6_whole_14 rfl ?_
      refine v_cSP hC (y := y_X6_is) [.int i3] [] (fun r => some (.int r)) (fun r => .int r :: []) hf (fun _ h => m_X6_is h) rfl (fun _ => rfl) hR (Nat.le_of_ble_eq_true rfl) (Nat.le_of_ble_eq_true rfl) w_698 w_696 w_697 w_64 nm_X6_is rfl (Nat.le_of_ble_eq_true rfl) dX6_whole_15 (fun x3 hf => ?_)
      refine v_if_eq hC hf dX6_whole_18 (tgt := 44) (by decide) (fun hf => ?_) (fun hf => ?_)
      · refine v_iconst (v := 0) hC dX6_whole_44 (by decide) ?_
        exact v_retZ hC hf hE dX6_whole_45
      · refine v_at 21 rfl ?_
        refine v_iload hC 4 dX6_whole_21 rfl ?_
        refine v_cSP hC (y := y_X6_is) [.int i4] [] (fun r => some (.int r)) (fun r => .int r :: []) hf (fun _ h => m_X6_is h) rfl (fun _ => rfl) hR (Nat.le_of_ble_eq_true rfl) (Nat.le_of_ble_eq_true rfl) w_698 w_696 w_697 w_64 nm_X6_is rfl (Nat.le_of_ble_eq_true rfl) dX6_whole_23 (fun x4 hf => ?_)
        refine v_if_eq hC hf dX6_whole_26 (tgt := 44) (by decide) (fun hf => ?_) (fun hf => ?_)
        · refine v_iconst (v := 0) hC dX6_whole_44 (by decide) ?_
          exact v_retZ hC hf hE dX6_whole_45
        · refine v_at 29 rfl ?_
          refine v_iload_n hC 1 dX6_whole_29 rfl ?_
          refine v_iload_n hC 2 dX6_whole_30 rfl ?_
          refine v_icmp_eq hC hf dX6_whole_31 (tgt := 44) (by decide) (fun hf => ?_) (fun hf => ?_)
          · refine v_iconst (v := 0) hC dX6_whole_44 (by decide) ?_
            exact v_retZ hC hf hE dX6_whole_45
          · refine v_at 34 rfl ?_
            refine v_aload_n hC 0 dX6_whole_34 rfl ?_
            refine v_getR hC (host := "") hf fd_6_1 w_659 dX6_whole_35 (fun r5 hf => ?_)
            refine v_iload hC 4 dX6_whole_38 rfl ?_
            refine v_ldI hC hf dX6_whole_40 (fun x6 hf => ?_)
            refine v_if_ne hC hf dX6_whole_41 (tgt := 46) (by decide) (fun hf => ?_) (fun hf => ?_)
            · refine v_aload_n hC 0 dX6_whole_46 rfl ?_
              refine v_getR hC (host := "") hf fd_6_2 w_660 dX6_whole_47 (fun r7 hf => ?_)
              refine v_iload_n hC 3 dX6_whole_50 rfl ?_
              refine v_ldI hC hf dX6_whole_51 (fun x8 hf => ?_)
              refine v_aload_n hC 0 dX6_whole_52 rfl ?_
              refine v_getR hC (host := "") hf fd_6_2 w_660 dX6_whole_53 (fun r9 hf => ?_)
              refine v_iload hC 4 dX6_whole_56 rfl ?_
              refine v_ldI hC hf dX6_whole_58 (fun x10 hf => ?_)
              refine v_at 59 rfl ?_
              refine v_imul hC dX6_whole_59 ?_
              refine v_ltI hf (fun x11 hf => ?_)
              refine v_istore hC [(5, .int x11), (0, .ref a0), (1, .int i1), (2, .int i2), (3, .int i3), (4, .int i4)] dX6_whole_60 hN (Nat.le_of_ble_eq_true rfl) rfl ?_
              refine v_aload_n hC 1 dX6_whole_62 rfl ?_
              refine v_getR hC (host := "") hf fd_6_2 w_660 dX6_whole_63 (fun r12 hf => ?_)
              refine v_iload_n hC 4 dX6_whole_66 rfl ?_
              refine v_ldI hC hf dX6_whole_67 (fun x13 hf => ?_)
              refine v_istore hC [(6, .int x13), (5, .int x11), (0, .ref a0), (1, .int i1), (2, .int i2), (3, .int i3), (4, .int i4)] dX6_whole_68 hN (Nat.le_of_ble_eq_true rfl) rfl ?_
              refine v_aload_n hC 2 dX6_whole_70 rfl ?_
              refine v_at 71 rfl ?_
              refine v_getR hC (host := "") hf fd_6_3 w_661 dX6_whole_71 (fun r14 hf => ?_)
              refine v_iload_n hC 5 dX6_whole_74 rfl ?_
              refine v_ldI hC hf dX6_whole_75 (fun x15 hf => ?_)
              refine v_i2l hC dX6_whole_76 ?_
              refine v_aload_n hC 2 dX6_whole_77 rfl ?_
              refine v_getR hC (host := "") hf fd_6_3 w_661 dX6_whole_78 (fun r16 hf => ?_)
              refine v_iload hC 6 dX6_whole_81 rfl ?_
              refine v_ldI hC hf dX6_whole_83 (fun x17 hf => ?_)
              refine v_at 84 rfl ?_
              refine v_i2l hC dX6_whole_84 ?_
              refine v_lsub hC dX6_whole_85 ?_
              refine v_ltL hf (fun l18 hf => ?_)
              refine v_lstore hC [(7, .long l18), (6, .int x13), (5, .int x11), (0, .ref a0), (1, .int i1), (2, .int i2), (3, .int i3), (4, .int i4)] dX6_whole_86 hN (Nat.le_of_ble_eq_true rfl) rfl ?_
              refine v_aload_n hC 3 dX6_whole_88 rfl ?_
              refine v_iconst (v := 0) hC dX6_whole_89 (by decide) ?_
              refine v_iload_n hC 6 dX6_whole_90 rfl ?_
              refine v_cVE hC (y := y_X6_load) (ci := 6) [.int 0, .int i3] [] (fun _ => none) (fun _ => []) hf (fun _ _ _ _ h => m_X6_load h) rfl (fun _ => rfl) rfl rfl hR (Nat.le_of_ble_eq_true rfl) (Nat.le_of_ble_eq_true rfl) w_713 w_710 w_712 w_28 w_64 nm_X6_load rfl (Nat.le_of_ble_eq_true rfl) dX6_whole_91 (fun _ σ19 _ _ hf => ?_)
              refine v_aload_n hC 3 dX6_whole_94 rfl ?_
              refine v_at 95 rfl ?_
              refine v_iconst (v := 1) hC dX6_whole_95 (by decide) ?_
              refine v_iload hC 7 dX6_whole_96 rfl ?_
              refine v_cVE hC (y := y_X6_load) (ci := 6) [.int 1, .int i4] [] (fun _ => none) (fun _ => []) hf (fun _ _ _ _ h => m_X6_load h) rfl (fun _ => rfl) rfl rfl hR (Nat.le_of_ble_eq_true rfl) (Nat.le_of_ble_eq_true rfl) w_713 w_710 w_712 w_28 w_64 nm_X6_load rfl (Nat.le_of_ble_eq_true rfl) dX6_whole_98 (fun _ σ20 _ _ hf => ?_)
              refine v_lload hC 0 dX6_whole_101 rfl ?_
              refine v_lstore hC [(9, .long l18), (7, .long l18), (6, .int x13), (5, .int x11), (0, .ref a0), (1, .int i1), (2, .int i2), (3, .int i3), (4, .int i4)] dX6_whole_103 hN (Nat.le_of_ble_eq_true rfl) rfl ?_
              refine v_iconst (v := 0) hC dX6_whole_105 (by decide) ?_
              refine v_istore hC [(11, .int 0), (9, .long l18), (7, .long l18), (6, .int x13), (5, .int x11), (0, .ref a0), (1, .int i1), (2, .int i2), (3, .int i3), (4, .int i4)] dX6_whole_106 hN (Nat.le_of_ble_eq_true rfl) rfl ?_
              refine v_lload hC 2 dX6_whole_108 rfl ?_
              refine v_at 110 rfl ?_
              refine v_lconst (v := 0) hC dX6_whole_110 (by decide) ?_
              refine v_jnE hf (fun z21 kr sr => V K (kr + 0) (sr + 0) z21.2.2 364 [(0, .ref a0), (1, .int i1), (2, .int i2), (3, .int i3), (4, .int i4), (5, .int x11), (6, .int x13), (9, .long z21.1), (11, .int z21.2.1)] []) (fun z21 _ _ hf => ?_) (fun k21 hk21 hf => ?_)
              · refine v_aload_n hC 0 dX6_whole_364 rfl ?_
                refine v_iload_n hC 1 dX6_whole_365 rfl ?_
                refine v_iload_n hC 2 dX6_whole_366 rfl ?_
                refine v_iload_n hC 3 dX6_whole_367 rfl ?_
                refine v_iload hC 4 dX6_whole_368 rfl ?_
                refine v_lload hC 7 dX6_whole_370 rfl ?_
                refine v_iload hC 8 dX6_whole_372 rfl ?_
                refine v_iload hC 5 dX6_whole_374 rfl ?_
                refine v_at 376 rfl ?_
                refine v_iload hC 6 dX6_whole_376 rfl ?_
                refine v_cVE hC (y := y_X6_remains) (ci := 6) [.int i1, .int i2, .int i3, .int i4, .long z21.1, .int z21.2.1, .int x11, .int x13] [] (fun r => some (.int r)) (fun r => .int r :: []) hf (fun _ _ _ _ h => m_X6_remains h) rfl (fun _ => rfl) rfl rfl hR (Nat.le_of_ble_eq_true rfl) (Nat.le_of_ble_eq_true rfl) w_828 w_825 w_827 w_47 w_64 nm_X6_remains rfl (Nat.le_of_ble_eq_true rfl) dX6_whole_378 (fun x22 σ23 _ _ hf => ?_)
                exact v_retZ hC hf hE dX6_whole_381
              · refine v_lcmp_le hC hf dX6_whole_111 dX6_whole_112 (tgt := 196) (by decide) (fun hf => ?_) (fun hf => ?_)
                · refine v_aload_n hC 5 dX6_whole_196 rfl ?_
                  refine v_cVE hC (y := y_X6_quotient) (ci := 6) [] [] (fun _ => none) (fun _ => []) hf (fun _ _ _ _ h => m_X6_quotient h) rfl (fun _ => rfl) rfl rfl hR (Nat.le_of_ble_eq_true rfl) (Nat.le_of_ble_eq_true rfl) w_772 w_769 w_771 w_36 w_64 nm_X6_quotient rfl (Nat.le_of_ble_eq_true rfl) dX6_whole_197 (fun _ σ24 _ _ hf => ?_)
                  refine v_iconst (v := 0) hC dX6_whole_200 (by decide) ?_
                  refine v_istore hC [(12, .int 0), (11, .int 0), (9, .long l18), (7, .long l18), (6, .int x13), (5, .int x11), (0, .ref a0), (1, .int i1), (2, .int i2), (3, .int i3), (4, .int i4)] dX6_whole_201 hN (Nat.le_of_ble_eq_true rfl) rfl ?_
                  refine v_at 203 rfl ?_
                  refine v_sub [(0, .ref a0), (1, .int i1), (2, .int i2), (3, .int i3), (4, .int i4), (5, .int x11), (6, .int x13), (7, .long l18), (12, .int 0)] [6, 7, 8, 9, 10, 5, 4, 3, 0] rfl ?_
                  refine v_lpE hf (E_X6_whole_L203 K a0 i1 i2 i3 i4 x11 x13 l18) (fun _ _ _ _ _ _ h hE => v_X6_whole_L203 hC hR hN _ _ _ _ _ _ _ _ _ _ _ _ _ _ _ h hE) (fun y41 σ42 _ _ hf => ?_)
                  show V K _ _ σ42 288 [(0, .ref a0), (1, .int i1), (2, .int i2), (3, .int i3), (4, .int i4), (5, .int x11), (6, .int x13), (7, .long l18), (12, .int y41)] []
                  refine v_aload_n hC 0 dX6_whole_288 rfl ?_
                  refine v_getR hC (host := "") hf fd_6_5 w_663 dX6_whole_289 (fun r43 hf => ?_)
                  refine v_iconst (v := 3) hC dX6_whole_292 (by decide) ?_
                  refine v_ldI hC hf dX6_whole_293 (fun x44 hf => ?_)
                  refine v_jnE hf (fun z45 kr sr => V K (kr + 0) (sr + 0) σ42 309 [(0, .ref a0), (1, .int i1), (2, .int i2), (3, .int i3), (4, .int i4), (5, .int x11), (6, .int x13), (7, .long l18), (12, .int y41)] []) (fun z45 _ _ hf => ?_) (fun k45 hk45 hf => ?_)
                  · refine v_aload_n hC 0 dX6_whole_309 rfl ?_
                    refine v_iconst (v := 2) hC dX6_whole_310 (by decide) ?_
                    refine v_cVP hC (y := y_X6_zeros) (ci := 6) [.int 2] [] (fun r => some (.int r)) (fun r => .int r :: []) hf (fun _ h => m_X6_zeros h) rfl (fun _ => rfl) rfl rfl hR (Nat.le_of_ble_eq_true rfl) (Nat.le_of_ble_eq_true rfl) w_820 w_817 w_819 w_46 w_64 nm_X6_zeros rfl (Nat.le_of_ble_eq_true rfl) dX6_whole_311 (fun x46 hf => ?_)
                    refine v_istore hC [(13, .int x46), (0, .ref a0), (1, .int i1), (2, .int i2), (3, .int i3), (4, .int i4), (5, .int x11), (6, .int x13), (7, .long l18), (12, .int y41)] dX6_whole_314 hN (Nat.le_of_ble_eq_true rfl) rfl ?_
                    refine v_aload_n hC 1 dX6_whole_316 rfl ?_
                    refine v_getR hC (host := "") hf fd_6_5 w_663 dX6_whole_317 (fun r47 hf => ?_)
                    refine v_iconst (v := 2) hC dX6_whole_320 (by decide) ?_
                    refine v_ldI hC hf dX6_whole_321 (fun x48 hf => ?_)
                    refine v_at 322 rfl ?_
                    refine v_jnE hf (fun z49 kr sr => V K (kr + 0) (sr + 0) σ42 339 [(0, .ref a0), (1, .int i1), (2, .int i2), (3, .int i3), (4, .int i4), (5, .int x11), (6, .int x13), (7, .long l18), (12, .int y41)] [.int z49]) (fun z49 _ _ hf => ?_) (fun k49 hk49 hf => ?_)
                    · refine v_istore hC [(13, .int z49), (0, .ref a0), (1, .int i1), (2, .int i2), (3, .int i3), (4, .int i4), (5, .int x11), (6, .int x13), (7, .long l18), (12, .int y41)] dX6_whole_339 hN (Nat.le_of_ble_eq_true rfl) rfl ?_
                      refine v_aload_n hC 1 dX6_whole_341 rfl ?_
                      refine v_iconst (v := 2) hC dX6_whole_342 (by decide) ?_
                      refine v_iload hC 0 dX6_whole_343 rfl ?_
                      refine v_i2l hC dX6_whole_345 ?_
                      refine v_cVE hC (y := y_X6_lower) (ci := 6) [.int 2, .long ((z49 : Int32).toInt64)] [] (fun _ => none) (fun _ => []) hf (fun _ _ _ _ h => m_X6_lower h) rfl (fun _ => rfl) rfl rfl hR (Nat.le_of_ble_eq_true rfl) (Nat.le_of_ble_eq_true rfl) w_808 w_805 w_807 w_43 w_64 nm_X6_lower rfl (Nat.le_of_ble_eq_true rfl) dX6_whole_346 (fun _ σ50 _ _ hf => ?_)
                      refine v_iload hC 9 dX6_whole_349 rfl ?_
                      refine v_iload hC 0 dX6_whole_351 rfl ?_
                      refine v_at 353 rfl ?_
                      refine v_isub hC dX6_whole_353 ?_
                      refine v_ltI hf (fun x51 hf => ?_)
                      refine v_istore hC [(11, .int x51), (13, .int z49), (0, .ref a0), (1, .int i1), (2, .int i2), (3, .int i3), (4, .int i4), (5, .int x11), (6, .int x13), (7, .long l18), (12, .int y41)] dX6_whole_354 hN (Nat.le_of_ble_eq_true rfl) rfl ?_
                      refine v_lload hC 9 dX6_whole_356 rfl ?_
                      refine v_iload hC 0 dX6_whole_358 rfl ?_
                      refine v_i2l hC dX6_whole_360 ?_
                      refine v_ladd hC dX6_whole_361 ?_
                      refine v_ltL hf (fun l52 hf => ?_)
                      refine v_lstore hC [(9, .long l52), (11, .int x51), (13, .int z49), (0, .ref a0), (1, .int i1), (2, .int i2), (3, .int i3), (4, .int i4), (5, .int x11), (6, .int x13), (7, .long l18), (12, .int y41)] dX6_whole_362 hN (Nat.le_of_ble_eq_true rfl) rfl ?_
                      refine v_at 364 rfl ?_
                      exact v_sub [(0, .ref a0), (1, .int i1), (2, .int i2), (3, .int i3), (4, .int i4), (5, .int x11), (6, .int x13), (9, .long l52), (11, .int x51)] [3, 4, 5, 6, 7, 8, 9, 0, 1] rfl (hk21 _ _ _ hf)
                    · refine v_jnE hf (fun z53 kr sr => V K (kr + 0) (sr + 0) σ42 332 [(0, .ref a0), (1, .int i1), (2, .int i2), (3, .int i3), (4, .int i4), (5, .int x11), (6, .int x13), (7, .long l18), (12, .int y41)] []) (fun z53 _ _ hf => ?_) (fun k53 hk53 hf => ?_)
                      · refine v_iload hC 8 dX6_whole_332 rfl ?_
                        refine v_goto (tgt := 339) hC dX6_whole_334 (by decide) ?_
                        exact v_sub [(0, .ref a0), (1, .int i1), (2, .int i2), (3, .int i3), (4, .int i4), (5, .int x11), (6, .int x13), (7, .long l18), (12, .int y41)] [0, 1, 2, 3, 4, 5, 6, 7, 8] rfl (hk49 _ _ _ hf)
                      · refine v_if_eq hC hf dX6_whole_322 (tgt := 332) (by decide) (fun hf => ?_) (fun hf => ?_)
                        · exact v_sub [(0, .ref a0), (1, .int i1), (2, .int i2), (3, .int i3), (4, .int i4), (5, .int x11), (6, .int x13), (7, .long l18), (12, .int y41)] [1, 2, 3, 4, 5, 6, 7, 8, 9] rfl (hk53 _ _ _ hf)
                        · refine v_at 325 rfl ?_
                          refine v_iload hC 0 dX6_whole_325 rfl ?_
                          refine v_iload hC 9 dX6_whole_327 rfl ?_
                          refine v_icmp_le hC hf dX6_whole_329 (tgt := 337) (by decide) (fun hf => ?_) (fun hf => ?_)
                          · refine v_iload hC 0 dX6_whole_337 rfl ?_
                            refine v_at 339 rfl ?_
                            exact v_sub [(0, .ref a0), (1, .int i1), (2, .int i2), (3, .int i3), (4, .int i4), (5, .int x11), (6, .int x13), (7, .long l18), (12, .int y41)] [1, 2, 3, 4, 5, 6, 7, 8, 9] rfl (hk49 _ _ _ hf)
                          · refine v_at 332 rfl ?_
                            exact v_sub [(0, .ref a0), (1, .int i1), (2, .int i2), (3, .int i3), (4, .int i4), (5, .int x11), (6, .int x13), (7, .long l18), (12, .int y41)] [1, 2, 3, 4, 5, 6, 7, 8, 9] rfl (hk53 _ _ _ hf)
                  · refine v_if_le hC hf dX6_whole_294 (tgt := 309) (by decide) (fun hf => ?_) (fun hf => ?_)
                    · exact v_sub [(0, .ref a0), (1, .int i1), (2, .int i2), (3, .int i3), (4, .int i4), (5, .int x11), (6, .int x13), (7, .long l18), (12, .int y41)] [0, 1, 2, 3, 4, 5, 6, 7, 8] rfl (hk45 _ _ _ hf)
                    · refine v_at 297 rfl ?_
                      refine v_iload hC 8 dX6_whole_297 rfl ?_
                      refine v_i2l hC dX6_whole_299 ?_
                      refine v_lload hC 7 dX6_whole_300 rfl ?_
                      refine v_lneg hC dX6_whole_302 ?_
                      refine v_lcmp_ge hC hf dX6_whole_303 dX6_whole_304 (tgt := 309) (by decide) (fun hf => ?_) (fun hf => ?_)
                      · exact v_sub [(0, .ref a0), (1, .int i1), (2, .int i2), (3, .int i3), (4, .int i4), (5, .int x11), (6, .int x13), (7, .long l18), (12, .int y41)] [0, 1, 2, 3, 4, 5, 6, 7, 8] rfl (hk45 _ _ _ hf)
                      · refine v_at 307 rfl ?_
                        refine v_iconst (v := 0) hC dX6_whole_307 (by decide) ?_
                        exact v_retZ hC hf hE dX6_whole_308
                · refine v_at 115 rfl ?_
                  refine v_aload_n hC 5 dX6_whole_115 rfl ?_
                  refine v_getR hC (host := "") hf fd_6_1 w_659 dX6_whole_116 (fun r54 hf => ?_)
                  refine v_iload_n hC 8 dX6_whole_119 rfl ?_
                  refine v_ldI hC hf dX6_whole_120 (fun x55 hf => ?_)
                  refine v_i2l hC dX6_whole_121 ?_
                  refine v_aload_n hC 5 dX6_whole_122 rfl ?_
                  refine v_getR hC (host := "") hf fd_6_1 w_659 dX6_whole_123 (fun r56 hf => ?_)
                  refine v_iload hC 9 dX6_whole_126 rfl ?_
                  refine v_at 128 rfl ?_
                  refine v_ldI hC hf dX6_whole_128 (fun x57 hf => ?_)
                  refine v_i2l hC dX6_whole_129 ?_
                  refine v_lload hC 2 dX6_whole_130 rfl ?_
                  refine v_ladd hC dX6_whole_132 ?_
                  refine v_lcmp_ge hC hf dX6_whole_133 dX6_whole_134 (tgt := 147) (by decide) (fun hf => ?_) (fun hf => ?_)
                  · refine v_aload_n hC 5 dX6_whole_147 rfl ?_
                    refine v_iconst (v := 1) hC dX6_whole_148 (by decide) ?_
                    refine v_lload hC 2 dX6_whole_149 rfl ?_
                    refine v_l2i hC dX6_whole_151 ?_
                    refine v_cVE hC (y := y_X6_raise) (ci := 6) [.int 1, .int ((l18 : Int64).toInt32)] [] (fun _ => none) (fun _ => []) hf (fun _ _ _ _ h => m_X6_raise h) rfl (fun _ => rfl) rfl rfl hR (Nat.le_of_ble_eq_true rfl) (Nat.le_of_ble_eq_true rfl) w_726 w_723 w_725 w_30 w_64 nm_X6_raise rfl (Nat.le_of_ble_eq_true rfl) dX6_whole_152 (fun _ σ58 _ _ hf => ?_)
                    refine v_aload_n hC 5 dX6_whole_155 rfl ?_
                    refine v_cVE hC (y := y_X6_quotient) (ci := 6) [] [] (fun _ => none) (fun _ => []) hf (fun _ _ _ _ h => m_X6_quotient h) rfl (fun _ => rfl) rfl rfl hR (Nat.le_of_ble_eq_true rfl) (Nat.le_of_ble_eq_true rfl) w_772 w_769 w_771 w_36 w_64 nm_X6_quotient rfl (Nat.le_of_ble_eq_true rfl) dX6_whole_156 (fun _ σ59 _ _ hf => ?_)
                    refine v_aload_n hC 5 dX6_whole_159 rfl ?_
                    refine v_at 160 rfl ?_
                    refine v_iconst (v := 1) hC dX6_whole_160 (by decide) ?_
                    refine v_iload hC 9 dX6_whole_161 rfl ?_
                    refine v_cVE hC (y := y_X6_load) (ci := 6) [.int 1, .int i4] [] (fun _ => none) (fun _ => []) hf (fun _ _ _ _ h => m_X6_load h) rfl (fun _ => rfl) rfl rfl hR (Nat.le_of_ble_eq_true rfl) (Nat.le_of_ble_eq_true rfl) w_713 w_710 w_712 w_28 w_64 nm_X6_load rfl (Nat.le_of_ble_eq_true rfl) dX6_whole_163 (fun _ σ60 _ _ hf => ?_)
                    refine v_aload_n hC 5 dX6_whole_166 rfl ?_
                    refine v_getR hC (host := "") hf fd_6_5 w_663 dX6_whole_167 (fun r61 hf => ?_)
                    refine v_iconst (v := 2) hC dX6_whole_170 (by decide) ?_
                    refine v_ldI hC hf dX6_whole_171 (fun x62 hf => ?_)
                    refine v_i2l hC dX6_whole_172 ?_
                    refine v_at 173 rfl ?_
                    refine v_lload hC 2 dX6_whole_173 rfl ?_
                    refine v_ladd hC dX6_whole_175 ?_
                    refine v_ldc2 hC dX6_whole_176 w_767 ?_
                    refine v_lcmp_le hC hf dX6_whole_179 dX6_whole_180 (tgt := 185) (by decide) (fun hf => ?_) (fun hf => ?_)
                    · refine v_aload_n hC 5 dX6_whole_185 rfl ?_
                      refine v_iconst (v := 2) hC dX6_whole_186 (by decide) ?_
                      refine v_lload hC 2 dX6_whole_187 rfl ?_
                      refine v_l2i hC dX6_whole_189 ?_
                      refine v_cVE hC (y := y_X6_raise) (ci := 6) [.int 2, .int ((l18 : Int64).toInt32)] [] (fun _ => none) (fun _ => []) hf (fun _ _ _ _ h => m_X6_raise h) rfl (fun _ => rfl) rfl rfl hR (Nat.le_of_ble_eq_true rfl) (Nat.le_of_ble_eq_true rfl) w_726 w_723 w_725 w_30 w_64 nm_X6_raise rfl (Nat.le_of_ble_eq_true rfl) dX6_whole_190 (fun _ σ63 _ _ hf => ?_)
                      refine v_goto (tgt := 364) hC dX6_whole_193 (by decide) ?_
                      exact v_sub [(0, .ref a0), (1, .int i1), (2, .int i2), (3, .int i3), (4, .int i4), (5, .int x11), (6, .int x13), (9, .long l18), (11, .int 0)] [5, 6, 7, 8, 9, 4, 3, 1, 0] rfl (hk21 _ _ _ hf)
                    · refine v_at 183 rfl ?_
                      refine v_iconst (v := 0) hC dX6_whole_183 (by decide) ?_
                      exact v_retZ hC hf hE dX6_whole_184
                  · refine v_at 137 rfl ?_
                    refine v_aload_n hC 5 dX6_whole_137 rfl ?_
                    refine v_getR hC (host := "") hf fd_6_5 w_663 dX6_whole_138 (fun r64 hf => ?_)
                    refine v_iconst (v := 2) hC dX6_whole_141 (by decide) ?_
                    refine v_iconst (v := 0) hC dX6_whole_142 (by decide) ?_
                    refine v_stI hC hf dX6_whole_143 (fun σ65 hf => ?_)
                    refine v_goto (tgt := 364) hC dX6_whole_144 (by decide) ?_
                    exact v_sub [(0, .ref a0), (1, .int i1), (2, .int i2), (3, .int i3), (4, .int i4), (5, .int x11), (6, .int x13), (9, .long l18), (11, .int 0)] [5, 6, 7, 8, 9, 4, 3, 1, 0] rfl (hk21 _ _ _ hf)
            · refine v_at 44 rfl ?_
              refine v_iconst (v := 0) hC dX6_whole_44 (by decide) ?_
              exact v_retZ hC hf hE dX6_whole_45
