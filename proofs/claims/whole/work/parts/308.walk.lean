def E_X6_less_L5 (K : Cq) (a0 : Nat) (i1 : Int32) (y : Unit) (σ : St) (kr sr : Nat) : Prop := V K kr sr σ 107 [(0, .ref a0), (1, .int i1)] []
set_option maxHeartbeats 4000000 in
set_option maxRecDepth 100000 in
theorem v_X6_less_L5 {K : Cq} {k0 s0 : Nat} (hC : Cx K prog_8_method_13_code "TensMillModel") (hR : kR K = rmF 1 23 k0 s0) (hN : kn K = 6) {ko so : Nat} : ∀ (n : Nat) (σ : St) (a0 : Nat) (i1 : Int32) (i2 : Int32) (i3 : Int32) (i4 : Int32) (y : Unit) (σf : St) (kr sr : Nat), f_X6_less_L5 n σ a0 i1 i2 i3 i4 = some (y, σf, kr, sr) → E_X6_less_L5 K a0 i1 y σf ko so → V K (kr + ko) (sr + so) σ 5 [(0, .ref a0), (1, .int i1), (2, .int i2), (3, .int i3), (4, .int i4)] [] := by
  intro n
  induction n with
  | zero =>
    intro σ a0 i1 i2 i3 i4 y σf kr sr hf hE
    cases hf
  | succ n ih =>
    intro σ a0 i1 i2 i3 i4 y σf kr sr hf hE
    replace hf : b_X6_less_L5 (f_X6_less_L5 n) σ a0 i1 i2 i3 i4 = some (y, σf, kr, sr) := hf
    unfold b_X6_less_L5 at hf
    refine v_iload hC 4 dX6_less_5 rfl ?_
    refine v_aload_n hC 0 dX6_less_7 rfl ?_
    refine v_getR hC (host := "") hf fd_6_5 w_663 dX6_less_8 (fun r1 hf => ?_)
    refine v_iload_n hC 1 dX6_less_11 rfl ?_
    refine v_ldI hC hf dX6_less_12 (fun x2 hf => ?_)
    refine v_icmp_ge hC hf dX6_less_13 (tgt := 107) (by decide) (fun hf => ?_) (fun hf => ?_)
    · obtain ⟨hX, e1, e2⟩ := v_exE (E := E_X6_less_L5 K a0 i1) hf hE
      rw [e1, e2]
      exact v_sub [(0, .ref a0), (1, .int i1)] [0, 1] rfl hX
    · refine v_at 16 rfl ?_
      refine v_aload_n hC 0 dX6_less_16 rfl ?_
      refine v_getR hC (host := "") hf fd_6_4 w_662 dX6_less_17 (fun r3 hf => ?_)
      refine v_sipush (v := 17000) hC dX6_less_20 (by decide) ?_
      refine v_iload_n hC 1 dX6_less_23 rfl ?_
      refine v_imul hC dX6_less_24 ?_
      refine v_iload hC 4 dX6_less_25 rfl ?_
      refine v_iadd hC dX6_less_27 ?_
      refine v_ldI hC hf dX6_less_28 (fun x4 hf => ?_)
      refine v_at 29 rfl ?_
      refine v_iload hC 4 dX6_less_29 rfl ?_
      refine v_aload_n hC 0 dX6_less_31 rfl ?_
      refine v_getR hC (host := "") hf fd_6_5 w_663 dX6_less_32 (fun r5 hf => ?_)
      refine v_iload_n hC 2 dX6_less_35 rfl ?_
      refine v_ldI hC hf dX6_less_36 (fun x6 hf => ?_)
      refine v_jnE hf (fun z7 kr sr => V K (kr + ko) (sr + so) σ 57 [(0, .ref a0), (1, .int i1), (2, .int i2), (3, .int i3), (4, .int i4)] [.int z7, .int x4]) (fun z7 _ _ hf => ?_) (fun k7 hk7 hf => ?_)
      · refine v_isub hC dX6_less_57 ?_
        refine v_iload_n hC 3 dX6_less_58 rfl ?_
        refine v_isub hC dX6_less_59 ?_
        refine v_ltI hf (fun x8 hf => ?_)
        refine v_istore hC [(5, .int x8), (0, .ref a0), (1, .int i1), (2, .int i2), (3, .int i3), (4, .int i4)] dX6_less_60 hN (Nat.le_of_ble_eq_true rfl) rfl ?_
        refine v_iload hC 0 dX6_less_62 rfl ?_
        refine v_jnE hf (fun z9 kr sr => V K (kr + ko) (sr + so) σ 72 [(0, .ref a0), (1, .int i1), (2, .int i2), (4, .int i4), (5, .int x8)] [.int z9]) (fun z9 _ _ hf => ?_) (fun k9 hk9 hf => ?_)
        · refine v_istore_n hC [(3, .int z9), (0, .ref a0), (1, .int i1), (2, .int i2), (4, .int i4), (5, .int x8)] dX6_less_72 rfl hN (Nat.le_of_ble_eq_true rfl) rfl ?_
          refine v_aload_n hC 1 dX6_less_73 rfl ?_
          refine v_getR hC (host := "") hf fd_6_4 w_662 dX6_less_74 (fun r10 hf => ?_)
          refine v_sipush (v := 17000) hC dX6_less_77 (by decide) ?_
          refine v_iload_n hC 2 dX6_less_80 rfl ?_
          refine v_imul hC dX6_less_81 ?_
          refine v_iload hC 4 dX6_less_82 rfl ?_
          refine v_iadd hC dX6_less_84 ?_
          refine v_at 85 rfl ?_
          refine v_iload hC 5 dX6_less_85 rfl ?_
          refine v_jnE hf (fun z11 kr sr => V K (kr + ko) (sr + so) σ 100 [(0, .ref a0), (1, .int i1), (2, .int i2), (3, .int z9), (4, .int i4)] [.int z11, .int ((17000 * i1) + i4), .ref r10]) (fun z11 _ _ hf => ?_) (fun k11 hk11 hf => ?_)
          · refine v_stI hC hf dX6_less_100 (fun σ12 hf => ?_)
            refine v_incL hC hf 4 (fun x13 => [(4, .int x13), (0, .ref a0), (1, .int i1), (2, .int i2), (3, .int z9)]) dX6_less_101 rfl (by decide) hN (Nat.le_of_ble_eq_true rfl) (fun _ => rfl) (fun x13 hf => ?_)
            refine v_goto (tgt := 5) hC dX6_less_104 (by decide) ?_
            exact v_sub [(0, .ref a0), (1, .int i1), (2, .int i2), (3, .int z9), (4, .int x13)] [1, 2, 3, 4, 0] rfl (ih _ _ _ _ _ _ _ _ _ _ hf hE)
          · refine v_if_ge hC hf dX6_less_87 (tgt := 98) (by decide) (fun hf => ?_) (fun hf => ?_)
            · refine v_iload hC 5 dX6_less_98 rfl ?_
              refine v_at 100 rfl ?_
              exact v_sub [(0, .ref a0), (1, .int i1), (2, .int i2), (3, .int z9), (4, .int i4)] [1, 2, 3, 0, 4] rfl (hk11 _ _ _ hf)
            · refine v_at 90 rfl ?_
              refine v_iload hC 5 dX6_less_90 rfl ?_
              refine v_bipush (v := 10) hC dX6_less_92 (by decide) ?_
              refine v_iadd hC dX6_less_94 ?_
              refine v_goto (tgt := 100) hC dX6_less_95 (by decide) ?_
              exact v_sub [(0, .ref a0), (1, .int i1), (2, .int i2), (3, .int z9), (4, .int i4)] [1, 2, 3, 0, 4] rfl (hk11 _ _ _ hf)
        · refine v_if_ge hC hf dX6_less_64 (tgt := 71) (by decide) (fun hf => ?_) (fun hf => ?_)
          · refine v_iconst (v := 0) hC dX6_less_71 (by decide) ?_
            refine v_at 72 rfl ?_
            exact v_sub [(0, .ref a0), (1, .int i1), (2, .int i2), (4, .int i4), (5, .int x8)] [1, 2, 3, 5, 0] rfl (hk9 _ _ _ hf)
          · refine v_at 67 rfl ?_
            refine v_iconst (v := 1) hC dX6_less_67 (by decide) ?_
            refine v_goto (tgt := 72) hC dX6_less_68 (by decide) ?_
            exact v_sub [(0, .ref a0), (1, .int i1), (2, .int i2), (4, .int i4), (5, .int x8)] [1, 2, 3, 5, 0] rfl (hk9 _ _ _ hf)
      · refine v_icmp_ge hC hf dX6_less_37 (tgt := 56) (by decide) (fun hf => ?_) (fun hf => ?_)
        · refine v_iconst (v := 0) hC dX6_less_56 (by decide) ?_
          refine v_at 57 rfl ?_
          exact v_sub [(0, .ref a0), (1, .int i1), (2, .int i2), (3, .int i3), (4, .int i4)] [0, 1, 2, 3, 4] rfl (hk7 _ _ _ hf)
        · refine v_at 40 rfl ?_
          refine v_aload_n hC 0 dX6_less_40 rfl ?_
          refine v_getR hC (host := "") hf fd_6_4 w_662 dX6_less_41 (fun r14 hf => ?_)
          refine v_sipush (v := 17000) hC dX6_less_44 (by decide) ?_
          refine v_iload_n hC 2 dX6_less_47 rfl ?_
          refine v_imul hC dX6_less_48 ?_
          refine v_iload hC 4 dX6_less_49 rfl ?_
          refine v_iadd hC dX6_less_51 ?_
          refine v_ldI hC hf dX6_less_52 (fun x15 hf => ?_)
          refine v_at 53 rfl ?_
          refine v_goto (tgt := 57) hC dX6_less_53 (by decide) ?_
          exact v_sub [(0, .ref a0), (1, .int i1), (2, .int i2), (3, .int i3), (4, .int i4)] [0, 1, 2, 3, 4] rfl (hk7 _ _ _ hf)
set_option maxHeartbeats 4000000 in
set_option maxRecDepth 100000 in
theorem m_X6_less {G : Gm} {l : Launch} {σ : St} {a0 : Nat} {i1 : Int32} {i2 : Int32} {r : Unit} {σf : St} {k s : Nat} (hf : f_X6_less σ a0 i1 i2 = some (r, σf, k, s)) : (∃ fs : List Value, σ.1 a0 = some (.inr (.inl (6, fs)))) ∧ Ct G l y_X6_less prog_8_method_13_code 6 none 1 23 [.ref a0, .int i1, .int i2] σ none σf k s := by
  unfold f_X6_less at hf
  obtain ⟨hob, hf⟩ := ob_some hf
  refine ⟨hob, Ct.ofV pl_X6_less (Nat.le_of_ble_eq_true rfl) ?_⟩
  intro K hR hN hnm hC hE
  show V K (k + 0) (s + 0) σ 0 [(0, .ref a0), (1, .int i1), (2, .int i2)] []
  refine v_iconst (v := 0) hC dX6_less_0 (by decide) ?_
  refine v_istore_n hC [(3, .int 0), (0, .ref a0), (1, .int i1), (2, .int i2)] dX6_less_1 rfl hN (Nat.le_of_ble_eq_true rfl) rfl ?_
  refine v_iconst (v := 0) hC dX6_less_2 (by decide) ?_
  refine v_istore hC [(4, .int 0), (3, .int 0), (0, .ref a0), (1, .int i1), (2, .int i2)] dX6_less_3 hN (Nat.le_of_ble_eq_true rfl) rfl ?_
  refine v_at 5 rfl ?_
  refine v_sub [(0, .ref a0), (1, .int i1), (2, .int i2), (3, .int 0), (4, .int 0)] [2, 3, 4, 1, 0] rfl ?_
  refine v_lpE hf (E_X6_less_L5 K a0 i1) (fun _ _ _ _ _ _ h hE => v_X6_less_L5 hC hR hN _ _ _ _ _ _ _ _ _ _ _ h hE) (fun y16 σ17 _ _ hf => ?_)
  show V K _ _ σ17 107 [(0, .ref a0), (1, .int i1)] []
  refine v_aload_n hC 0 dX6_less_107 rfl ?_
  refine v_iload_n hC 1 dX6_less_108 rfl ?_
  refine v_aload_n hC 0 dX6_less_109 rfl ?_
  refine v_getR hC (host := "") hf fd_6_5 w_663 dX6_less_110 (fun r18 hf => ?_)
  refine v_iload_n hC 1 dX6_less_113 rfl ?_
  refine v_ldI hC hf dX6_less_114 (fun x19 hf => ?_)
  refine v_cVE hC (y := y_X6_trim) (ci := 6) [.int i1, .int x19] [] (fun _ => none) (fun _ => []) hf (fun _ _ _ _ h => m_X6_trim h) rfl (fun _ => rfl) rfl rfl hR (Nat.le_of_ble_eq_true rfl) (Nat.le_of_ble_eq_true rfl) w_734 w_731 w_733 w_32 w_64 nm_X6_trim rfl (Nat.le_of_ble_eq_true rfl) dX6_less_115 (fun _ σ20 _ _ hf => ?_)
  exact v_retV hC hf hE dX6_less_118
def E_X6_one_L2 (K : Cq) (a0 : Nat) (i1 : Int32) (y : Int32) (σ : St) (kr sr : Nat) : Prop := V K kr sr σ 48 [(0, .ref a0), (1, .int i1), (2, .int y)] []
set_option maxHeartbeats 4000000 in
set_option maxRecDepth 100000 in
theorem v_X6_one_L2 {K : Cq} {k0 s0 : Nat} (hC : Cx K prog_8_method_14_code "TensMillModel") (hR : kR K = rmF 0 0 k0 s0) (hN : kn K = 3) {ko so : Nat} : ∀ (n : Nat) (σ : St) (a0 : Nat) (i1 : Int32) (i2 : Int32) (y : Int32) (σf : St) (kr sr : Nat), f_X6_one_L2 n σ a0 i1 i2 = some (y, σf, kr, sr) → E_X6_one_L2 K a0 i1 y σf ko so → V K (kr + ko) (sr + so) σ 2 [(0, .ref a0), (1, .int i1), (2, .int i2)] [] := by
  intro n
  induction n with
  | zero =>
    intro σ a0 i1 i2 y σf kr sr hf hE
    cases hf
  | succ n ih =>
    intro σ a0 i1 i2 y σf kr sr hf hE
    replace hf : b_X6_one_L2 (f_X6_one_L2 n) σ a0 i1 i2 = some (y, σf, kr, sr) := hf
    unfold b_X6_one_L2 at hf
    refine v_iload_n hC 2 dX6_one_2 rfl ?_
    refine v_aload_n hC 0 dX6_one_3 rfl ?_
    refine v_getR hC (host := "") hf fd_6_5 w_663 dX6_one_4 (fun r1 hf => ?_)
    refine v_iload_n hC 1 dX6_one_7 rfl ?_
    refine v_ldI hC hf dX6_one_8 (fun x2 hf => ?_)
    refine v_icmp_ge hC hf dX6_one_9 (tgt := 48) (by decide) (fun hf => ?_) (fun hf => ?_)
    · obtain ⟨hX, e1, e2⟩ := v_exE (E := E_X6_one_L2 K a0 i1) hf hE
      rw [e1, e2]
      exact v_sub [(0, .ref a0), (1, .int i1), (2, .int i2)] [0, 1, 2] rfl hX
    · refine v_at 12 rfl ?_
      refine v_aload_n hC 0 dX6_one_12 rfl ?_
      refine v_getR hC (host := "") hf fd_6_4 w_662 dX6_one_13 (fun r3 hf => ?_)
      refine v_sipush (v := 17000) hC dX6_one_16 (by decide) ?_
      refine v_iload_n hC 1 dX6_one_19 rfl ?_
      refine v_imul hC dX6_one_20 ?_
      refine v_iload_n hC 2 dX6_one_21 rfl ?_
      refine v_iadd hC dX6_one_22 ?_
      refine v_ldI hC hf dX6_one_23 (fun x4 hf => ?_)
      refine v_at 24 rfl ?_
      refine v_bipush (v := 9) hC dX6_one_24 (by decide) ?_
      refine v_icmp_ne hC hf dX6_one_26 (tgt := 48) (by decide) (fun hf => ?_) (fun hf => ?_)
      · obtain ⟨hX, e1, e2⟩ := v_exE (E := E_X6_one_L2 K a0 i1) hf hE
        rw [e1, e2]
        exact v_sub [(0, .ref a0), (1, .int i1), (2, .int i2)] [0, 1, 2] rfl hX
      · refine v_at 29 rfl ?_
        refine v_aload_n hC 0 dX6_one_29 rfl ?_
        refine v_getR hC (host := "") hf fd_6_4 w_662 dX6_one_30 (fun r5 hf => ?_)
        refine v_sipush (v := 17000) hC dX6_one_33 (by decide) ?_
        refine v_iload_n hC 1 dX6_one_36 rfl ?_
        refine v_imul hC dX6_one_37 ?_
        refine v_iload_n hC 2 dX6_one_38 rfl ?_
        refine v_iadd hC dX6_one_39 ?_
        refine v_iconst (v := 0) hC dX6_one_40 (by decide) ?_
        refine v_at 41 rfl ?_
        refine v_stI hC hf dX6_one_41 (fun σ6 hf => ?_)
        refine v_incL hC hf 2 (fun x7 => [(2, .int x7), (0, .ref a0), (1, .int i1)]) dX6_one_42 rfl (by decide) hN (Nat.le_of_ble_eq_true rfl) (fun _ => rfl) (fun x7 hf => ?_)
        refine v_goto (tgt := 2) hC dX6_one_45 (by decide) ?_
        exact v_sub [(0, .ref a0), (1, .int i1), (2, .int x7)] [1, 2, 0] rfl (ih _ _ _ _ _ _ _ _ hf hE)
set_option maxHeartbeats 4000000 in
set_option maxRecDepth 100000 in
theorem m_X6_one {G : Gm} {l : Launch} {σ : St} {a0 : Nat} {i1 : Int32} {r : Unit} {σf : St} {k s : Nat} (hf : f_X6_one σ a0 i1 = some (r, σf, k, s)) : (∃ fs : List Value, σ.1 a0 = some (.inr (.inl (6, fs)))) ∧ Ct G l y_X6_one prog_8_method_14_code 3 none 0 0 [.ref a0, .int i1] σ none σf k s := by
  unfold f_X6_one at hf
  obtain ⟨hob, hf⟩ := ob_some hf
  refine ⟨hob, Ct.ofV pl_X6_one (Nat.le_of_ble_eq_true rfl) ?_⟩
  intro K hR hN hnm hC hE
  show V K (k + 0) (s + 0) σ 0 [(0, .ref a0), (1, .int i1)] []
  refine v_iconst (v := 0) hC dX6_one_0 (by decide) ?_
  refine v_istore_n hC [(2, .int 0), (0, .ref a0), (1, .int i1)] dX6_one_1 rfl hN (Nat.le_of_ble_eq_true rfl) rfl ?_
  refine v_at 2 rfl ?_
  refine v_sub [(0, .ref a0), (1, .int i1), (2, .int 0)] [1, 2, 0] rfl ?_
  refine v_lpE hf (E_X6_one_L2 K a0 i1) (fun _ _ _ _ _ _ h hE => v_X6_one_L2 hC hR hN _ _ _ _ _ _ _ _ _ h hE) (fun y8 σ9 _ _ hf => ?_)
  show V K _ _ σ9 48 [(0, .ref a0), (1, .int i1), (2, .int y8)] []
  refine v_aload_n hC 0 dX6_one_48 rfl ?_
  refine v_getR hC (host := "") hf fd_6_4 w_662 dX6_one_49 (fun r10 hf => ?_)
  refine v_sipush (v := 17000) hC dX6_one_52 (by decide) ?_
  refine v_iload_n hC 1 dX6_one_55 rfl ?_
  refine v_imul hC dX6_one_56 ?_
  refine v_iload_n hC 2 dX6_one_57 rfl ?_
  refine v_iadd hC dX6_one_58 ?_
  refine v_iload_n hC 2 dX6_one_59 rfl ?_
  refine v_at 60 rfl ?_
  refine v_aload_n hC 0 dX6_one_60 rfl ?_
  refine v_getR hC (host := "") hf fd_6_5 w_663 dX6_one_61 (fun r11 hf => ?_)
  refine v_iload_n hC 1 dX6_one_64 rfl ?_
  refine v_ldI hC hf dX6_one_65 (fun x12 hf => ?_)
  refine v_jnE hf (fun z13 kr sr => V K (kr + 0) (sr + 0) σ9 87 [(0, .ref a0), (1, .int i1), (2, .int y8)] [.int z13, .int ((17000 * i1) + y8), .ref r10]) (fun z13 _ _ hf => ?_) (fun k13 hk13 hf => ?_)
  · refine v_stI hC hf dX6_one_87 (fun σ14 hf => ?_)
    refine v_aload_n hC 0 dX6_one_88 rfl ?_
    refine v_getR hC (host := "") hf fd_6_5 w_663 dX6_one_89 (fun r15 hf => ?_)
    refine v_iload_n hC 1 dX6_one_92 rfl ?_
    refine v_iload_n hC 2 dX6_one_93 rfl ?_
    refine v_aload_n hC 0 dX6_one_94 rfl ?_
    refine v_getR hC (host := "") hf fd_6_5 w_663 dX6_one_95 (fun r16 hf => ?_)
    refine v_iload_n hC 1 dX6_one_98 rfl ?_
    refine v_at 99 rfl ?_
    refine v_ldI hC hf dX6_one_99 (fun x17 hf => ?_)
    refine v_jnE hf (fun z18 kr sr => V K (kr + 0) (sr + 0) σ14 120 [] [.int z18, .int i1, .ref r15]) (fun z18 _ _ hf => ?_) (fun k18 hk18 hf => ?_)
    · refine v_stI hC hf dX6_one_120 (fun σ19 hf => ?_)
      exact v_retV hC hf hE dX6_one_121
    · refine v_icmp_ge hC hf dX6_one_100 (tgt := 112) (by decide) (fun hf => ?_) (fun hf => ?_)
      · refine v_aload_n hC 0 dX6_one_112 rfl ?_
        refine v_getR hC (host := "") hf fd_6_5 w_663 dX6_one_113 (fun r20 hf => ?_)
        refine v_iload_n hC 1 dX6_one_116 rfl ?_
        refine v_ldI hC hf dX6_one_117 (fun x21 hf => ?_)
        refine v_iconst (v := 1) hC dX6_one_118 (by decide) ?_
        refine v_iadd hC dX6_one_119 ?_
        refine v_at 120 rfl ?_
        exact v_sub [] [] rfl (hk18 _ _ _ hf)
      · refine v_at 103 rfl ?_
        refine v_aload_n hC 0 dX6_one_103 rfl ?_
        refine v_getR hC (host := "") hf fd_6_5 w_663 dX6_one_104 (fun r22 hf => ?_)
        refine v_iload_n hC 1 dX6_one_107 rfl ?_
        refine v_ldI hC hf dX6_one_108 (fun x23 hf => ?_)
        refine v_goto (tgt := 120) hC dX6_one_109 (by decide) ?_
        exact v_sub [] [] rfl (hk18 _ _ _ hf)
  · refine v_icmp_ge hC hf dX6_one_66 (tgt := 86) (by decide) (fun hf => ?_) (fun hf => ?_)
    · refine v_iconst (v := 1) hC dX6_one_86 (by decide) ?_
      refine v_at 87 rfl ?_
      exact v_sub [(0, .ref a0), (1, .int i1), (2, .int y8)] [0, 1, 2] rfl (hk13 _ _ _ hf)
    · refine v_at 69 rfl ?_
      refine v_aload_n hC 0 dX6_one_69 rfl ?_
      refine v_getR hC (host := "") hf fd_6_4 w_662 dX6_one_70 (fun r24 hf => ?_)
      refine v_sipush (v := 17000) hC dX6_one_73 (by decide) ?_
      refine v_iload_n hC 1 dX6_one_76 rfl ?_
      refine v_imul hC dX6_one_77 ?_
      refine v_iload_n hC 2 dX6_one_78 rfl ?_
      refine v_iadd hC dX6_one_79 ?_
      refine v_ldI hC hf dX6_one_80 (fun x25 hf => ?_)
      refine v_at 81 rfl ?_
      refine v_iconst (v := 1) hC dX6_one_81 (by decide) ?_
      refine v_iadd hC dX6_one_82 ?_
      refine v_goto (tgt := 87) hC dX6_one_83 (by decide) ?_
      exact v_sub [(0, .ref a0), (1, .int i1), (2, .int y8)] [0, 1, 2] rfl (hk13 _ _ _ hf)
def E_X6_product_L16 (K : Cq) (a0 : Nat) (i1 : Int32) (y : Unit) (σ : St) (kr sr : Nat) : Prop := V K kr sr σ 37 [(0, .ref a0), (1, .int i1)] []
set_option maxHeartbeats 4000000 in
set_option maxRecDepth 100000 in
theorem v_X6_product_L16 {K : Cq} {k0 s0 : Nat} (hC : Cx K prog_8_method_15_code "TensMillModel") (hR : kR K = rmF 1 23 k0 s0) (hN : kn K = 7) {ko so : Nat} : ∀ (n : Nat) (σ : St) (a0 : Nat) (i1 : Int32) (i2 : Int32) (y : Unit) (σf : St) (kr sr : Nat), f_X6_product_L16 n σ a0 i1 i2 = some (y, σf, kr, sr) → E_X6_product_L16 K a0 i1 y σf ko so → V K (kr + ko) (sr + so) σ 16 [(0, .ref a0), (1, .int i1), (2, .int i2)] [] := by
  intro n
  induction n with
  | zero =>
    intro σ a0 i1 i2 y σf kr sr hf hE
    cases hf
  | succ n ih =>
    intro σ a0 i1 i2 y σf kr sr hf hE
    replace hf : b_X6_product_L16 (f_X6_product_L16 n) σ a0 i1 i2 = some (y, σf, kr, sr) := hf
    unfold b_X6_product_L16 at hf
    refine v_iload_n hC 2 dX6_product_16 rfl ?_
    refine v_iload_n hC 1 dX6_product_17 rfl ?_
    refine v_icmp_ge hC hf dX6_product_18 (tgt := 37) (by decide) (fun hf => ?_) (fun hf => ?_)
    · obtain ⟨hX, e1, e2⟩ := v_exE (E := E_X6_product_L16 K a0 i1) hf hE
      rw [e1, e2]
      exact v_sub [(0, .ref a0), (1, .int i1)] [0, 1] rfl hX
    · refine v_at 21 rfl ?_
      refine v_aload_n hC 0 dX6_product_21 rfl ?_
      refine v_getR hC (host := "") hf fd_6_4 w_662 dX6_product_22 (fun r6 hf => ?_)
      refine v_ldc hC dX6_product_25 w_755 ?_
      refine v_iload_n hC 2 dX6_product_27 rfl ?_
      refine v_iadd hC dX6_product_28 ?_
      refine v_iconst (v := 0) hC dX6_product_29 (by decide) ?_
      refine v_stI hC hf dX6_product_30 (fun σ7 hf => ?_)
      refine v_incL hC hf 2 (fun x8 => [(2, .int x8), (0, .ref a0), (1, .int i1)]) dX6_product_31 rfl (by decide) hN (Nat.le_of_ble_eq_true rfl) (fun _ => rfl) (fun x8 hf => ?_)
      refine v_at 34 rfl ?_
      refine v_goto (tgt := 16) hC dX6_product_34 (by decide) ?_
      exact v_sub [(0, .ref a0), (1, .int i1), (2, .int x8)] [1, 2, 0] rfl (ih _ _ _ _ _ _ _ _ hf hE)
def E_X6_product_L64 (K : Cq) (a0 : Nat) (i1 : Int32) (i2 : Int32) (y : Int32) (σ : St) (kr sr : Nat) : Prop := V K kr sr σ 140 [(0, .ref a0), (1, .int i1), (2, .int i2), (4, .int y)] []
set_option maxHeartbeats 4000000 in
set_option maxRecDepth 100000 in
theorem v_X6_product_L64 {K : Cq} {k0 s0 : Nat} (hC : Cx K prog_8_method_15_code "TensMillModel") (hR : kR K = rmF 1 23 k0 s0) (hN : kn K = 7) {ko so : Nat} : ∀ (n : Nat) (σ : St) (a0 : Nat) (i1 : Int32) (i2 : Int32) (i3 : Int32) (i4 : Int32) (i5 : Int32) (y : Int32) (σf : St) (kr sr : Nat), f_X6_product_L64 n σ a0 i1 i2 i3 i4 i5 = some (y, σf, kr, sr) → E_X6_product_L64 K a0 i1 i2 y σf ko so → V K (kr + ko) (sr + so) σ 64 [(0, .ref a0), (1, .int i1), (2, .int i2), (3, .int i3), (4, .int i4), (5, .int i5)] [] := by
  intro n
  induction n with
  | zero =>
    intro σ a0 i1 i2 i3 i4 i5 y σf kr sr hf hE
    cases hf
  | succ n ih =>
    intro σ a0 i1 i2 i3 i4 i5 y σf kr sr hf hE
    replace hf : b_X6_product_L64 (f_X6_product_L64 n) σ a0 i1 i2 i3 i4 i5 = some (y, σf, kr, sr) := hf
    unfold b_X6_product_L64 at hf
    refine v_iload hC 5 dX6_product_64 rfl ?_
    refine v_aload_n hC 0 dX6_product_66 rfl ?_
    refine v_getR hC (host := "") hf fd_6_5 w_663 dX6_product_67 (fun r15 hf => ?_)
    refine v_iconst (v := 1) hC dX6_product_70 (by decide) ?_
    refine v_ldI hC hf dX6_product_71 (fun x16 hf => ?_)
    refine v_icmp_ge hC hf dX6_product_72 (tgt := 140) (by decide) (fun hf => ?_) (fun hf => ?_)
    · obtain ⟨hX, e1, e2⟩ := v_exE (E := E_X6_product_L64 K a0 i1 i2) hf hE
      rw [e1, e2]
      exact v_sub [(0, .ref a0), (1, .int i1), (2, .int i2), (4, .int i4)] [0, 1, 2, 4] rfl hX
    · refine v_at 75 rfl ?_
      refine v_iload_n hC 3 dX6_product_75 rfl ?_
      refine v_if_le hC hf dX6_product_76 (tgt := 140) (by decide) (fun hf => ?_) (fun hf => ?_)
      · obtain ⟨hX, e1, e2⟩ := v_exE (E := E_X6_product_L64 K a0 i1 i2) hf hE
        rw [e1, e2]
        exact v_sub [(0, .ref a0), (1, .int i1), (2, .int i2), (4, .int i4)] [0, 1, 2, 4] rfl hX
      · refine v_at 79 rfl ?_
        refine v_aload_n hC 0 dX6_product_79 rfl ?_
        refine v_getR hC (host := "") hf fd_6_4 w_662 dX6_product_80 (fun r17 hf => ?_)
        refine v_ldc hC dX6_product_83 w_755 ?_
        refine v_iload_n hC 2 dX6_product_85 rfl ?_
        refine v_iadd hC dX6_product_86 ?_
        refine v_iload hC 5 dX6_product_87 rfl ?_
        refine v_iadd hC dX6_product_89 ?_
        refine v_ldI hC hf dX6_product_90 (fun x18 hf => ?_)
        refine v_at 91 rfl ?_
        refine v_iload_n hC 3 dX6_product_91 rfl ?_
        refine v_aload_n hC 0 dX6_product_92 rfl ?_
        refine v_getR hC (host := "") hf fd_6_4 w_662 dX6_product_93 (fun r19 hf => ?_)
        refine v_sipush (v := 17000) hC dX6_product_96 (by decide) ?_
        refine v_iload hC 5 dX6_product_99 rfl ?_
        refine v_iadd hC dX6_product_101 ?_
        refine v_ldI hC hf dX6_product_102 (fun x20 hf => ?_)
        refine v_imul hC dX6_product_103 ?_
        refine v_at 104 rfl ?_
        refine v_iadd hC dX6_product_104 ?_
        refine v_iload hC 4 dX6_product_105 rfl ?_
        refine v_iadd hC dX6_product_107 ?_
        refine v_ltI hf (fun x21 hf => ?_)
        refine v_istore hC [(6, .int x21), (0, .ref a0), (1, .int i1), (2, .int i2), (3, .int i3), (4, .int i4), (5, .int i5)] dX6_product_108 hN (Nat.le_of_ble_eq_true rfl) rfl ?_
        refine v_aload_n hC 1 dX6_product_110 rfl ?_
        refine v_getR hC (host := "") hf fd_6_4 w_662 dX6_product_111 (fun r22 hf => ?_)
        refine v_ldc hC dX6_product_114 w_755 ?_
        refine v_iload_n hC 3 dX6_product_116 rfl ?_
        refine v_at 117 rfl ?_
        refine v_iadd hC dX6_product_117 ?_
        refine v_iload hC 6 dX6_product_118 rfl ?_
        refine v_iadd hC dX6_product_120 ?_
        refine v_iload hC 0 dX6_product_121 rfl ?_
        refine v_bipush (v := 10) hC dX6_product_123 (by decide) ?_
        refine v_irem hC hf dX6_product_125 (fun x23 hf => ?_)
        refine v_stI hC hf dX6_product_126 (fun σ24 hf => ?_)
        refine v_iload hC 0 dX6_product_127 rfl ?_
        refine v_at 129 rfl ?_
        refine v_bipush (v := 10) hC dX6_product_129 (by decide) ?_
        refine v_idiv hC hf dX6_product_131 (fun x25 hf => ?_)
        refine v_istore hC [(4, .int x25), (6, .int x21), (0, .ref a0), (1, .int i1), (2, .int i2), (3, .int i3), (5, .int i5)] dX6_product_132 hN (Nat.le_of_ble_eq_true rfl) rfl ?_
        refine v_incL hC hf 6 (fun x26 => [(5, .int x26), (4, .int x25), (6, .int x21), (0, .ref a0), (1, .int i1), (2, .int i2), (3, .int i3)]) dX6_product_134 rfl (by decide) hN (Nat.le_of_ble_eq_true rfl) (fun _ => rfl) (fun x26 hf => ?_)
        refine v_goto (tgt := 64) hC dX6_product_137 (by decide) ?_
        exact v_sub [(0, .ref a0), (1, .int i1), (2, .int i2), (3, .int i3), (4, .int x25), (5, .int x26)] [3, 4, 5, 6, 1, 0] rfl (ih _ _ _ _ _ _ _ _ _ _ _ hf hE)
def E_X6_product_L39 (K : Cq) (a0 : Nat) (i1 : Int32) (y : Unit) (σ : St) (kr sr : Nat) : Prop := V K kr sr σ 167 [(0, .ref a0), (1, .int i1)] []
set_option maxHeartbeats 4000000 in
set_option maxRecDepth 100000 in
theorem v_X6_product_L39 {K : Cq} {k0 s0 : Nat} (hC : Cx K prog_8_method_15_code "TensMillModel") (hR : kR K = rmF 1 23 k0 s0) (hN : kn K = 7) {ko so : Nat} : ∀ (n : Nat) (σ : St) (a0 : Nat) (i1 : Int32) (i2 : Int32) (y : Unit) (σf : St) (kr sr : Nat), f_X6_product_L39 n σ a0 i1 i2 = some (y, σf, kr, sr) → E_X6_product_L39 K a0 i1 y σf ko so → V K (kr + ko) (sr + so) σ 39 [(0, .ref a0), (1, .int i1), (2, .int i2)] [] := by
  intro n
  induction n with
  | zero =>
    intro σ a0 i1 i2 y σf kr sr hf hE
    cases hf
  | succ n ih =>
    intro σ a0 i1 i2 y σf kr sr hf hE
    replace hf : b_X6_product_L39 (f_X6_product_L39 n) σ a0 i1 i2 = some (y, σf, kr, sr) := hf
    unfold b_X6_product_L39 at hf
    refine v_iload_n hC 2 dX6_product_39 rfl ?_
    refine v_aload_n hC 0 dX6_product_40 rfl ?_
    refine v_getR hC (host := "") hf fd_6_5 w_663 dX6_product_41 (fun r11 hf => ?_)
    refine v_iconst (v := 0) hC dX6_product_44 (by decide) ?_
    refine v_ldI hC hf dX6_product_45 (fun x12 hf => ?_)
    refine v_icmp_ge hC hf dX6_product_46 (tgt := 167) (by decide) (fun hf => ?_) (fun hf => ?_)
    · obtain ⟨hX, e1, e2⟩ := v_exE (E := E_X6_product_L39 K a0 i1) hf hE
      rw [e1, e2]
      exact v_sub [(0, .ref a0), (1, .int i1)] [0, 1] rfl hX
    · refine v_at 49 rfl ?_
      refine v_aload_n hC 0 dX6_product_49 rfl ?_
      refine v_getR hC (host := "") hf fd_6_4 w_662 dX6_product_50 (fun r13 hf => ?_)
      refine v_iconst (v := 0) hC dX6_product_53 (by decide) ?_
      refine v_iload_n hC 2 dX6_product_54 rfl ?_
      refine v_iadd hC dX6_product_55 ?_
      refine v_ldI hC hf dX6_product_56 (fun x14 hf => ?_)
      refine v_istore_n hC [(3, .int x14), (0, .ref a0), (1, .int i1), (2, .int i2)] dX6_product_57 rfl hN (Nat.le_of_ble_eq_true rfl) rfl ?_
      refine v_iconst (v := 0) hC dX6_product_58 (by decide) ?_
      refine v_at 59 rfl ?_
      refine v_istore hC [(4, .int 0), (3, .int x14), (0, .ref a0), (1, .int i1), (2, .int i2)] dX6_product_59 hN (Nat.le_of_ble_eq_true rfl) rfl ?_
      refine v_iconst (v := 0) hC dX6_product_61 (by decide) ?_
      refine v_istore hC [(5, .int 0), (4, .int 0), (3, .int x14), (0, .ref a0), (1, .int i1), (2, .int i2)] dX6_product_62 hN (Nat.le_of_ble_eq_true rfl) rfl ?_
      refine v_at 64 rfl ?_
      refine v_sub [(0, .ref a0), (1, .int i1), (2, .int i2), (3, .int x14), (4, .int 0), (5, .int 0)] [3, 4, 5, 2, 1, 0] rfl ?_
      refine v_lpE hf (E_X6_product_L64 K a0 i1 i2) (fun _ _ _ _ _ _ h hE => v_X6_product_L64 hC hR hN _ _ _ _ _ _ _ _ _ _ _ _ h hE) (fun y27 σ28 _ _ hf => ?_)
      show V K _ _ σ28 140 [(0, .ref a0), (1, .int i1), (2, .int i2), (4, .int y27)] []
      refine v_aload_n hC 0 dX6_product_140 rfl ?_
      refine v_getR hC (host := "") hf fd_6_4 w_662 dX6_product_141 (fun r29 hf => ?_)
      refine v_ldc hC dX6_product_144 w_755 ?_
      refine v_iload_n hC 2 dX6_product_146 rfl ?_
      refine v_iadd hC dX6_product_147 ?_
      refine v_aload_n hC 0 dX6_product_148 rfl ?_
      refine v_getR hC (host := "") hf fd_6_5 w_663 dX6_product_149 (fun r30 hf => ?_)
      refine v_iconst (v := 1) hC dX6_product_152 (by decide) ?_
      refine v_at 153 rfl ?_
      refine v_ldI hC hf dX6_product_153 (fun x31 hf => ?_)
      refine v_iadd hC dX6_product_154 ?_
      refine v_dup2 hC dX6_product_155 rfl rfl ?_
      refine v_ldI hC hf dX6_product_156 (fun x32 hf => ?_)
      refine v_iload hC 3 dX6_product_157 rfl ?_
      refine v_iadd hC dX6_product_159 ?_
      refine v_stI hC hf dX6_product_160 (fun σ33 hf => ?_)
      refine v_incL hC hf 2 (fun x34 => [(2, .int x34), (0, .ref a0), (1, .int i1), (4, .int y27)]) dX6_product_161 rfl (by decide) hN (Nat.le_of_ble_eq_true rfl) (fun _ => rfl) (fun x34 hf => ?_)
      refine v_at 164 rfl ?_
      refine v_goto (tgt := 39) hC dX6_product_164 (by decide) ?_
      exact v_sub [(0, .ref a0), (1, .int i1), (2, .int x34)] [1, 2, 0] rfl (ih _ _ _ _ _ _ _ _ hf hE)
set_option maxHeartbeats 4000000 in
set_option maxRecDepth 100000 in
theorem m_X6_product {G : Gm} {l : Launch} {σ : St} {a0 : Nat} {r : Unit} {σf : St} {k s : Nat} (hf : f_X6_product σ a0 = some (r, σf, k, s)) : (∃ fs : List Value, σ.1 a0 = some (.inr (.inl (6, fs)))) ∧ Ct G l y_X6_product prog_8_method_15_code 7 none 1 23 [.ref a0] σ none σf k s := by
  unfold f_X6_product at hf
  obtain ⟨hob, hf⟩ := ob_some hf
  refine ⟨hob, Ct.ofV pl_X6_product (Nat.le_of_ble_eq_true rfl) ?_⟩
  intro K hR hN hnm hC hE
  show V K (k + 0) (s + 0) σ 0 [(0, .ref a0)] []
  refine v_aload_n hC 0 dX6_product_0 rfl ?_
  refine v_getR hC (host := "") hf fd_6_5 w_663 dX6_product_1 (fun r1 hf => ?_)
  refine v_iconst (v := 0) hC dX6_product_4 (by decide) ?_
  refine v_ldI hC hf dX6_product_5 (fun x2 hf => ?_)
  refine v_aload_n hC 0 dX6_product_6 rfl ?_
  refine v_getR hC (host := "") hf fd_6_5 w_663 dX6_product_7 (fun r3 hf => ?_)
  refine v_iconst (v := 1) hC dX6_product_10 (by decide) ?_
  refine v_ldI hC hf dX6_product_11 (fun x4 hf => ?_)
  refine v_at 12 rfl ?_
  refine v_iadd hC dX6_product_12 ?_
  refine v_ltI hf (fun x5 hf => ?_)
  refine v_istore_n hC [(1, .int x5), (0, .ref a0)] dX6_product_13 rfl hN (Nat.le_of_ble_eq_true rfl) rfl ?_
  refine v_iconst (v := 0) hC dX6_product_14 (by decide) ?_
  refine v_istore_n hC [(2, .int 0), (1, .int x5), (0, .ref a0)] dX6_product_15 rfl hN (Nat.le_of_ble_eq_true rfl) rfl ?_
  refine v_at 16 rfl ?_
  refine v_sub [(0, .ref a0), (1, .int x5), (2, .int 0)] [2, 1, 0] rfl ?_
  refine v_lpE hf (E_X6_product_L16 K a0 x5) (fun _ _ _ _ _ _ h hE => v_X6_product_L16 hC hR hN _ _ _ _ _ _ _ _ _ h hE) (fun y9 σ10 _ _ hf => ?_)
  show V K _ _ σ10 37 [(0, .ref a0), (1, .int x5)] []
  refine v_iconst (v := 0) hC dX6_product_37 (by decide) ?_
  refine v_istore_n hC [(2, .int 0), (0, .ref a0), (1, .int x5)] dX6_product_38 rfl hN (Nat.le_of_ble_eq_true rfl) rfl ?_
  refine v_at 39 rfl ?_
  refine v_sub [(0, .ref a0), (1, .int x5), (2, .int 0)] [1, 2, 0] rfl ?_
  refine v_lpE hf (E_X6_product_L39 K a0 x5) (fun _ _ _ _ _ _ h hE => v_X6_product_L39 hC hR hN _ _ _ _ _ _ _ _ _ h hE) (fun y35 σ36 _ _ hf => ?_)
  show V K _ _ σ36 167 [(0, .ref a0), (1, .int x5)] []
  refine v_aload_n hC 0 dX6_product_167 rfl ?_
  refine v_iconst (v := 2) hC dX6_product_168 (by decide) ?_
  refine v_iload_n hC 1 dX6_product_169 rfl ?_
  refine v_cVE hC (y := y_X6_trim) (ci := 6) [.int 2, .int x5] [] (fun _ => none) (fun _ => []) hf (fun _ _ _ _ h => m_X6_trim h) rfl (fun _ => rfl) rfl rfl hR (Nat.le_of_ble_eq_true rfl) (Nat.le_of_ble_eq_true rfl) w_734 w_731 w_733 w_32 w_64 nm_X6_trim rfl (Nat.le_of_ble_eq_true rfl) dX6_product_170 (fun _ σ37 _ _ hf => ?_)
  exact v_retV hC hf hE dX6_product_173
def E_X6_step_L45 (K : Cq)  (y : Int32) (σ : St) (kr sr : Nat) : Prop := V K kr sr σ 66 [(2, .int y)] []
set_option maxHeartbeats 4000000 in
set_option maxRecDepth 100000 in
theorem v_X6_step_L45 {K : Cq} {k0 s0 : Nat} (hC : Cx K prog_8_method_16_code "TensMillModel") (hR : kR K = rmF 2 48 k0 s0) (hN : kn K = 3) {ko so : Nat} : ∀ (n : Nat) (σ : St) (a0 : Nat) (i2 : Int32) (y : Int32) (σf : St) (kr sr : Nat), f_X6_step_L45 n σ a0 i2 = some (y, σf, kr, sr) → E_X6_step_L45 K  y σf ko so → V K (kr + ko) (sr + so) σ 45 [(0, .ref a0), (2, .int i2)] [] := by
  intro n
  induction n with
  | zero =>
    intro σ a0 i2 y σf kr sr hf hE
    cases hf
  | succ n ih =>
    intro σ a0 i2 y σf kr sr hf hE
    replace hf : b_X6_step_L45 (f_X6_step_L45 n) σ a0 i2 = some (y, σf, kr, sr) := hf
    unfold b_X6_step_L45 at hf
    refine v_aload_n hC 0 dX6_step_45 rfl ?_
    refine v_iconst (v := 3) hC dX6_step_46 (by decide) ?_
    refine v_iconst (v := 1) hC dX6_step_47 (by decide) ?_
    refine v_cVP hC (y := y_X6_compareRows) (ci := 6) [.int 3, .int 1] [] (fun r => some (.int r)) (fun r => .int r :: []) hf (fun _ h => m_X6_compareRows h) rfl (fun _ => rfl) rfl rfl hR (Nat.le_of_ble_eq_true rfl) (Nat.le_of_ble_eq_true rfl) w_738 w_735 w_737 w_33 w_64 nm_X6_compareRows rfl (Nat.le_of_ble_eq_true rfl) dX6_step_48 (fun x8 hf => ?_)
    refine v_if_lt hC hf dX6_step_51 (tgt := 66) (by decide) (fun hf => ?_) (fun hf => ?_)
    · obtain ⟨hX, e1, e2⟩ := v_exE (E := E_X6_step_L45 K ) hf hE
      rw [e1, e2]
      exact v_sub [(2, .int i2)] [1] rfl hX
    · refine v_at 54 rfl ?_
      refine v_aload_n hC 0 dX6_step_54 rfl ?_
      refine v_iconst (v := 3) hC dX6_step_55 (by decide) ?_
      refine v_iconst (v := 1) hC dX6_step_56 (by decide) ?_
      refine v_cVE hC (y := y_X6_less) (ci := 6) [.int 3, .int 1] [] (fun _ => none) (fun _ => []) hf (fun _ _ _ _ h => m_X6_less h) rfl (fun _ => rfl) rfl rfl hR (Nat.le_of_ble_eq_true rfl) (Nat.le_of_ble_eq_true rfl) w_742 w_739 w_741 w_34 w_64 nm_X6_less rfl (Nat.le_of_ble_eq_true rfl) dX6_step_57 (fun _ σ9 _ _ hf => ?_)
      refine v_incL hC hf 1 (fun x10 => [(2, .int x10), (0, .ref a0)]) dX6_step_60 rfl (by decide) hN (Nat.le_of_ble_eq_true rfl) (fun _ => rfl) (fun x10 hf => ?_)
      refine v_goto (tgt := 45) hC dX6_step_63 (by decide) ?_
      exact v_sub [(0, .ref a0), (2, .int x10)] [1, 0] rfl (ih _ _ _ _ _ _ _ hf hE)
set_option maxHeartbeats 4000000 in
set_option maxRecDepth 100000 in
theorem m_X6_step {G : Gm} {l : Launch} {σ : St} {a0 : Nat} {i1 : Int32} {r : Int32} {σf : St} {k s : Nat} (hf : f_X6_step σ a0 i1 = some (r, σf, k, s)) : (∃ fs : List Value, σ.1 a0 = some (.inr (.inl (6, fs)))) ∧ Ct G l y_X6_step prog_8_method_16_code 3 (some .int) 2 48 [.ref a0, .int i1] σ (some (.int r)) σf k s := by
  unfold f_X6_step at hf
  obtain ⟨hob, hf⟩ := ob_some hf
  refine ⟨hob, Ct.ofV pl_X6_step (Nat.le_of_ble_eq_true rfl) ?_⟩
  intro K hR hN hnm hC hE
  show V K (k + 0) (s + 0) σ 0 [(0, .ref a0), (1, .int i1)] []
  refine v_aload_n hC 0 dX6_step_0 rfl ?_
  refine v_iconst (v := 3) hC dX6_step_1 (by decide) ?_
  refine v_iconst (v := 1) hC dX6_step_2 (by decide) ?_
  refine v_cVE hC (y := y_X6_raise) (ci := 6) [.int 3, .int 1] [] (fun _ => none) (fun _ => []) hf (fun _ _ _ _ h => m_X6_raise h) rfl (fun _ => rfl) rfl rfl hR (Nat.le_of_ble_eq_true rfl) (Nat.le_of_ble_eq_true rfl) w_726 w_723 w_725 w_30 w_64 nm_X6_raise rfl (Nat.le_of_ble_eq_true rfl) dX6_step_3 (fun _ σ1 _ _ hf => ?_)
  refine v_aload_n hC 0 dX6_step_6 rfl ?_
  refine v_getR hC (host := "") hf fd_6_5 w_663 dX6_step_7 (fun r2 hf => ?_)
  refine v_iconst (v := 3) hC dX6_step_10 (by decide) ?_
  refine v_ldI hC hf dX6_step_11 (fun x3 hf => ?_)
  refine v_at 12 rfl ?_
  refine v_jnE hf (fun z4 kr sr => V K (kr + 0) (sr + 0) z4 26 [(0, .ref a0), (1, .int i1)] []) (fun z4 _ _ hf => ?_) (fun k4 hk4 hf => ?_)
  · refine v_aload_n hC 0 dX6_step_26 rfl ?_
    refine v_getR hC (host := "") hf fd_6_5 w_663 dX6_step_27 (fun r5 hf => ?_)
    refine v_iconst (v := 3) hC dX6_step_30 (by decide) ?_
    refine v_ldI hC hf dX6_step_31 (fun x6 hf => ?_)
    refine v_jnE hf (fun z7 kr sr => V K (kr + 0) (sr + 0) z7 43 [(0, .ref a0)] []) (fun z7 _ _ hf => ?_) (fun k7 hk7 hf => ?_)
    · refine v_iconst (v := 0) hC dX6_step_43 (by decide) ?_
      refine v_istore_n hC [(2, .int 0), (0, .ref a0)] dX6_step_44 rfl hN (Nat.le_of_ble_eq_true rfl) rfl ?_
      refine v_at 45 rfl ?_
      refine v_sub [(0, .ref a0), (2, .int 0)] [1, 0] rfl ?_
      refine v_lpE hf (E_X6_step_L45 K ) (fun _ _ _ _ _ _ h hE => v_X6_step_L45 hC hR hN _ _ _ _ _ _ _ _ h hE) (fun y11 σ12 _ _ hf => ?_)
      show V K _ _ σ12 66 [(2, .int y11)] []
      refine v_iload_n hC 0 dX6_step_66 rfl ?_
      exact v_retI hC hf hE dX6_step_67
    · refine v_if_le hC hf dX6_step_32 (tgt := 43) (by decide) (fun hf => ?_) (fun hf => ?_)
      · exact v_sub [(0, .ref a0)] [0] rfl (hk7 _ _ _ hf)
      · refine v_at 35 rfl ?_
        refine v_aload_n hC 0 dX6_step_35 rfl ?_
        refine v_getR hC (host := "") hf fd_6_4 w_662 dX6_step_36 (fun r13 hf => ?_)
        refine v_ldc hC dX6_step_39 w_777 ?_
        refine v_iload_n hC 1 dX6_step_41 rfl ?_
        refine v_stI hC hf dX6_step_42 (fun σ14 hf => ?_)
        refine v_at 43 rfl ?_
        exact v_sub [(0, .ref a0)] [0] rfl (hk7 _ _ _ hf)
  · refine v_if_ne hC hf dX6_step_12 (tgt := 26) (by decide) (fun hf => ?_) (fun hf => ?_)
    · exact v_sub [(0, .ref a0), (1, .int i1)] [0, 1] rfl (hk4 _ _ _ hf)
    · refine v_at 15 rfl ?_
      refine v_iload_n hC 1 dX6_step_15 rfl ?_
      refine v_if_le hC hf dX6_step_16 (tgt := 26) (by decide) (fun hf => ?_) (fun hf => ?_)
      · exact v_sub [(0, .ref a0), (1, .int i1)] [0, 1] rfl (hk4 _ _ _ hf)
      · refine v_at 19 rfl ?_
        refine v_aload_n hC 0 dX6_step_19 rfl ?_
        refine v_getR hC (host := "") hf fd_6_5 w_663 dX6_step_20 (fun r15 hf => ?_)
        refine v_iconst (v := 3) hC dX6_step_23 (by decide) ?_
        refine v_iconst (v := 1) hC dX6_step_24 (by decide) ?_
        refine v_stI hC hf dX6_step_25 (fun σ16 hf => ?_)
        refine v_at 26 rfl ?_
        exact v_sub [(0, .ref a0), (1, .int i1)] [0, 1] rfl (hk4 _ _ _ hf)
def E_X6_judge_L34 (K : Cq) (kr sr : Nat) (σ : St) (a0 : Nat) (y : Int32) : Prop := V K kr sr σ 143 [(0, .ref a0), (1, .int y)] []
set_option maxHeartbeats 4000000 in
set_option maxRecDepth 100000 in
theorem v_X6_judge_L34 {K : Cq} {k0 s0 : Nat} (hC : Cx K prog_8_method_18_code "TensMillModel") (hR : kR K = rmF 0 0 k0 s0) (hN : kn K = 6) {kr sr : Nat} : ∀ (n : Nat) (σ : St) (a0 : Nat) (i1 : Int32) (i2 : Int32) (i3 : Int32) (y : Int32), f_X6_judge_L34 n σ a0 i1 i2 i3 = some y → E_X6_judge_L34 K kr sr σ a0 y → V K kr sr σ 34 [(0, .ref a0), (1, .int i1), (2, .int i2), (3, .int i3)] [] := by
  intro n
  induction n with
  | zero =>
    intro σ a0 i1 i2 i3 y hf hE
    cases hf
  | succ n ih =>
    intro σ a0 i1 i2 i3 y hf hE
    replace hf : b_X6_judge_L34 (f_X6_judge_L34 n) σ a0 i1 i2 i3 = some y := hf
    unfold b_X6_judge_L34 at hf
    refine v_iload_n hC 3 dX6_judge_34 rfl ?_
    refine v_aload_n hC 0 dX6_judge_35 rfl ?_
    refine v_getR hC (host := "") hf fd_6_5 w_663 dX6_judge_36 (fun r7 hf => ?_)
    refine v_iconst (v := 1) hC dX6_judge_39 (by decide) ?_
    refine v_ldI hC hf dX6_judge_40 (fun x8 hf => ?_)
    refine v_iconst (v := 1) hC dX6_judge_41 (by decide) ?_
    refine v_iadd hC dX6_judge_42 ?_
    refine v_jnP hf (fun z9 => V K kr sr σ 58 [(0, .ref a0), (1, .int i1), (2, .int i2), (3, .int i3)] []) (fun z9 hf => ?_) (fun k9 hk9 hf => ?_)
    · refine v_iload_n hC 3 dX6_judge_58 rfl ?_
      refine v_aload_n hC 0 dX6_judge_59 rfl ?_
      refine v_getR hC (host := "") hf fd_6_5 w_663 dX6_judge_60 (fun r10 hf => ?_)
      refine v_iconst (v := 3) hC dX6_judge_63 (by decide) ?_
      refine v_ldI hC hf dX6_judge_64 (fun x11 hf => ?_)
      refine v_jnP hf (fun z12 => V K kr sr σ 83 [(0, .ref a0), (1, .int i1), (2, .int i2), (3, .int i3)] [.int z12]) (fun z12 hf => ?_) (fun k12 hk12 hf => ?_)
      · refine v_iload_n hC 2 dX6_judge_83 rfl ?_
        refine v_iadd hC dX6_judge_84 ?_
        refine v_ltI hf (fun x13 hf => ?_)
        refine v_istore hC [(4, .int x13), (0, .ref a0), (1, .int i1), (2, .int i2), (3, .int i3)] dX6_judge_85 hN (Nat.le_of_ble_eq_true rfl) rfl ?_
        refine v_iload hC 0 dX6_judge_87 rfl ?_
        refine v_bipush (v := 10) hC dX6_judge_89 (by decide) ?_
        refine v_idiv hC hf dX6_judge_91 (fun x14 hf => ?_)
        refine v_istore_n hC [(2, .int x14), (4, .int x13), (0, .ref a0), (1, .int i1), (3, .int i3)] dX6_judge_92 rfl hN (Nat.le_of_ble_eq_true rfl) rfl ?_
        refine v_iload hC 1 dX6_judge_93 rfl ?_
        refine v_at 95 rfl ?_
        refine v_bipush (v := 10) hC dX6_judge_95 (by decide) ?_
        refine v_irem hC hf dX6_judge_97 (fun x15 hf => ?_)
        refine v_iload_n hC 4 dX6_judge_98 rfl ?_
        refine v_aload_n hC 2 dX6_judge_99 rfl ?_
        refine v_getR hC (host := "") hf fd_6_5 w_663 dX6_judge_100 (fun r16 hf => ?_)
        refine v_iconst (v := 1) hC dX6_judge_103 (by decide) ?_
        refine v_ldI hC hf dX6_judge_104 (fun x17 hf => ?_)
        refine v_jnP hf (fun z18 => V K kr sr σ 122 [(0, .ref a0), (1, .int i1), (2, .int x14), (3, .int i3)] [.int z18, .int x15]) (fun z18 hf => ?_) (fun k18 hk18 hf => ?_)
        · refine v_isub hC dX6_judge_122 ?_
          refine v_ltI hf (fun x19 hf => ?_)
          refine v_istore hC [(5, .int x19), (0, .ref a0), (1, .int i1), (2, .int x14), (3, .int i3)] dX6_judge_123 hN (Nat.le_of_ble_eq_true rfl) rfl ?_
          refine v_iload hC 0 dX6_judge_125 rfl ?_
          refine v_jnP hf (fun z20 => V K kr sr σ 136 [(0, .ref a0), (2, .int x14), (3, .int i3)] [.int z20]) (fun z20 hf => ?_) (fun k20 hk20 hf => ?_)
          · refine v_istore_n hC [(1, .int z20), (0, .ref a0), (2, .int x14), (3, .int i3)] dX6_judge_136 rfl hN (Nat.le_of_ble_eq_true rfl) rfl ?_
            refine v_incL hC hf 3 (fun x21 => [(3, .int x21), (1, .int z20), (0, .ref a0), (2, .int x14)]) dX6_judge_137 rfl (by decide) hN (Nat.le_of_ble_eq_true rfl) (fun _ => rfl) (fun x21 hf => ?_)
            refine v_goto (tgt := 34) hC dX6_judge_140 (by decide) ?_
            exact v_sub [(0, .ref a0), (1, .int z20), (2, .int x14), (3, .int x21)] [2, 1, 3, 0] rfl (ih _ _ _ _ _ _ hf hE)
          · refine v_if_eq hC hf dX6_judge_127 (tgt := 135) (by decide) (fun hf => ?_) (fun hf => ?_)
            · refine v_iload_n hC 2 dX6_judge_135 rfl ?_
              refine v_at 136 rfl ?_
              exact v_sub [(0, .ref a0), (2, .int x14), (3, .int i3)] [1, 3, 4] rfl (hk20 _ hf)
            · refine v_at 130 rfl ?_
              refine v_iload hC 0 dX6_judge_130 rfl ?_
              refine v_goto (tgt := 136) hC dX6_judge_132 (by decide) ?_
              exact v_sub [(0, .ref a0), (2, .int x14), (3, .int i3)] [1, 3, 4] rfl (hk20 _ hf)
        · refine v_icmp_ge hC hf dX6_judge_105 (tgt := 121) (by decide) (fun hf => ?_) (fun hf => ?_)
          · refine v_iconst (v := 0) hC dX6_judge_121 (by decide) ?_
            refine v_at 122 rfl ?_
            exact v_sub [(0, .ref a0), (1, .int i1), (2, .int x14), (3, .int i3)] [2, 3, 0, 4] rfl (hk18 _ hf)
          · refine v_at 108 rfl ?_
            refine v_aload_n hC 2 dX6_judge_108 rfl ?_
            refine v_getR hC (host := "") hf fd_6_4 w_662 dX6_judge_109 (fun r22 hf => ?_)
            refine v_sipush (v := 17000) hC dX6_judge_112 (by decide) ?_
            refine v_iload_n hC 4 dX6_judge_115 rfl ?_
            refine v_iadd hC dX6_judge_116 ?_
            refine v_ldI hC hf dX6_judge_117 (fun x23 hf => ?_)
            refine v_goto (tgt := 122) hC dX6_judge_118 (by decide) ?_
            exact v_sub [(0, .ref a0), (1, .int i1), (2, .int x14), (3, .int i3)] [2, 3, 0, 4] rfl (hk18 _ hf)
      · refine v_icmp_ge hC hf dX6_judge_65 (tgt := 82) (by decide) (fun hf => ?_) (fun hf => ?_)
        · refine v_iconst (v := 0) hC dX6_judge_82 (by decide) ?_
          refine v_at 83 rfl ?_
          exact v_sub [(0, .ref a0), (1, .int i1), (2, .int i2), (3, .int i3)] [0, 1, 2, 3] rfl (hk12 _ hf)
        · refine v_at 68 rfl ?_
          refine v_iconst (v := 2) hC dX6_judge_68 (by decide) ?_
          refine v_aload_n hC 0 dX6_judge_69 rfl ?_
          refine v_getR hC (host := "") hf fd_6_4 w_662 dX6_judge_70 (fun r24 hf => ?_)
          refine v_ldc hC dX6_judge_73 w_777 ?_
          refine v_iload_n hC 3 dX6_judge_75 rfl ?_
          refine v_iadd hC dX6_judge_76 ?_
          refine v_ldI hC hf dX6_judge_77 (fun x25 hf => ?_)
          refine v_imul hC dX6_judge_78 ?_
          refine v_at 79 rfl ?_
          refine v_goto (tgt := 83) hC dX6_judge_79 (by decide) ?_
          exact v_sub [(0, .ref a0), (1, .int i1), (2, .int i2), (3, .int i3)] [0, 1, 2, 3] rfl (hk12 _ hf)
    · refine v_icmp_lt hC hf dX6_judge_43 (tgt := 58) (by decide) (fun hf => ?_) (fun hf => ?_)
      · exact v_sub [(0, .ref a0), (1, .int i1), (2, .int i2), (3, .int i3)] [0, 1, 2, 3] rfl (hk9 _ hf)
      · refine v_at 46 rfl ?_
        refine v_iload_n hC 3 dX6_judge_46 rfl ?_
        refine v_aload_n hC 0 dX6_judge_47 rfl ?_
        refine v_getR hC (host := "") hf fd_6_5 w_663 dX6_judge_48 (fun r26 hf => ?_)
        refine v_iconst (v := 3) hC dX6_judge_51 (by decide) ?_
        refine v_ldI hC hf dX6_judge_52 (fun x27 hf => ?_)
        refine v_iconst (v := 1) hC dX6_judge_53 (by decide) ?_
        refine v_iadd hC dX6_judge_54 ?_
        refine v_icmp_ge hC hf dX6_judge_55 (tgt := 143) (by decide) (fun hf => ?_) (fun hf => ?_)
        · exact v_sub [(0, .ref a0), (1, .int i1)] [0, 1] rfl (v_exP (E := E_X6_judge_L34 K _ _ _ a0) hf hE)
        · refine v_at 58 rfl ?_
          exact v_sub [(0, .ref a0), (1, .int i1), (2, .int i2), (3, .int i3)] [0, 1, 2, 3] rfl (hk9 _ hf)
set_option maxHeartbeats 4000000 in
set_option maxRecDepth 100000 in
theorem m_X6_judge {G : Gm} {l : Launch} {σ : St} {a0 : Nat} {r : Unit} {σf : St} {k s : Nat} (hf : f_X6_judge σ a0 = some (r, σf, k, s)) : (∃ fs : List Value, σ.1 a0 = some (.inr (.inl (6, fs)))) ∧ Ct G l y_X6_judge prog_8_method_18_code 6 none 0 0 [.ref a0] σ none σf k s := by
  unfold f_X6_judge at hf
  obtain ⟨hob, hf⟩ := ob_some hf
  refine ⟨hob, Ct.ofV pl_X6_judge (Nat.le_of_ble_eq_true rfl) ?_⟩
  intro K hR hN hnm hC hE
  show V K (k + 0) (s + 0) σ 0 [(0, .ref a0)] []
  refine v_aload_n hC 0 dX6_judge_0 rfl ?_
  refine v_aload_n hC 0 dX6_judge_1 rfl ?_
  refine v_getR hC (host := "") hf fd_6_5 w_663 dX6_judge_2 (fun r1 hf => ?_)
  refine v_iconst (v := 3) hC dX6_judge_5 (by decide) ?_
  refine v_ldI hC hf dX6_judge_6 (fun x2 hf => ?_)
  refine v_jnE hf (fun z3 kr sr => V K (kr + 0) (sr + 0) σ 15 [(0, .ref a0)] [.int z3, .ref a0]) (fun z3 _ _ hf => ?_) (fun k3 hk3 hf => ?_)
  · refine v_put hC hf fd_6_6 w_664 rfl rfl dX6_judge_15 (fun σ4 hf => ?_)
    refine v_aload_n hC 0 dX6_judge_18 rfl ?_
    refine v_getR hC (host := "") hf fd_6_5 w_663 dX6_judge_19 (fun r5 hf => ?_)
    refine v_iconst (v := 3) hC dX6_judge_22 (by decide) ?_
    refine v_ldI hC hf dX6_judge_23 (fun x6 hf => ?_)
    refine v_if_ne hC hf dX6_judge_24 (tgt := 28) (by decide) (fun hf => ?_) (fun hf => ?_)
    · refine v_iconst (v := 0) hC dX6_judge_28 (by decide) ?_
      refine v_istore_n hC [(1, .int 0), (0, .ref a0)] dX6_judge_29 rfl hN (Nat.le_of_ble_eq_true rfl) rfl ?_
      refine v_iconst (v := 0) hC dX6_judge_30 (by decide) ?_
      refine v_istore_n hC [(2, .int 0), (1, .int 0), (0, .ref a0)] dX6_judge_31 rfl hN (Nat.le_of_ble_eq_true rfl) rfl ?_
      refine v_iconst (v := 0) hC dX6_judge_32 (by decide) ?_
      refine v_istore_n hC [(3, .int 0), (2, .int 0), (1, .int 0), (0, .ref a0)] dX6_judge_33 rfl hN (Nat.le_of_ble_eq_true rfl) rfl ?_
      refine v_at 34 rfl ?_
      refine v_sub [(0, .ref a0), (1, .int 0), (2, .int 0), (3, .int 0)] [3, 2, 1, 0] rfl ?_
      refine v_lpP hf (E_X6_judge_L34 K _ _ σ4 a0) (fun _ h hE => v_X6_judge_L34 hC hR hN _ _ _ _ _ _ _ h hE) (fun y28 hf => ?_)
      show V K _ _ σ4 143 [(0, .ref a0), (1, .int y28)] []
      refine v_aload_n hC 0 dX6_judge_143 rfl ?_
      refine v_iload_n hC 1 dX6_judge_144 rfl ?_
      refine v_jnE hf (fun z29 kr sr => V K (kr + 0) (sr + 0) σ4 161 [] [.int z29, .ref a0]) (fun z29 _ _ hf => ?_) (fun k29 hk29 hf => ?_)
      · refine v_put hC hf fd_6_6 w_664 rfl rfl dX6_judge_161 (fun σ30 hf => ?_)
        exact v_retV hC hf hE dX6_judge_164
      · refine v_if_le hC hf dX6_judge_145 (tgt := 152) (by decide) (fun hf => ?_) (fun hf => ?_)
        · refine v_iload_n hC 1 dX6_judge_152 rfl ?_
          refine v_if_ne hC hf dX6_judge_153 (tgt := 160) (by decide) (fun hf => ?_) (fun hf => ?_)
          · refine v_iconst (v := 1) hC dX6_judge_160 (by decide) ?_
            refine v_at 161 rfl ?_
            exact v_sub [] [] rfl (hk29 _ _ _ hf)
          · refine v_at 156 rfl ?_
            refine v_iconst (v := 2) hC dX6_judge_156 (by decide) ?_
            refine v_goto (tgt := 161) hC dX6_judge_157 (by decide) ?_
            exact v_sub [] [] rfl (hk29 _ _ _ hf)
        · refine v_at 148 rfl ?_
          refine v_iconst (v := 3) hC dX6_judge_148 (by decide) ?_
          refine v_goto (tgt := 161) hC dX6_judge_149 (by decide) ?_
          exact v_sub [] [] rfl (hk29 _ _ _ hf)
    · refine v_at 27 rfl ?_
      exact v_retV hC hf hE dX6_judge_27
  · refine v_if_le hC hf dX6_judge_7 (tgt := 14) (by decide) (fun hf => ?_) (fun hf => ?_)
    · refine v_iconst (v := 0) hC dX6_judge_14 (by decide) ?_
      refine v_at 15 rfl ?_
      exact v_sub [(0, .ref a0)] [0] rfl (hk3 _ _ _ hf)
    · refine v_at 10 rfl ?_
      refine v_iconst (v := 1) hC dX6_judge_10 (by decide) ?_
      refine v_goto (tgt := 15) hC dX6_judge_11 (by decide) ?_
      exact v_sub [(0, .ref a0)] [0] rfl (hk3 _ _ _ hf)
def E_X6_quotient_L16 (K : Cq) (a0 : Nat) (y : Unit) (σ : St) (kr sr : Nat) : Prop := V K kr sr σ 47 [(0, .ref a0)] []
set_option maxHeartbeats 4000000 in
set_option maxRecDepth 100000 in
theorem v_X6_quotient_L16 {K : Cq} {k0 s0 : Nat} (hC : Cx K prog_8_method_17_code "TensMillModel") (hR : kR K = rmF 3 70 k0 s0) (hN : kn K = 2) {ko so : Nat} : ∀ (n : Nat) (σ : St) (a0 : Nat) (i1 : Int32) (y : Unit) (σf : St) (kr sr : Nat), f_X6_quotient_L16 n σ a0 i1 = some (y, σf, kr, sr) → E_X6_quotient_L16 K a0 y σf ko so → V K (kr + ko) (sr + so) σ 16 [(0, .ref a0), (1, .int i1)] [] := by
  intro n
  induction n with
  | zero =>
    intro σ a0 i1 y σf kr sr hf hE
    cases hf
  | succ n ih =>
    intro σ a0 i1 y σf kr sr hf hE
    replace hf : b_X6_quotient_L16 (f_X6_quotient_L16 n) σ a0 i1 = some (y, σf, kr, sr) := hf
    unfold b_X6_quotient_L16 at hf
    refine v_iload_n hC 1 dX6_quotient_16 rfl ?_
    refine v_if_lt hC hf dX6_quotient_17 (tgt := 47) (by decide) (fun hf => ?_) (fun hf => ?_)
    · obtain ⟨hX, e1, e2⟩ := v_exE (E := E_X6_quotient_L16 K a0) hf hE
      rw [e1, e2]
      exact v_sub [(0, .ref a0)] [0] rfl hX
    · refine v_at 20 rfl ?_
      refine v_aload_n hC 0 dX6_quotient_20 rfl ?_
      refine v_getR hC (host := "") hf fd_6_4 w_662 dX6_quotient_21 (fun r6 hf => ?_)
      refine v_ldc hC dX6_quotient_24 w_755 ?_
      refine v_iload_n hC 1 dX6_quotient_26 rfl ?_
      refine v_iadd hC dX6_quotient_27 ?_
      refine v_aload_n hC 0 dX6_quotient_28 rfl ?_
      refine v_aload_n hC 0 dX6_quotient_29 rfl ?_
      refine v_getR hC (host := "") hf fd_6_4 w_662 dX6_quotient_30 (fun r7 hf => ?_)
      refine v_at 33 rfl ?_
      refine v_iconst (v := 0) hC dX6_quotient_33 (by decide) ?_
      refine v_iload_n hC 1 dX6_quotient_34 rfl ?_
      refine v_iadd hC dX6_quotient_35 ?_
      refine v_ldI hC hf dX6_quotient_36 (fun x8 hf => ?_)
      refine v_cVE hC (y := y_X6_step) (ci := 6) [.int x8] [.int (34000 + i1), .ref r6] (fun r => some (.int r)) (fun r => .int r :: [.int (34000 + i1), .ref r6]) hf (fun _ _ _ _ h => m_X6_step h) rfl (fun _ => rfl) rfl rfl hR (Nat.le_of_ble_eq_true rfl) (Nat.le_of_ble_eq_true rfl) w_776 w_773 w_775 w_37 w_64 nm_X6_step rfl (Nat.le_of_ble_eq_true rfl) dX6_quotient_37 (fun x9 σ10 _ _ hf => ?_)
      refine v_stI hC hf dX6_quotient_40 (fun σ11 hf => ?_)
      refine v_incL hC hf 1 (fun x12 => [(1, .int x12), (0, .ref a0)]) dX6_quotient_41 rfl (by decide) hN (Nat.le_of_ble_eq_true rfl) (fun _ => rfl) (fun x12 hf => ?_)
      refine v_goto (tgt := 16) hC dX6_quotient_44 (by decide) ?_
      exact v_sub [(0, .ref a0), (1, .int x12)] [1, 0] rfl (ih _ _ _ _ _ _ _ hf hE)
set_option maxHeartbeats 4000000 in
set_option maxRecDepth 100000 in
theorem m_X6_quotient {G : Gm} {l : Launch} {σ : St} {a0 : Nat} {r : Unit} {σf : St} {k s : Nat} (hf : f_X6_quotient σ a0 = some (r, σf, k, s)) : (∃ fs : List Value, σ.1 a0 = some (.inr (.inl (6, fs)))) ∧ Ct G l y_X6_quotient prog_8_method_17_code 2 none 3 70 [.ref a0] σ none σf k s := by
  unfold f_X6_quotient at hf
  obtain ⟨hob, hf⟩ := ob_some hf
  refine ⟨hob, Ct.ofV pl_X6_quotient (Nat.le_of_ble_eq_true rfl) ?_⟩
  intro K hR hN hnm hC hE
  show V K (k + 0) (s + 0) σ 0 [(0, .ref a0)] []
  refine v_aload_n hC 0 dX6_quotient_0 rfl ?_
  refine v_getR hC (host := "") hf fd_6_5 w_663 dX6_quotient_1 (fun r1 hf => ?_)
  refine v_iconst (v := 3) hC dX6_quotient_4 (by decide) ?_
  refine v_iconst (v := 0) hC dX6_quotient_5 (by decide) ?_
  refine v_stI hC hf dX6_quotient_6 (fun σ2 hf => ?_)
  refine v_aload_n hC 0 dX6_quotient_7 rfl ?_
  refine v_getR hC (host := "") hf fd_6_5 w_663 dX6_quotient_8 (fun r3 hf => ?_)
  refine v_iconst (v := 0) hC dX6_quotient_11 (by decide) ?_
  refine v_at 12 rfl ?_
  refine v_ldI hC hf dX6_quotient_12 (fun x4 hf => ?_)
  refine v_iconst (v := 1) hC dX6_quotient_13 (by decide) ?_
  refine v_isub hC dX6_quotient_14 ?_
  refine v_ltI hf (fun x5 hf => ?_)
  refine v_istore_n hC [(1, .int x5), (0, .ref a0)] dX6_quotient_15 rfl hN (Nat.le_of_ble_eq_true rfl) rfl ?_
  refine v_at 16 rfl ?_
  refine v_sub [(0, .ref a0), (1, .int x5)] [1, 0] rfl ?_
  refine v_lpE hf (E_X6_quotient_L16 K a0) (fun _ _ _ _ _ _ h hE => v_X6_quotient_L16 hC hR hN _ _ _ _ _ _ _ _ h hE) (fun y13 σ14 _ _ hf => ?_)
  show V K _ _ σ14 47 [(0, .ref a0)] []
  refine v_aload_n hC 0 dX6_quotient_47 rfl ?_
  refine v_iconst (v := 2) hC dX6_quotient_48 (by decide) ?_
  refine v_aload_n hC 0 dX6_quotient_49 rfl ?_
  refine v_getR hC (host := "") hf fd_6_5 w_663 dX6_quotient_50 (fun r15 hf => ?_)
  refine v_iconst (v := 0) hC dX6_quotient_53 (by decide) ?_
  refine v_ldI hC hf dX6_quotient_54 (fun x16 hf => ?_)
  refine v_cVE hC (y := y_X6_trim) (ci := 6) [.int 2, .int x16] [] (fun _ => none) (fun _ => []) hf (fun _ _ _ _ h => m_X6_trim h) rfl (fun _ => rfl) rfl rfl hR (Nat.le_of_ble_eq_true rfl) (Nat.le_of_ble_eq_true rfl) w_734 w_731 w_733 w_32 w_64 nm_X6_trim rfl (Nat.le_of_ble_eq_true rfl) dX6_quotient_55 (fun _ σ17 _ _ hf => ?_)
  refine v_aload_n hC 0 dX6_quotient_58 rfl ?_
  refine v_at 59 rfl ?_
  refine v_cVE hC (y := y_X6_judge) (ci := 6) [] [] (fun _ => none) (fun _ => []) hf (fun _ _ _ _ h => m_X6_judge h) rfl (fun _ => rfl) rfl rfl hR (Nat.le_of_ble_eq_true rfl) (Nat.le_of_ble_eq_true rfl) w_781 w_778 w_780 w_38 w_64 nm_X6_judge rfl (Nat.le_of_ble_eq_true rfl) dX6_quotient_59 (fun _ σ18 _ _ hf => ?_)
  exact v_retV hC hf hE dX6_quotient_62
set_option maxHeartbeats 4000000 in
set_option maxRecDepth 100000 in
theorem m_X6_goesUp {G : Gm} {l : Launch} {σ : St} {a0 : Nat} {i1 : Int32} {i2 : Int32} {i3 : Int32} {r : Int32} (hf : f_X6_goesUp σ a0 i1 i2 i3 = some r) : (∃ fs : List Value, σ.1 a0 = some (.inr (.inl (6, fs)))) ∧ Ct G l y_X6_goesUp prog_8_method_19_code 6 (some .boolean) 0 0 [.ref a0, .int i1, .int i2, .int i3] σ (some (.int r)) σ 0 0 := by
  unfold f_X6_goesUp at hf
  obtain ⟨hob, hf⟩ := ob_some hf
  refine ⟨hob, Ct.ofV pl_X6_goesUp (Nat.le_of_ble_eq_true rfl) ?_⟩
  intro K hR hN hnm hC hE
  show V K 0 0 σ 0 [(0, .ref a0), (1, .int i1), (2, .int i2), (3, .int i3)] []
  refine v_aload_n hC 0 dX6_goesUp_0 rfl ?_
  refine v_getR hC (host := "") hf fd_6_5 w_663 dX6_goesUp_1 (fun r1 hf => ?_)
  refine v_iload_n hC 1 dX6_goesUp_4 rfl ?_
  refine v_ldI hC hf dX6_goesUp_5 (fun x2 hf => ?_)
  refine v_jnP hf (fun z3 => V K 0 0 σ 30 [(0, .ref a0), (2, .int i2), (3, .int i3)] [.int z3]) (fun z3 hf => ?_) (fun k3 hk3 hf => ?_)
  · refine v_istore hC [(4, .int z3), (0, .ref a0), (2, .int i2), (3, .int i3)] dX6_goesUp_30 hN (Nat.le_of_ble_eq_true rfl) rfl ?_
    refine v_iload_n hC 3 dX6_goesUp_32 rfl ?_
    refine v_jnP hf (fun z4 => V K 0 0 σ 104 [(0, .ref a0)] [.int z4]) (fun z4 hf => ?_) (fun k4 hk4 hf => ?_)
    · refine v_istore hC [(5, .int z4), (0, .ref a0)] dX6_goesUp_104 hN (Nat.le_of_ble_eq_true rfl) rfl ?_
      refine v_aload_n hC 1 dX6_goesUp_106 rfl ?_
      refine v_getI hC (host := "") hf fd_6_6 w_664 dX6_goesUp_107 (fun x5 hf => ?_)
      refine v_if_le hC hf dX6_goesUp_110 (tgt := 122) (by decide) (fun hf => ?_) (fun hf => ?_)
      · refine v_iconst (v := 0) hC dX6_goesUp_122 (by decide) ?_
        exact v_retZP hC hf hE dX6_goesUp_123
      · refine v_at 113 rfl ?_
        refine v_iload hC 0 dX6_goesUp_113 rfl ?_
        refine v_if_eq hC hf dX6_goesUp_115 (tgt := 122) (by decide) (fun hf => ?_) (fun hf => ?_)
        · refine v_iconst (v := 0) hC dX6_goesUp_122 (by decide) ?_
          exact v_retZP hC hf hE dX6_goesUp_123
        · refine v_at 118 rfl ?_
          refine v_iconst (v := 1) hC dX6_goesUp_118 (by decide) ?_
          refine v_goto (tgt := 123) hC dX6_goesUp_119 (by decide) ?_
          exact v_retZP hC hf hE dX6_goesUp_123
    · refine v_jnP hf (fun z6 => V K 0 0 σ 99 [(0, .ref a0)] []) (fun z6 hf => ?_) (fun k6 hk6 hf => ?_)
      · refine v_iconst (v := 1) hC dX6_goesUp_99 (by decide) ?_
        refine v_goto (tgt := 104) hC dX6_goesUp_100 (by decide) ?_
        exact v_sub [(0, .ref a0)] [0] rfl (hk4 _ hf)
      · refine v_if_eq hC hf dX6_goesUp_33 (tgt := 99) (by decide) (fun hf => ?_) (fun hf => ?_)
        · exact v_sub [(0, .ref a0)] [1] rfl (hk6 _ hf)
        · refine v_at 36 rfl ?_
          refine v_iload_n hC 3 dX6_goesUp_36 rfl ?_
          refine v_iconst (v := 2) hC dX6_goesUp_37 (by decide) ?_
          refine v_jnP hf (fun z7 => V K 0 0 σ 45 [(0, .ref a0), (2, .int i2), (3, .int i3), (4, .int z3)] []) (fun z7 hf => ?_) (fun k7 hk7 hf => ?_)
          · refine v_iload_n hC 2 dX6_goesUp_45 rfl ?_
            refine v_iconst (v := 3) hC dX6_goesUp_46 (by decide) ?_
            refine v_jnP hf (fun z8 => V K 0 0 σ 54 [(0, .ref a0), (3, .int i3), (4, .int z3)] []) (fun z8 hf => ?_) (fun k8 hk8 hf => ?_)
            · refine v_iload_n hC 1 dX6_goesUp_54 rfl ?_
              refine v_iconst (v := 4) hC dX6_goesUp_55 (by decide) ?_
              refine v_jnP hf (fun z9 => V K 0 0 σ 67 [(0, .ref a0), (3, .int i3), (4, .int z3)] []) (fun z9 hf => ?_) (fun k9 hk9 hf => ?_)
              · refine v_iload_n hC 1 dX6_goesUp_67 rfl ?_
                refine v_iconst (v := 4) hC dX6_goesUp_68 (by decide) ?_
                refine v_jnP hf (fun z10 => V K 0 0 σ 80 [(0, .ref a0), (3, .int i3), (4, .int z3)] []) (fun z10 hf => ?_) (fun k10 hk10 hf => ?_)
                · refine v_iload_n hC 1 dX6_goesUp_80 rfl ?_
                  refine v_bipush (v := 6) hC dX6_goesUp_81 (by decide) ?_
                  refine v_jnP hf (fun z11 => V K 0 0 σ 103 [(0, .ref a0)] []) (fun z11 hf => ?_) (fun k11 hk11 hf => ?_)
                  · refine v_iconst (v := 0) hC dX6_goesUp_103 (by decide) ?_
                    refine v_at 104 rfl ?_
                    exact v_sub [(0, .ref a0)] [0] rfl (hk4 _ hf)
                  · refine v_icmp_ne hC hf dX6_goesUp_83 (tgt := 103) (by decide) (fun hf => ?_) (fun hf => ?_)
                    · exact v_sub [(0, .ref a0)] [0] rfl (hk11 _ hf)
                    · refine v_at 86 rfl ?_
                      refine v_aload_n hC 0 dX6_goesUp_86 rfl ?_
                      refine v_getI hC (host := "") hf fd_6_6 w_664 dX6_goesUp_87 (fun x12 hf => ?_)
                      refine v_iconst (v := 2) hC dX6_goesUp_90 (by decide) ?_
                      refine v_icmp_ne hC hf dX6_goesUp_91 (tgt := 103) (by decide) (fun hf => ?_) (fun hf => ?_)
                      · exact v_sub [(0, .ref a0)] [0] rfl (hk11 _ hf)
                      · refine v_at 94 rfl ?_
                        refine v_iload hC 2 dX6_goesUp_94 rfl ?_
                        refine v_if_eq hC hf dX6_goesUp_96 (tgt := 103) (by decide) (fun hf => ?_) (fun hf => ?_)
                        · exact v_sub [(0, .ref a0)] [0] rfl (hk11 _ hf)
                        · refine v_at 99 rfl ?_
                          exact v_sub [(0, .ref a0)] [0] rfl (hk6 _ hf)
                · refine v_icmp_le hC hf dX6_goesUp_69 (tgt := 80) (by decide) (fun hf => ?_) (fun hf => ?_)
                  · exact v_sub [(0, .ref a0), (3, .int i3), (4, .int z3)] [0, 1, 2] rfl (hk10 _ hf)
                  · refine v_at 72 rfl ?_
                    refine v_aload_n hC 0 dX6_goesUp_72 rfl ?_
                    refine v_getI hC (host := "") hf fd_6_6 w_664 dX6_goesUp_73 (fun x13 hf => ?_)
                    refine v_iconst (v := 2) hC dX6_goesUp_76 (by decide) ?_
                    refine v_icmp_gt hC hf dX6_goesUp_77 (tgt := 99) (by decide) (fun hf => ?_) (fun hf => ?_)
                    · exact v_sub [(0, .ref a0)] [0] rfl (hk6 _ hf)
                    · refine v_at 80 rfl ?_
                      exact v_sub [(0, .ref a0), (3, .int i3), (4, .int z3)] [0, 1, 2] rfl (hk10 _ hf)
              · refine v_icmp_ne hC hf dX6_goesUp_56 (tgt := 67) (by decide) (fun hf => ?_) (fun hf => ?_)
                · exact v_sub [(0, .ref a0), (3, .int i3), (4, .int z3)] [0, 1, 2] rfl (hk9 _ hf)
                · refine v_at 59 rfl ?_
                  refine v_aload_n hC 0 dX6_goesUp_59 rfl ?_
                  refine v_getI hC (host := "") hf fd_6_6 w_664 dX6_goesUp_60 (fun x14 hf => ?_)
                  refine v_iconst (v := 1) hC dX6_goesUp_63 (by decide) ?_
                  refine v_icmp_gt hC hf dX6_goesUp_64 (tgt := 99) (by decide) (fun hf => ?_) (fun hf => ?_)
                  · exact v_sub [(0, .ref a0)] [0] rfl (hk6 _ hf)
                  · refine v_at 67 rfl ?_
                    exact v_sub [(0, .ref a0), (3, .int i3), (4, .int z3)] [0, 1, 2] rfl (hk9 _ hf)
            · refine v_icmp_ne hC hf dX6_goesUp_47 (tgt := 54) (by decide) (fun hf => ?_) (fun hf => ?_)
              · exact v_sub [(0, .ref a0), (3, .int i3), (4, .int z3)] [0, 2, 3] rfl (hk8 _ hf)
              · refine v_at 50 rfl ?_
                refine v_iload_n hC 1 dX6_goesUp_50 rfl ?_
                refine v_if_lt hC hf dX6_goesUp_51 (tgt := 99) (by decide) (fun hf => ?_) (fun hf => ?_)
                · exact v_sub [(0, .ref a0)] [0] rfl (hk6 _ hf)
                · refine v_at 54 rfl ?_
                  exact v_sub [(0, .ref a0), (3, .int i3), (4, .int z3)] [0, 2, 3] rfl (hk8 _ hf)
          · refine v_icmp_ne hC hf dX6_goesUp_38 (tgt := 45) (by decide) (fun hf => ?_) (fun hf => ?_)
            · exact v_sub [(0, .ref a0), (2, .int i2), (3, .int i3), (4, .int z3)] [1, 2, 3, 0] rfl (hk7 _ hf)
            · refine v_at 41 rfl ?_
              refine v_iload_n hC 2 dX6_goesUp_41 rfl ?_
              refine v_if_gt hC hf dX6_goesUp_42 (tgt := 99) (by decide) (fun hf => ?_) (fun hf => ?_)
              · exact v_sub [(0, .ref a0)] [1] rfl (hk6 _ hf)
              · refine v_at 45 rfl ?_
                exact v_sub [(0, .ref a0), (2, .int i2), (3, .int i3), (4, .int z3)] [1, 2, 3, 0] rfl (hk7 _ hf)
  · refine v_jnP hf (fun z15 => V K 0 0 σ 29 [(0, .ref a0), (2, .int i2), (3, .int i3)] []) (fun z15 hf => ?_) (fun k15 hk15 hf => ?_)
    · refine v_iconst (v := 0) hC dX6_goesUp_29 (by decide) ?_
      refine v_at 30 rfl ?_
      exact v_sub [(0, .ref a0), (2, .int i2), (3, .int i3)] [0, 1, 2] rfl (hk3 _ hf)
    · refine v_if_le hC hf dX6_goesUp_6 (tgt := 29) (by decide) (fun hf => ?_) (fun hf => ?_)
      · exact v_sub [(0, .ref a0), (2, .int i2), (3, .int i3)] [0, 2, 3] rfl (hk15 _ hf)
      · refine v_at 9 rfl ?_
        refine v_aload_n hC 0 dX6_goesUp_9 rfl ?_
        refine v_getR hC (host := "") hf fd_6_4 w_662 dX6_goesUp_10 (fun r16 hf => ?_)
        refine v_sipush (v := 17000) hC dX6_goesUp_13 (by decide) ?_
        refine v_iload_n hC 1 dX6_goesUp_16 rfl ?_
        refine v_imul hC dX6_goesUp_17 ?_
        refine v_ldI hC hf dX6_goesUp_18 (fun x17 hf => ?_)
        refine v_iconst (v := 2) hC dX6_goesUp_19 (by decide) ?_
        refine v_irem hC hf dX6_goesUp_20 (fun x18 hf => ?_)
        refine v_at 21 rfl ?_
        refine v_iconst (v := 1) hC dX6_goesUp_21 (by decide) ?_
        refine v_icmp_ne hC hf dX6_goesUp_22 (tgt := 29) (by decide) (fun hf => ?_) (fun hf => ?_)
        · exact v_sub [(0, .ref a0), (2, .int i2), (3, .int i3)] [0, 2, 3] rfl (hk15 _ hf)
        · refine v_at 25 rfl ?_
          refine v_iconst (v := 1) hC dX6_goesUp_25 (by decide) ?_
          refine v_goto (tgt := 30) hC dX6_goesUp_26 (by decide) ?_
          exact v_sub [(0, .ref a0), (2, .int i2), (3, .int i3)] [0, 2, 3] rfl (hk3 _ hf)
set_option maxHeartbeats 4000000 in
set_option maxRecDepth 100000 in
theorem m_X6_finish {G : Gm} {l : Launch} {σ : St} {a0 : Nat} {i1 : Int32} {i2 : Int32} {i3 : Int32} {j4 : Int64} {i6 : Int32} {r : Int32} {σf : St} {k s : Nat} (hf : f_X6_finish σ a0 i1 i2 i3 j4 i6 = some (r, σf, k, s)) : (∃ fs : List Value, σ.1 a0 = some (.inr (.inl (6, fs)))) ∧ Ct G l y_X6_finish prog_8_method_20_code 7 (some .boolean) 1 26 [.ref a0, .int i1, .int i2, .int i3, .long j4, .int i6] σ (some (.int r)) σf k s := by
  unfold f_X6_finish at hf
  obtain ⟨hob, hf⟩ := ob_some hf
  refine ⟨hob, Ct.ofV pl_X6_finish (Nat.le_of_ble_eq_true rfl) ?_⟩
  intro K hR hN hnm hC hE
  show V K (k + 0) (s + 0) σ 0 [(0, .ref a0), (1, .int i1), (2, .int i2), (3, .int i3), (4, .long j4), (6, .int i6)] []
  refine v_aload_n hC 0 dX6_finish_0 rfl ?_
  refine v_getI hC (host := "") hf fd_6_6 w_664 dX6_finish_1 (fun x1 hf => ?_)
  refine v_jnE hf (fun z2 kr sr => V K (kr + 0) (sr + 0) σ 16 [(0, .ref a0), (1, .int i1), (2, .int i2), (3, .int i3), (4, .long j4), (6, .int i6)] []) (fun z2 _ _ hf => ?_) (fun k2 hk2 hf => ?_)
  · refine v_aload_n hC 0 dX6_finish_16 rfl ?_
    refine v_iload_n hC 2 dX6_finish_17 rfl ?_
    refine v_iload_n hC 3 dX6_finish_18 rfl ?_
    refine v_iload hC 5 dX6_finish_19 rfl ?_
    refine v_cVP hC (y := y_X6_goesUp) (ci := 6) [.int i2, .int i3, .int i6] [] (fun r => some (.int r)) (fun r => .int r :: []) hf (fun _ h => m_X6_goesUp h) rfl (fun _ => rfl) rfl rfl hR (Nat.le_of_ble_eq_true rfl) (Nat.le_of_ble_eq_true rfl) w_789 w_786 w_788 w_40 w_64 nm_X6_goesUp rfl (Nat.le_of_ble_eq_true rfl) dX6_finish_21 (fun x3 hf => ?_)
    refine v_jnE hf (fun z4 kr sr => V K (kr + 0) (sr + 0) z4 32 [(0, .ref a0), (1, .int i1), (2, .int i2), (3, .int i3), (4, .long j4)] []) (fun z4 _ _ hf => ?_) (fun k4 hk4 hf => ?_)
    · refine v_aload_n hC 0 dX6_finish_32 rfl ?_
      refine v_iload_n hC 1 dX6_finish_33 rfl ?_
      refine v_iload_n hC 2 dX6_finish_34 rfl ?_
      refine v_iload_n hC 3 dX6_finish_35 rfl ?_
      refine v_lload hC 4 dX6_finish_36 rfl ?_
      refine v_cVE hC (y := y_X6_store) (ci := 6) [.int i1, .int i2, .int i3, .long j4] [] (fun r => some (.int r)) (fun r => .int r :: []) hf (fun _ _ _ _ h => m_X6_store h) rfl (fun _ => rfl) rfl rfl hR (Nat.le_of_ble_eq_true rfl) (Nat.le_of_ble_eq_true rfl) w_703 w_700 w_702 w_27 w_64 nm_X6_store rfl (Nat.le_of_ble_eq_true rfl) dX6_finish_38 (fun x5 σ6 _ _ hf => ?_)
      exact v_retZ hC hf hE dX6_finish_41
    · refine v_if_eq hC hf dX6_finish_24 (tgt := 32) (by decide) (fun hf => ?_) (fun hf => ?_)
      · exact v_sub [(0, .ref a0), (1, .int i1), (2, .int i2), (3, .int i3), (4, .long j4)] [0, 1, 2, 3, 4] rfl (hk4 _ _ _ hf)
      · refine v_at 27 rfl ?_
        refine v_aload_n hC 0 dX6_finish_27 rfl ?_
        refine v_iload_n hC 2 dX6_finish_28 rfl ?_
        refine v_cVE hC (y := y_X6_one) (ci := 6) [.int i2] [] (fun _ => none) (fun _ => []) hf (fun _ _ _ _ h => m_X6_one h) rfl (fun _ => rfl) rfl rfl hR (Nat.le_of_ble_eq_true rfl) (Nat.le_of_ble_eq_true rfl) w_793 w_790 w_792 w_41 w_64 nm_X6_one rfl (Nat.le_of_ble_eq_true rfl) dX6_finish_29 (fun _ σ7 _ _ hf => ?_)
        refine v_at 32 rfl ?_
        exact v_sub [(0, .ref a0), (1, .int i1), (2, .int i2), (3, .int i3), (4, .long j4)] [0, 1, 2, 3, 4] rfl (hk4 _ _ _ hf)
  · refine v_if_le hC hf dX6_finish_4 (tgt := 16) (by decide) (fun hf => ?_) (fun hf => ?_)
    · exact v_sub [(0, .ref a0), (1, .int i1), (2, .int i2), (3, .int i3), (4, .long j4), (6, .int i6)] [0, 1, 2, 3, 4, 5] rfl (hk2 _ _ _ hf)
    · refine v_at 7 rfl ?_
      refine v_iload hC 5 dX6_finish_7 rfl ?_
      refine v_bipush (v := 7) hC dX6_finish_9 (by decide) ?_
      refine v_icmp_ne hC hf dX6_finish_11 (tgt := 16) (by decide) (fun hf => ?_) (fun hf => ?_)
      · exact v_sub [(0, .ref a0), (1, .int i1), (2, .int i2), (3, .int i3), (4, .long j4), (6, .int i6)] [0, 1, 2, 3, 4, 5] rfl (hk2 _ _ _ hf)
      · refine v_at 14 rfl ?_
        refine v_iconst (v := 0) hC dX6_finish_14 (by decide) ?_
        exact v_retZ hC hf hE dX6_finish_15
