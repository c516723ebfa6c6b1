set_option maxHeartbeats 4000000 in
set_option maxRecDepth 100000 in
theorem m_X6_finishTo {G : Gm} {l : Launch} {σ : St} {a0 : Nat} {i1 : Int32} {i2 : Int32} {i3 : Int32} {j4 : Int64} {i6 : Int32} {i7 : Int32} {r : Int32} {σf : St} {k s : Nat} (hf : f_X6_finishTo σ a0 i1 i2 i3 j4 i6 i7 = some (r, σf, k, s)) : (∃ fs : List Value, σ.1 a0 = some (.inr (.inl (6, fs)))) ∧ Ct G l y_X6_finishTo prog_8_method_21_code 10 (some .boolean) 1 27 [.ref a0, .int i1, .int i2, .int i3, .long j4, .int i6, .int i7] σ (some (.int r)) σf k s := by
  unfold f_X6_finishTo at hf
  obtain ⟨hob, hf⟩ := ob_some hf
  refine ⟨hob, Ct.ofV pl_X6_finishTo (Nat.le_of_ble_eq_true rfl) ?_⟩
  intro K hR hN hnm hC hE
  show V K (k + 0) (s + 0) σ 0 [(0, .ref a0), (1, .int i1), (2, .int i2), (3, .int i3), (4, .long j4), (6, .int i6), (7, .int i7)] []
  refine v_aload_n hC 0 dX6_finishTo_0 rfl ?_
  refine v_getI hC (host := "") hf fd_6_6 w_664 dX6_finishTo_1 (fun x1 hf => ?_)
  refine v_jnE hf (fun z2 kr sr => V K (kr + 0) (sr + 0) σ 16 [(0, .ref a0), (1, .int i1), (2, .int i2), (3, .int i3), (4, .long j4), (6, .int i6), (7, .int i7)] []) (fun z2 _ _ hf => ?_) (fun k2 hk2 hf => ?_)
  · refine v_aload_n hC 0 dX6_finishTo_16 rfl ?_
    refine v_iload_n hC 2 dX6_finishTo_17 rfl ?_
    refine v_iload_n hC 3 dX6_finishTo_18 rfl ?_
    refine v_iload hC 5 dX6_finishTo_19 rfl ?_
    refine v_cVP hC (y := y_X6_goesUp) (ci := 6) [.int i2, .int i3, .int i6] [] (fun r => some (.int r)) (fun r => .int r :: []) hf (fun _ h => m_X6_goesUp h) rfl (fun _ => rfl) rfl rfl hR (Nat.le_of_ble_eq_true rfl) (Nat.le_of_ble_eq_true rfl) w_789 w_786 w_788 w_40 w_64 nm_X6_goesUp rfl (Nat.le_of_ble_eq_true rfl) dX6_finishTo_21 (fun x3 hf => ?_)
    refine v_jnE hf (fun z4 kr sr => V K (kr + 0) (sr + 0) z4 32 [(0, .ref a0), (1, .int i1), (2, .int i2), (3, .int i3), (4, .long j4), (7, .int i7)] []) (fun z4 _ _ hf => ?_) (fun k4 hk4 hf => ?_)
    · refine v_lload hC 4 dX6_finishTo_32 rfl ?_
      refine v_lstore hC [(8, .long j4), (0, .ref a0), (1, .int i1), (2, .int i2), (3, .int i3), (4, .long j4), (7, .int i7)] dX6_finishTo_34 hN (Nat.le_of_ble_eq_true rfl) rfl ?_
      refine v_aload_n hC 1 dX6_finishTo_36 rfl ?_
      refine v_getR hC (host := "") hf fd_6_5 w_663 dX6_finishTo_37 (fun r5 hf => ?_)
      refine v_iload_n hC 3 dX6_finishTo_40 rfl ?_
      refine v_ldI hC hf dX6_finishTo_41 (fun x6 hf => ?_)
      refine v_iload hC 6 dX6_finishTo_42 rfl ?_
      refine v_jnE hf (fun z7 kr sr => V K (kr + 0) (sr + 0) z7.2 59 [(0, .ref a0), (1, .int i1), (2, .int i2), (3, .int i3), (8, .long z7.1)] []) (fun z7 _ _ hf => ?_) (fun k7 hk7 hf => ?_)
      · refine v_aload_n hC 0 dX6_finishTo_59 rfl ?_
        refine v_iload_n hC 1 dX6_finishTo_60 rfl ?_
        refine v_iload_n hC 2 dX6_finishTo_61 rfl ?_
        refine v_iload_n hC 3 dX6_finishTo_62 rfl ?_
        refine v_lload hC 4 dX6_finishTo_63 rfl ?_
        refine v_cVE hC (y := y_X6_store) (ci := 6) [.int i1, .int i2, .int i3, .long z7.1] [] (fun r => some (.int r)) (fun r => .int r :: []) hf (fun _ _ _ _ h => m_X6_store h) rfl (fun _ => rfl) rfl rfl hR (Nat.le_of_ble_eq_true rfl) (Nat.le_of_ble_eq_true rfl) w_703 w_700 w_702 w_27 w_64 nm_X6_store rfl (Nat.le_of_ble_eq_true rfl) dX6_finishTo_65 (fun x8 σ9 _ _ hf => ?_)
        exact v_retZ hC hf hE dX6_finishTo_68
      · refine v_icmp_le hC hf dX6_finishTo_44 (tgt := 59) (by decide) (fun hf => ?_) (fun hf => ?_)
        · exact v_sub [(0, .ref a0), (1, .int i1), (2, .int i2), (3, .int i3), (8, .long j4)] [1, 2, 3, 4, 0] rfl (hk7 _ _ _ hf)
        · refine v_at 47 rfl ?_
          refine v_aload_n hC 1 dX6_finishTo_47 rfl ?_
          refine v_iload_n hC 3 dX6_finishTo_48 rfl ?_
          refine v_lconst (v := 1) hC dX6_finishTo_49 (by decide) ?_
          refine v_cVE hC (y := y_X6_lower) (ci := 6) [.int i2, .long 1] [] (fun _ => none) (fun _ => []) hf (fun _ _ _ _ h => m_X6_lower h) rfl (fun _ => rfl) rfl rfl hR (Nat.le_of_ble_eq_true rfl) (Nat.le_of_ble_eq_true rfl) w_808 w_805 w_807 w_43 w_64 nm_X6_lower rfl (Nat.le_of_ble_eq_true rfl) dX6_finishTo_50 (fun _ σ10 _ _ hf => ?_)
          refine v_lload hC 0 dX6_finishTo_53 rfl ?_
          refine v_lconst (v := 1) hC dX6_finishTo_55 (by decide) ?_
          refine v_lsub hC dX6_finishTo_56 ?_
          refine v_ltL hf (fun l11 hf => ?_)
          refine v_lstore hC [(8, .long l11), (0, .ref a0), (1, .int i1), (2, .int i2), (3, .int i3), (4, .long j4), (7, .int i7)] dX6_finishTo_57 hN (Nat.le_of_ble_eq_true rfl) rfl ?_
          refine v_at 59 rfl ?_
          exact v_sub [(0, .ref a0), (1, .int i1), (2, .int i2), (3, .int i3), (8, .long l11)] [1, 2, 3, 4, 0] rfl (hk7 _ _ _ hf)
    · refine v_if_eq hC hf dX6_finishTo_24 (tgt := 32) (by decide) (fun hf => ?_) (fun hf => ?_)
      · exact v_sub [(0, .ref a0), (1, .int i1), (2, .int i2), (3, .int i3), (4, .long j4), (7, .int i7)] [0, 1, 2, 3, 4, 6] rfl (hk4 _ _ _ hf)
      · refine v_at 27 rfl ?_
        refine v_aload_n hC 0 dX6_finishTo_27 rfl ?_
        refine v_iload_n hC 2 dX6_finishTo_28 rfl ?_
        refine v_cVE hC (y := y_X6_one) (ci := 6) [.int i2] [] (fun _ => none) (fun _ => []) hf (fun _ _ _ _ h => m_X6_one h) rfl (fun _ => rfl) rfl rfl hR (Nat.le_of_ble_eq_true rfl) (Nat.le_of_ble_eq_true rfl) w_793 w_790 w_792 w_41 w_64 nm_X6_one rfl (Nat.le_of_ble_eq_true rfl) dX6_finishTo_29 (fun _ σ12 _ _ hf => ?_)
        refine v_at 32 rfl ?_
        exact v_sub [(0, .ref a0), (1, .int i1), (2, .int i2), (3, .int i3), (4, .long j4), (7, .int i7)] [0, 1, 2, 3, 4, 6] rfl (hk4 _ _ _ hf)
  · refine v_if_le hC hf dX6_finishTo_4 (tgt := 16) (by decide) (fun hf => ?_) (fun hf => ?_)
    · exact v_sub [(0, .ref a0), (1, .int i1), (2, .int i2), (3, .int i3), (4, .long j4), (6, .int i6), (7, .int i7)] [0, 1, 2, 3, 4, 5, 6] rfl (hk2 _ _ _ hf)
    · refine v_at 7 rfl ?_
      refine v_iload hC 5 dX6_finishTo_7 rfl ?_
      refine v_bipush (v := 7) hC dX6_finishTo_9 (by decide) ?_
      refine v_icmp_ne hC hf dX6_finishTo_11 (tgt := 16) (by decide) (fun hf => ?_) (fun hf => ?_)
      · exact v_sub [(0, .ref a0), (1, .int i1), (2, .int i2), (3, .int i3), (4, .long j4), (6, .int i6), (7, .int i7)] [0, 1, 2, 3, 4, 5, 6] rfl (hk2 _ _ _ hf)
      · refine v_at 14 rfl ?_
        refine v_iconst (v := 0) hC dX6_finishTo_14 (by decide) ?_
        exact v_retZ hC hf hE dX6_finishTo_15
def E_X6_put_L15 (K : Cq) (a0 : Nat) (i1 : Int32) (j2 : Int64) (i4 : Int32) (y : Int32) (σ : St) (kr sr : Nat) : Prop := V K kr sr σ 65 [(0, .ref a0), (1, .int i1), (2, .long j2), (4, .int i4), (7, .int y)] []
set_option maxHeartbeats 4000000 in
set_option maxRecDepth 100000 in
theorem v_X6_put_L15 {K : Cq} {k0 s0 : Nat} (hC : Cx K prog_8_method_22_code "TensMillModel") (hR : kR K = rmF 1 26 k0 s0) (hN : kn K = 9) {ko so : Nat} : ∀ (n : Nat) (σ : St) (a0 : Nat) (i1 : Int32) (j2 : Int64) (i4 : Int32) (j5 : Int64) (i7 : Int32) (y : Int32) (σf : St) (kr sr : Nat), f_X6_put_L15 n σ a0 i1 j2 i4 j5 i7 = some (y, σf, kr, sr) → E_X6_put_L15 K a0 i1 j2 i4 y σf ko so → V K (kr + ko) (sr + so) σ 15 [(0, .ref a0), (1, .int i1), (2, .long j2), (4, .int i4), (5, .long j5), (7, .int i7)] [] := by
  intro n
  induction n with
  | zero =>
    intro σ a0 i1 j2 i4 j5 i7 y σf kr sr hf hE
    cases hf
  | succ n ih =>
    intro σ a0 i1 j2 i4 j5 i7 y σf kr sr hf hE
    replace hf : b_X6_put_L15 (f_X6_put_L15 n) σ a0 i1 j2 i4 j5 i7 = some (y, σf, kr, sr) := hf
    unfold b_X6_put_L15 at hf
    refine v_lload hC 4 dX6_put_15 rfl ?_
    refine v_lconst (v := 0) hC dX6_put_17 (by decide) ?_
    refine v_lcmp_eq hC hf dX6_put_18 dX6_put_19 (tgt := 65) (by decide) (fun hf => ?_) (fun hf => ?_)
    · obtain ⟨hX, e1, e2⟩ := v_exE (E := E_X6_put_L15 K a0 i1 j2 i4) hf hE
      rw [e1, e2]
      exact v_sub [(0, .ref a0), (1, .int i1), (2, .long j2), (4, .int i4), (7, .int i7)] [0, 1, 2, 3, 5] rfl hX
    · refine v_at 22 rfl ?_
      refine v_lload hC 4 dX6_put_22 rfl ?_
      refine v_ldc2 hC dX6_put_24 w_699 ?_
      refine v_lrem hC hf dX6_put_27 (fun l2 hf => ?_)
      refine v_l2i hC dX6_put_28 ?_
      refine v_ltI hf (fun x3 hf => ?_)
      refine v_istore hC [(8, .int x3), (0, .ref a0), (1, .int i1), (2, .long j2), (4, .int i4), (5, .long j5), (7, .int i7)] dX6_put_29 hN (Nat.le_of_ble_eq_true rfl) rfl ?_
      refine v_aload_n hC 1 dX6_put_31 rfl ?_
      refine v_getR hC (host := "") hf fd_6_4 w_662 dX6_put_32 (fun r4 hf => ?_)
      refine v_iload hC 6 dX6_put_35 rfl ?_
      refine v_at 37 rfl ?_
      refine v_iload hC 0 dX6_put_37 rfl ?_
      refine v_jnE hf (fun z5 kr sr => V K (kr + ko) (sr + so) σ 50 [(0, .ref a0), (1, .int i1), (2, .long j2), (4, .int i4), (5, .long j5), (7, .int i7)] [.int z5, .int i7, .ref r4]) (fun z5 _ _ hf => ?_) (fun k5 hk5 hf => ?_)
      · refine v_stI hC hf dX6_put_50 (fun σ6 hf => ?_)
        refine v_lload hC 4 dX6_put_51 rfl ?_
        refine v_ldc2 hC dX6_put_53 w_699 ?_
        refine v_ldiv hC hf dX6_put_56 (fun l7 hf => ?_)
        refine v_lstore hC [(5, .long l7), (0, .ref a0), (1, .int i1), (2, .long j2), (4, .int i4), (7, .int i7)] dX6_put_57 hN (Nat.le_of_ble_eq_true rfl) rfl ?_
        refine v_incL hC hf 5 (fun x8 => [(7, .int x8), (5, .long l7), (0, .ref a0), (1, .int i1), (2, .long j2), (4, .int i4)]) dX6_put_59 rfl (by decide) hN (Nat.le_of_ble_eq_true rfl) (fun _ => rfl) (fun x8 hf => ?_)
        refine v_goto (tgt := 15) hC dX6_put_62 (by decide) ?_
        exact v_sub [(0, .ref a0), (1, .int i1), (2, .long j2), (4, .int i4), (5, .long l7), (7, .int x8)] [2, 3, 4, 5, 1, 0] rfl (ih _ _ _ _ _ _ _ _ _ _ _ hf hE)
      · refine v_if_ge hC hf dX6_put_39 (tgt := 48) (by decide) (fun hf => ?_) (fun hf => ?_)
        · refine v_iload hC 0 dX6_put_48 rfl ?_
          refine v_at 50 rfl ?_
          exact v_sub [(0, .ref a0), (1, .int i1), (2, .long j2), (4, .int i4), (5, .long j5), (7, .int i7)] [1, 2, 3, 4, 5, 6] rfl (hk5 _ _ _ hf)
        · refine v_at 42 rfl ?_
          refine v_iload hC 0 dX6_put_42 rfl ?_
          refine v_ineg hC dX6_put_44 ?_
          refine v_goto (tgt := 50) hC dX6_put_45 (by decide) ?_
          exact v_sub [(0, .ref a0), (1, .int i1), (2, .long j2), (4, .int i4), (5, .long j5), (7, .int i7)] [1, 2, 3, 4, 5, 6] rfl (hk5 _ _ _ hf)
set_option maxHeartbeats 4000000 in
set_option maxRecDepth 100000 in
theorem m_X6_put {G : Gm} {l : Launch} {σ : St} {a0 : Nat} {i1 : Int32} {j2 : Int64} {i4 : Int32} {r : Int32} {σf : St} {k s : Nat} (hf : f_X6_put σ a0 i1 j2 i4 = some (r, σf, k, s)) : (∃ fs : List Value, σ.1 a0 = some (.inr (.inl (6, fs)))) ∧ Ct G l y_X6_put prog_8_method_22_code 9 (some .boolean) 1 26 [.ref a0, .int i1, .long j2, .int i4] σ (some (.int r)) σf k s := by
  unfold f_X6_put at hf
  obtain ⟨hob, hf⟩ := ob_some hf
  refine ⟨hob, Ct.ofV pl_X6_put (Nat.le_of_ble_eq_true rfl) ?_⟩
  intro K hR hN hnm hC hE
  show V K (k + 0) (s + 0) σ 0 [(0, .ref a0), (1, .int i1), (2, .long j2), (4, .int i4)] []
  refine v_iload_n hC 1 dX6_put_0 rfl ?_
  refine v_cSP hC (y := y_X6_is) [.int i1] [] (fun r => some (.int r)) (fun r => .int r :: []) hf (fun _ h => m_X6_is h) rfl (fun _ => rfl) hR (Nat.le_of_ble_eq_true rfl) (Nat.le_of_ble_eq_true rfl) w_698 w_696 w_697 w_64 nm_X6_is rfl (Nat.le_of_ble_eq_true rfl) dX6_put_1 (fun x1 hf => ?_)
  refine v_if_ne hC hf dX6_put_4 (tgt := 9) (by decide) (fun hf => ?_) (fun hf => ?_)
  · refine v_lload_n hC 2 dX6_put_9 rfl ?_
    refine v_lstore hC [(5, .long j2), (0, .ref a0), (1, .int i1), (2, .long j2), (4, .int i4)] dX6_put_10 hN (Nat.le_of_ble_eq_true rfl) rfl ?_
    refine v_iconst (v := 0) hC dX6_put_12 (by decide) ?_
    refine v_istore hC [(7, .int 0), (5, .long j2), (0, .ref a0), (1, .int i1), (2, .long j2), (4, .int i4)] dX6_put_13 hN (Nat.le_of_ble_eq_true rfl) rfl ?_
    refine v_at 15 rfl ?_
    refine v_sub [(0, .ref a0), (1, .int i1), (2, .long j2), (4, .int i4), (5, .long j2), (7, .int 0)] [2, 3, 4, 5, 1, 0] rfl ?_
    refine v_lpE hf (E_X6_put_L15 K a0 i1 j2 i4) (fun _ _ _ _ _ _ h hE => v_X6_put_L15 hC hR hN _ _ _ _ _ _ _ _ _ _ _ _ h hE) (fun y9 σ10 _ _ hf => ?_)
    show V K _ _ σ10 65 [(0, .ref a0), (1, .int i1), (2, .long j2), (4, .int i4), (7, .int y9)] []
    refine v_aload_n hC 0 dX6_put_65 rfl ?_
    refine v_getR hC (host := "") hf fd_6_5 w_663 dX6_put_66 (fun r11 hf => ?_)
    refine v_iconst (v := 0) hC dX6_put_69 (by decide) ?_
    refine v_iload hC 4 dX6_put_70 rfl ?_
    refine v_stI hC hf dX6_put_72 (fun σ12 hf => ?_)
    refine v_aload_n hC 0 dX6_put_73 rfl ?_
    refine v_iload_n hC 1 dX6_put_74 rfl ?_
    refine v_iconst (v := 0) hC dX6_put_75 (by decide) ?_
    refine v_at 76 rfl ?_
    refine v_lload_n hC 2 dX6_put_76 rfl ?_
    refine v_lconst (v := 0) hC dX6_put_77 (by decide) ?_
    refine v_jnE hf (fun z13 kr sr => V K (kr + 0) (sr + 0) σ12 87 [(4, .int i4)] [.int z13, .int 0, .int i1, .ref a0]) (fun z13 _ _ hf => ?_) (fun k13 hk13 hf => ?_)
    · refine v_iload hC 0 dX6_put_87 rfl ?_
      refine v_i2l hC dX6_put_89 ?_
      refine v_cVE hC (y := y_X6_store) (ci := 6) [.int i1, .int 0, .int z13, .long ((i4 : Int32).toInt64)] [] (fun r => some (.int r)) (fun r => .int r :: []) hf (fun _ _ _ _ h => m_X6_store h) rfl (fun _ => rfl) rfl rfl hR (Nat.le_of_ble_eq_true rfl) (Nat.le_of_ble_eq_true rfl) w_703 w_700 w_702 w_27 w_64 nm_X6_store rfl (Nat.le_of_ble_eq_true rfl) dX6_put_90 (fun x14 σ15 _ _ hf => ?_)
      exact v_retZ hC hf hE dX6_put_93
    · refine v_lcmp_ge hC hf dX6_put_78 dX6_put_79 (tgt := 86) (by decide) (fun hf => ?_) (fun hf => ?_)
      · refine v_iconst (v := 1) hC dX6_put_86 (by decide) ?_
        refine v_at 87 rfl ?_
        exact v_sub [(4, .int i4)] [3] rfl (hk13 _ _ _ hf)
      · refine v_at 82 rfl ?_
        refine v_iconst (v := (-1)) hC dX6_put_82 (by decide) ?_
        refine v_goto (tgt := 87) hC dX6_put_83 (by decide) ?_
        exact v_sub [(4, .int i4)] [3] rfl (hk13 _ _ _ hf)
  · refine v_at 7 rfl ?_
    refine v_iconst (v := 0) hC dX6_put_7 (by decide) ?_
    exact v_retZ hC hf hE dX6_put_8
set_option maxHeartbeats 4000000 in
set_option maxRecDepth 100000 in
theorem m_X6_copy {G : Gm} {l : Launch} {σ : St} {a0 : Nat} {i1 : Int32} {i2 : Int32} {i3 : Int32} {r : Int32} {σf : St} {k s : Nat} (hf : f_X6_copy σ a0 i1 i2 i3 = some (r, σf, k, s)) : (∃ fs : List Value, σ.1 a0 = some (.inr (.inl (6, fs)))) ∧ Ct G l y_X6_copy prog_8_method_23_code 4 (some .boolean) 1 26 [.ref a0, .int i1, .int i2, .int i3] σ (some (.int r)) σf k s := by
  unfold f_X6_copy at hf
  obtain ⟨hob, hf⟩ := ob_some hf
  refine ⟨hob, Ct.ofV pl_X6_copy (Nat.le_of_ble_eq_true rfl) ?_⟩
  intro K hR hN hnm hC hE
  show V K (k + 0) (s + 0) σ 0 [(0, .ref a0), (1, .int i1), (2, .int i2), (3, .int i3)] []
  refine v_iload_n hC 1 dX6_copy_0 rfl ?_
  refine v_cSP hC (y := y_X6_is) [.int i1] [] (fun r => some (.int r)) (fun r => .int r :: []) hf (fun _ h => m_X6_is h) rfl (fun _ => rfl) hR (Nat.le_of_ble_eq_true rfl) (Nat.le_of_ble_eq_true rfl) w_698 w_696 w_697 w_64 nm_X6_is rfl (Nat.le_of_ble_eq_true rfl) dX6_copy_1 (fun x1 hf => ?_)
  refine v_if_eq hC hf dX6_copy_4 (tgt := 14) (by decide) (fun hf => ?_) (fun hf => ?_)
  · refine v_iconst (v := 0) hC dX6_copy_14 (by decide) ?_
    exact v_retZ hC hf hE dX6_copy_15
  · refine v_at 7 rfl ?_
    refine v_iload_n hC 2 dX6_copy_7 rfl ?_
    refine v_cSP hC (y := y_X6_is) [.int i2] [] (fun r => some (.int r)) (fun r => .int r :: []) hf (fun _ h => m_X6_is h) rfl (fun _ => rfl) hR (Nat.le_of_ble_eq_true rfl) (Nat.le_of_ble_eq_true rfl) w_698 w_696 w_697 w_64 nm_X6_is rfl (Nat.le_of_ble_eq_true rfl) dX6_copy_8 (fun x2 hf => ?_)
    refine v_if_ne hC hf dX6_copy_11 (tgt := 16) (by decide) (fun hf => ?_) (fun hf => ?_)
    · refine v_aload_n hC 0 dX6_copy_16 rfl ?_
      refine v_iconst (v := 0) hC dX6_copy_17 (by decide) ?_
      refine v_iload_n hC 2 dX6_copy_18 rfl ?_
      refine v_cVE hC (y := y_X6_load) (ci := 6) [.int 0, .int i2] [] (fun _ => none) (fun _ => []) hf (fun _ _ _ _ h => m_X6_load h) rfl (fun _ => rfl) rfl rfl hR (Nat.le_of_ble_eq_true rfl) (Nat.le_of_ble_eq_true rfl) w_713 w_710 w_712 w_28 w_64 nm_X6_load rfl (Nat.le_of_ble_eq_true rfl) dX6_copy_19 (fun _ σ3 _ _ hf => ?_)
      refine v_aload_n hC 0 dX6_copy_22 rfl ?_
      refine v_iload_n hC 1 dX6_copy_23 rfl ?_
      refine v_iconst (v := 0) hC dX6_copy_24 (by decide) ?_
      refine v_iload_n hC 3 dX6_copy_25 rfl ?_
      refine v_at 26 rfl ?_
      refine v_jnE hf (fun z4 kr sr => V K (kr + 0) (sr + 0) σ3 45 [(0, .ref a0), (2, .int i2)] [.int z4, .int 0, .int i1, .ref a0]) (fun z4 _ _ hf => ?_) (fun k4 hk4 hf => ?_)
      · refine v_aload_n hC 0 dX6_copy_45 rfl ?_
        refine v_getR hC (host := "") hf fd_6_3 w_661 dX6_copy_46 (fun r5 hf => ?_)
        refine v_iload_n hC 1 dX6_copy_49 rfl ?_
        refine v_ldI hC hf dX6_copy_50 (fun x6 hf => ?_)
        refine v_i2l hC dX6_copy_51 ?_
        refine v_cVE hC (y := y_X6_store) (ci := 6) [.int i1, .int 0, .int z4, .long ((x6 : Int32).toInt64)] [] (fun r => some (.int r)) (fun r => .int r :: []) hf (fun _ _ _ _ h => m_X6_store h) rfl (fun _ => rfl) rfl rfl hR (Nat.le_of_ble_eq_true rfl) (Nat.le_of_ble_eq_true rfl) w_703 w_700 w_702 w_27 w_64 nm_X6_store rfl (Nat.le_of_ble_eq_true rfl) dX6_copy_52 (fun x7 σ8 _ _ hf => ?_)
        exact v_retZ hC hf hE dX6_copy_55
      · refine v_if_eq hC hf dX6_copy_26 (tgt := 39) (by decide) (fun hf => ?_) (fun hf => ?_)
        · refine v_aload_n hC 0 dX6_copy_39 rfl ?_
          refine v_getR hC (host := "") hf fd_6_2 w_660 dX6_copy_40 (fun r9 hf => ?_)
          refine v_iload_n hC 2 dX6_copy_43 rfl ?_
          refine v_ldI hC hf dX6_copy_44 (fun x10 hf => ?_)
          refine v_at 45 rfl ?_
          exact v_sub [(0, .ref a0), (2, .int i2)] [0, 2] rfl (hk4 _ _ _ hf)
        · refine v_at 29 rfl ?_
          refine v_aload_n hC 0 dX6_copy_29 rfl ?_
          refine v_getR hC (host := "") hf fd_6_2 w_660 dX6_copy_30 (fun r11 hf => ?_)
          refine v_iload_n hC 2 dX6_copy_33 rfl ?_
          refine v_ldI hC hf dX6_copy_34 (fun x12 hf => ?_)
          refine v_ineg hC dX6_copy_35 ?_
          refine v_goto (tgt := 45) hC dX6_copy_36 (by decide) ?_
          exact v_sub [(0, .ref a0), (2, .int i2)] [0, 2] rfl (hk4 _ _ _ hf)
    · refine v_at 14 rfl ?_
      refine v_iconst (v := 0) hC dX6_copy_14 (by decide) ?_
      exact v_retZ hC hf hE dX6_copy_15
set_option maxHeartbeats 4000000 in
set_option maxRecDepth 100000 in
theorem m_X6_sum {G : Gm} {l : Launch} {σ : St} {a0 : Nat} {i1 : Int32} {i2 : Int32} {i3 : Int32} {i4 : Int32} {r : Int32} {σf : St} {k s : Nat} (hf : f_X6_sum σ a0 i1 i2 i3 i4 = some (r, σf, k, s)) : (∃ fs : List Value, σ.1 a0 = some (.inr (.inl (6, fs)))) ∧ Ct G l y_X6_sum prog_8_method_24_code 12 (some .boolean) 2 49 [.ref a0, .int i1, .int i2, .int i3, .int i4] σ (some (.int r)) σf k s := by
  unfold f_X6_sum at hf
  obtain ⟨hob, hf⟩ := ob_some hf
  refine ⟨hob, Ct.ofV pl_X6_sum (Nat.le_of_ble_eq_true rfl) ?_⟩
  intro K hR hN hnm hC hE
  show V K (k + 0) (s + 0) σ 0 [(0, .ref a0), (1, .int i1), (2, .int i2), (3, .int i3), (4, .int i4)] []
  refine v_iload_n hC 1 dX6_sum_0 rfl ?_
  refine v_cSP hC (y := y_X6_is) [.int i1] [] (fun r => some (.int r)) (fun r => .int r :: []) hf (fun _ h => m_X6_is h) rfl (fun _ => rfl) hR (Nat.le_of_ble_eq_true rfl) (Nat.le_of_ble_eq_true rfl) w_698 w_696 w_697 w_64 nm_X6_is rfl (Nat.le_of_ble_eq_true rfl) dX6_sum_1 (fun x1 hf => ?_)
  refine v_if_eq hC hf dX6_sum_4 (tgt := 21) (by decide) (fun hf => ?_) (fun hf => ?_)
  · refine v_iconst (v := 0) hC dX6_sum_21 (by decide) ?_
    exact v_retZ hC hf hE dX6_sum_22
  · refine v_at 7 rfl ?_
    refine v_iload_n hC 2 dX6_sum_7 rfl ?_
    refine v_cSP hC (y := y_X6_is) [.int i2] [] (fun r => some (.int r)) (fun r => .int r :: []) hf (fun _ h => m_X6_is h) rfl (fun _ => rfl) hR (Nat.le_of_ble_eq_true rfl) (Nat.le_of_ble_eq_true rfl) w_698 w_696 w_697 w_64 nm_X6_is rfl (Nat.le_of_ble_eq_true rfl) dX6_sum_8 (fun x2 hf => ?_)
    refine v_if_eq hC hf dX6_sum_11 (tgt := 21) (by decide) (fun hf => ?_) (fun hf => ?_)
    · refine v_iconst (v := 0) hC dX6_sum_21 (by decide) ?_
      exact v_retZ hC hf hE dX6_sum_22
    · refine v_at 14 rfl ?_
      refine v_iload_n hC 3 dX6_sum_14 rfl ?_
      refine v_cSP hC (y := y_X6_is) [.int i3] [] (fun r => some (.int r)) (fun r => .int r :: []) hf (fun _ h => m_X6_is h) rfl (fun _ => rfl) hR (Nat.le_of_ble_eq_true rfl) (Nat.le_of_ble_eq_true rfl) w_698 w_696 w_697 w_64 nm_X6_is rfl (Nat.le_of_ble_eq_true rfl) dX6_sum_15 (fun x3 hf => ?_)
      refine v_if_ne hC hf dX6_sum_18 (tgt := 23) (by decide) (fun hf => ?_) (fun hf => ?_)
      · refine v_aload_n hC 0 dX6_sum_23 rfl ?_
        refine v_getR hC (host := "") hf fd_6_3 w_661 dX6_sum_24 (fun r4 hf => ?_)
        refine v_iload_n hC 2 dX6_sum_27 rfl ?_
        refine v_ldI hC hf dX6_sum_28 (fun x5 hf => ?_)
        refine v_aload_n hC 0 dX6_sum_29 rfl ?_
        refine v_getR hC (host := "") hf fd_6_3 w_661 dX6_sum_30 (fun r6 hf => ?_)
        refine v_iload_n hC 3 dX6_sum_33 rfl ?_
        refine v_ldI hC hf dX6_sum_34 (fun x7 hf => ?_)
        refine v_at 35 rfl ?_
        refine v_jnE hf (fun z8 kr sr => V K (kr + 0) (sr + 0) σ 53 [(0, .ref a0), (1, .int i1), (2, .int i2), (3, .int i3), (4, .int i4)] [.int z8]) (fun z8 _ _ hf => ?_) (fun k8 hk8 hf => ?_)
        · refine v_istore hC [(5, .int z8), (0, .ref a0), (1, .int i1), (2, .int i2), (3, .int i3), (4, .int i4)] dX6_sum_53 hN (Nat.le_of_ble_eq_true rfl) rfl ?_
          refine v_iload hC 0 dX6_sum_55 rfl ?_
          refine v_i2l hC dX6_sum_57 ?_
          refine v_aload_n hC 1 dX6_sum_58 rfl ?_
          refine v_getR hC (host := "") hf fd_6_3 w_661 dX6_sum_59 (fun r9 hf => ?_)
          refine v_iload_n hC 3 dX6_sum_62 rfl ?_
          refine v_ldI hC hf dX6_sum_63 (fun x10 hf => ?_)
          refine v_i2l hC dX6_sum_64 ?_
          refine v_at 65 rfl ?_
          refine v_lsub hC dX6_sum_65 ?_
          refine v_ltL hf (fun l11 hf => ?_)
          refine v_lstore hC [(6, .long l11), (5, .int z8), (0, .ref a0), (1, .int i1), (2, .int i2), (3, .int i3), (4, .int i4)] dX6_sum_66 hN (Nat.le_of_ble_eq_true rfl) rfl ?_
          refine v_iload hC 1 dX6_sum_68 rfl ?_
          refine v_i2l hC dX6_sum_70 ?_
          refine v_aload_n hC 2 dX6_sum_71 rfl ?_
          refine v_getR hC (host := "") hf fd_6_3 w_661 dX6_sum_72 (fun r12 hf => ?_)
          refine v_iload_n hC 5 dX6_sum_75 rfl ?_
          refine v_ldI hC hf dX6_sum_76 (fun x13 hf => ?_)
          refine v_at 77 rfl ?_
          refine v_i2l hC dX6_sum_77 ?_
          refine v_lsub hC dX6_sum_78 ?_
          refine v_ltL hf (fun l14 hf => ?_)
          refine v_lstore hC [(8, .long l14), (6, .long l11), (5, .int z8), (0, .ref a0), (1, .int i1), (2, .int i2), (3, .int i3), (4, .int i4)] dX6_sum_79 hN (Nat.le_of_ble_eq_true rfl) rfl ?_
          refine v_aload_n hC 3 dX6_sum_81 rfl ?_
          refine v_getR hC (host := "") hf fd_6_1 w_659 dX6_sum_82 (fun r15 hf => ?_)
          refine v_iload_n hC 5 dX6_sum_85 rfl ?_
          refine v_ldI hC hf dX6_sum_86 (fun x16 hf => ?_)
          refine v_jnE hf (fun z17 kr sr => V K (kr + 0) (sr + 0) σ 107 [(0, .ref a0), (1, .int i1), (2, .int i2), (3, .int i3), (4, .int i4), (5, .int z8), (6, .long l11), (8, .long l14)] []) (fun z17 _ _ hf => ?_) (fun k17 hk17 hf => ?_)
          · refine v_aload_n hC 0 dX6_sum_107 rfl ?_
            refine v_getR hC (host := "") hf fd_6_1 w_659 dX6_sum_108 (fun r18 hf => ?_)
            refine v_iload_n hC 3 dX6_sum_111 rfl ?_
            refine v_ldI hC hf dX6_sum_112 (fun x19 hf => ?_)
            refine v_jnE hf (fun z20 kr sr => V K (kr + 0) (sr + 0) σ 135 [(0, .ref a0), (1, .int i1), (2, .int i2), (3, .int i3), (4, .int i4), (5, .int z8), (6, .long l11), (8, .long l14)] []) (fun z20 _ _ hf => ?_) (fun k20 hk20 hf => ?_)
            · refine v_aload_n hC 0 dX6_sum_135 rfl ?_
              refine v_iconst (v := 0) hC dX6_sum_136 (by decide) ?_
              refine v_iload_n hC 2 dX6_sum_137 rfl ?_
              refine v_cVE hC (y := y_X6_load) (ci := 6) [.int 0, .int i2] [] (fun _ => none) (fun _ => []) hf (fun _ _ _ _ h => m_X6_load h) rfl (fun _ => rfl) rfl rfl hR (Nat.le_of_ble_eq_true rfl) (Nat.le_of_ble_eq_true rfl) w_713 w_710 w_712 w_28 w_64 nm_X6_load rfl (Nat.le_of_ble_eq_true rfl) dX6_sum_138 (fun _ σ21 _ _ hf => ?_)
              refine v_aload_n hC 0 dX6_sum_141 rfl ?_
              refine v_iconst (v := 1) hC dX6_sum_142 (by decide) ?_
              refine v_iload_n hC 3 dX6_sum_143 rfl ?_
              refine v_cVE hC (y := y_X6_load) (ci := 6) [.int 1, .int i3] [] (fun _ => none) (fun _ => []) hf (fun _ _ _ _ h => m_X6_load h) rfl (fun _ => rfl) rfl rfl hR (Nat.le_of_ble_eq_true rfl) (Nat.le_of_ble_eq_true rfl) w_713 w_710 w_712 w_28 w_64 nm_X6_load rfl (Nat.le_of_ble_eq_true rfl) dX6_sum_144 (fun _ σ22 _ _ hf => ?_)
              refine v_at 147 rfl ?_
              refine v_aload_n hC 0 dX6_sum_147 rfl ?_
              refine v_getR hC (host := "") hf fd_6_5 w_663 dX6_sum_148 (fun r23 hf => ?_)
              refine v_iconst (v := 0) hC dX6_sum_151 (by decide) ?_
              refine v_ldI hC hf dX6_sum_152 (fun x24 hf => ?_)
              refine v_jnE hf (fun z25 kr sr => V K (kr + 0) (sr + 0) z25 164 [(0, .ref a0), (1, .int i1), (2, .int i2), (3, .int i3), (4, .int i4), (5, .int z8), (8, .long l14)] []) (fun z25 _ _ hf => ?_) (fun k25 hk25 hf => ?_)
              · refine v_aload_n hC 0 dX6_sum_164 rfl ?_
                refine v_getR hC (host := "") hf fd_6_5 w_663 dX6_sum_165 (fun r26 hf => ?_)
                refine v_iconst (v := 1) hC dX6_sum_168 (by decide) ?_
                refine v_ldI hC hf dX6_sum_169 (fun x27 hf => ?_)
                refine v_jnE hf (fun z28 kr sr => V K (kr + 0) (sr + 0) z28 181 [(0, .ref a0), (1, .int i1), (2, .int i2), (3, .int i3), (4, .int i4), (5, .int z8)] []) (fun z28 _ _ hf => ?_) (fun k28 hk28 hf => ?_)
                · refine v_aload_n hC 0 dX6_sum_181 rfl ?_
                  refine v_getR hC (host := "") hf fd_6_2 w_660 dX6_sum_182 (fun r29 hf => ?_)
                  refine v_iload_n hC 2 dX6_sum_185 rfl ?_
                  refine v_ldI hC hf dX6_sum_186 (fun x30 hf => ?_)
                  refine v_istore hC [(10, .int x30), (0, .ref a0), (1, .int i1), (2, .int i2), (3, .int i3), (4, .int i4), (5, .int z8)] dX6_sum_187 hN (Nat.le_of_ble_eq_true rfl) rfl ?_
                  refine v_iload hC 5 dX6_sum_189 rfl ?_
                  refine v_aload_n hC 1 dX6_sum_191 rfl ?_
                  refine v_getR hC (host := "") hf fd_6_2 w_660 dX6_sum_192 (fun r31 hf => ?_)
                  refine v_at 195 rfl ?_
                  refine v_iload_n hC 4 dX6_sum_195 rfl ?_
                  refine v_ldI hC hf dX6_sum_196 (fun x32 hf => ?_)
                  refine v_imul hC dX6_sum_197 ?_
                  refine v_ltI hf (fun x33 hf => ?_)
                  refine v_istore hC [(11, .int x33), (10, .int x30), (0, .ref a0), (1, .int i1), (2, .int i2), (3, .int i3), (4, .int i4), (5, .int z8)] dX6_sum_198 hN (Nat.le_of_ble_eq_true rfl) rfl ?_
                  refine v_iload hC 1 dX6_sum_200 rfl ?_
                  refine v_iload hC 0 dX6_sum_202 rfl ?_
                  refine v_imul hC dX6_sum_204 ?_
                  refine v_if_lt hC hf dX6_sum_205 (tgt := 236) (by decide) (fun hf => ?_) (fun hf => ?_)
                  · refine v_aload_n hC 2 dX6_sum_236 rfl ?_
                    refine v_iconst (v := 0) hC dX6_sum_237 (by decide) ?_
                    refine v_iconst (v := 1) hC dX6_sum_238 (by decide) ?_
                    refine v_cVP hC (y := y_X6_compareRows) (ci := 6) [.int 0, .int 1] [] (fun r => some (.int r)) (fun r => .int r :: []) hf (fun _ h => m_X6_compareRows h) rfl (fun _ => rfl) rfl rfl hR (Nat.le_of_ble_eq_true rfl) (Nat.le_of_ble_eq_true rfl) w_738 w_735 w_737 w_33 w_64 nm_X6_compareRows rfl (Nat.le_of_ble_eq_true rfl) dX6_sum_239 (fun x34 hf => ?_)
                    refine v_if_lt hC hf dX6_sum_242 (tgt := 263) (by decide) (fun hf => ?_) (fun hf => ?_)
                    · refine v_aload_n hC 2 dX6_sum_263 rfl ?_
                      refine v_iconst (v := 1) hC dX6_sum_264 (by decide) ?_
                      refine v_iconst (v := 0) hC dX6_sum_265 (by decide) ?_
                      refine v_cVE hC (y := y_X6_less) (ci := 6) [.int 1, .int 0] [] (fun _ => none) (fun _ => []) hf (fun _ _ _ _ h => m_X6_less h) rfl (fun _ => rfl) rfl rfl hR (Nat.le_of_ble_eq_true rfl) (Nat.le_of_ble_eq_true rfl) w_742 w_739 w_741 w_34 w_64 nm_X6_less rfl (Nat.le_of_ble_eq_true rfl) dX6_sum_266 (fun _ σ35 _ _ hf => ?_)
                      refine v_aload_n hC 2 dX6_sum_269 rfl ?_
                      refine v_iload_n hC 3 dX6_sum_270 rfl ?_
                      refine v_iconst (v := 1) hC dX6_sum_271 (by decide) ?_
                      refine v_iload hC 0 dX6_sum_272 rfl ?_
                      refine v_at 274 rfl ?_
                      refine v_iload hC 7 dX6_sum_274 rfl ?_
                      refine v_i2l hC dX6_sum_276 ?_
                      refine v_cVE hC (y := y_X6_store) (ci := 6) [.int i1, .int 1, .int x33, .long ((z8 : Int32).toInt64)] [] (fun r => some (.int r)) (fun r => .int r :: []) hf (fun _ _ _ _ h => m_X6_store h) rfl (fun _ => rfl) rfl rfl hR (Nat.le_of_ble_eq_true rfl) (Nat.le_of_ble_eq_true rfl) w_703 w_700 w_702 w_27 w_64 nm_X6_store rfl (Nat.le_of_ble_eq_true rfl) dX6_sum_277 (fun x36 σ37 _ _ hf => ?_)
                      exact v_retZ hC hf hE dX6_sum_280
                    · refine v_at 245 rfl ?_
                      refine v_aload_n hC 2 dX6_sum_245 rfl ?_
                      refine v_iconst (v := 0) hC dX6_sum_246 (by decide) ?_
                      refine v_iconst (v := 1) hC dX6_sum_247 (by decide) ?_
                      refine v_cVE hC (y := y_X6_less) (ci := 6) [.int 0, .int 1] [] (fun _ => none) (fun _ => []) hf (fun _ _ _ _ h => m_X6_less h) rfl (fun _ => rfl) rfl rfl hR (Nat.le_of_ble_eq_true rfl) (Nat.le_of_ble_eq_true rfl) w_742 w_739 w_741 w_34 w_64 nm_X6_less rfl (Nat.le_of_ble_eq_true rfl) dX6_sum_248 (fun _ σ38 _ _ hf => ?_)
                      refine v_aload_n hC 2 dX6_sum_251 rfl ?_
                      refine v_iload_n hC 3 dX6_sum_252 rfl ?_
                      refine v_iconst (v := 0) hC dX6_sum_253 (by decide) ?_
                      refine v_iload hC 1 dX6_sum_254 rfl ?_
                      refine v_at 256 rfl ?_
                      refine v_iload hC 7 dX6_sum_256 rfl ?_
                      refine v_i2l hC dX6_sum_258 ?_
                      refine v_cVE hC (y := y_X6_store) (ci := 6) [.int i1, .int 0, .int x30, .long ((z8 : Int32).toInt64)] [] (fun r => some (.int r)) (fun r => .int r :: []) hf (fun _ _ _ _ h => m_X6_store h) rfl (fun _ => rfl) rfl rfl hR (Nat.le_of_ble_eq_true rfl) (Nat.le_of_ble_eq_true rfl) w_703 w_700 w_702 w_27 w_64 nm_X6_store rfl (Nat.le_of_ble_eq_true rfl) dX6_sum_259 (fun x39 σ40 _ _ hf => ?_)
                      exact v_retZ hC hf hE dX6_sum_262
                  · refine v_at 208 rfl ?_
                    refine v_aload_n hC 2 dX6_sum_208 rfl ?_
                    refine v_iconst (v := 0) hC dX6_sum_209 (by decide) ?_
                    refine v_iconst (v := 1) hC dX6_sum_210 (by decide) ?_
                    refine v_cVE hC (y := y_X6_plus) (ci := 6) [.int 0, .int 1] [] (fun _ => none) (fun _ => []) hf (fun _ _ _ _ h => m_X6_plus h) rfl (fun _ => rfl) rfl rfl hR (Nat.le_of_ble_eq_true rfl) (Nat.le_of_ble_eq_true rfl) w_730 w_727 w_729 w_31 w_64 nm_X6_plus rfl (Nat.le_of_ble_eq_true rfl) dX6_sum_211 (fun _ σ41 _ _ hf => ?_)
                    refine v_aload_n hC 2 dX6_sum_214 rfl ?_
                    refine v_iload_n hC 3 dX6_sum_215 rfl ?_
                    refine v_iconst (v := 0) hC dX6_sum_216 (by decide) ?_
                    refine v_iload hC 1 dX6_sum_217 rfl ?_
                    refine v_at 219 rfl ?_
                    refine v_jnE hf (fun z42 kr sr => V K (kr + 0) (sr + 0) σ41 229 [(5, .int z8)] [.int z42, .int 0, .int i1, .ref a0]) (fun z42 _ _ hf => ?_) (fun k42 hk42 hf => ?_)
                    · refine v_iload hC 0 dX6_sum_229 rfl ?_
                      refine v_i2l hC dX6_sum_231 ?_
                      refine v_cVE hC (y := y_X6_store) (ci := 6) [.int i1, .int 0, .int z42, .long ((z8 : Int32).toInt64)] [] (fun r => some (.int r)) (fun r => .int r :: []) hf (fun _ _ _ _ h => m_X6_store h) rfl (fun _ => rfl) rfl rfl hR (Nat.le_of_ble_eq_true rfl) (Nat.le_of_ble_eq_true rfl) w_703 w_700 w_702 w_27 w_64 nm_X6_store rfl (Nat.le_of_ble_eq_true rfl) dX6_sum_232 (fun x43 σ44 _ _ hf => ?_)
                      exact v_retZ hC hf hE dX6_sum_235
                    · refine v_if_eq hC hf dX6_sum_219 (tgt := 227) (by decide) (fun hf => ?_) (fun hf => ?_)
                      · refine v_iload hC 0 dX6_sum_227 rfl ?_
                        refine v_at 229 rfl ?_
                        exact v_sub [(5, .int z8)] [7] rfl (hk42 _ _ _ hf)
                      · refine v_at 222 rfl ?_
                        refine v_iload hC 1 dX6_sum_222 rfl ?_
                        refine v_goto (tgt := 229) hC dX6_sum_224 (by decide) ?_
                        exact v_sub [(5, .int z8)] [7] rfl (hk42 _ _ _ hf)
                · refine v_if_le hC hf dX6_sum_170 (tgt := 181) (by decide) (fun hf => ?_) (fun hf => ?_)
                  · exact v_sub [(0, .ref a0), (1, .int i1), (2, .int i2), (3, .int i3), (4, .int i4), (5, .int z8)] [0, 1, 2, 3, 4, 5] rfl (hk28 _ _ _ hf)
                  · refine v_at 173 rfl ?_
                    refine v_aload_n hC 0 dX6_sum_173 rfl ?_
                    refine v_iconst (v := 1) hC dX6_sum_174 (by decide) ?_
                    refine v_lload hC 6 dX6_sum_175 rfl ?_
                    refine v_l2i hC dX6_sum_177 ?_
                    refine v_cVE hC (y := y_X6_raise) (ci := 6) [.int 1, .int ((l14 : Int64).toInt32)] [] (fun _ => none) (fun _ => []) hf (fun _ _ _ _ h => m_X6_raise h) rfl (fun _ => rfl) rfl rfl hR (Nat.le_of_ble_eq_true rfl) (Nat.le_of_ble_eq_true rfl) w_726 w_723 w_725 w_30 w_64 nm_X6_raise rfl (Nat.le_of_ble_eq_true rfl) dX6_sum_178 (fun _ σ45 _ _ hf => ?_)
                    refine v_at 181 rfl ?_
                    exact v_sub [(0, .ref a0), (1, .int i1), (2, .int i2), (3, .int i3), (4, .int i4), (5, .int z8)] [0, 1, 2, 3, 4, 5] rfl (hk28 _ _ _ hf)
              · refine v_if_le hC hf dX6_sum_153 (tgt := 164) (by decide) (fun hf => ?_) (fun hf => ?_)
                · exact v_sub [(0, .ref a0), (1, .int i1), (2, .int i2), (3, .int i3), (4, .int i4), (5, .int z8), (8, .long l14)] [0, 1, 2, 3, 4, 5, 7] rfl (hk25 _ _ _ hf)
                · refine v_at 156 rfl ?_
                  refine v_aload_n hC 0 dX6_sum_156 rfl ?_
                  refine v_iconst (v := 0) hC dX6_sum_157 (by decide) ?_
                  refine v_lload hC 6 dX6_sum_158 rfl ?_
                  refine v_l2i hC dX6_sum_160 ?_
                  refine v_cVE hC (y := y_X6_raise) (ci := 6) [.int 0, .int ((l11 : Int64).toInt32)] [] (fun _ => none) (fun _ => []) hf (fun _ _ _ _ h => m_X6_raise h) rfl (fun _ => rfl) rfl rfl hR (Nat.le_of_ble_eq_true rfl) (Nat.le_of_ble_eq_true rfl) w_726 w_723 w_725 w_30 w_64 nm_X6_raise rfl (Nat.le_of_ble_eq_true rfl) dX6_sum_161 (fun _ σ46 _ _ hf => ?_)
                  refine v_at 164 rfl ?_
                  exact v_sub [(0, .ref a0), (1, .int i1), (2, .int i2), (3, .int i3), (4, .int i4), (5, .int z8), (8, .long l14)] [0, 1, 2, 3, 4, 5, 7] rfl (hk25 _ _ _ hf)
            · refine v_if_le hC hf dX6_sum_113 (tgt := 135) (by decide) (fun hf => ?_) (fun hf => ?_)
              · exact v_sub [(0, .ref a0), (1, .int i1), (2, .int i2), (3, .int i3), (4, .int i4), (5, .int z8), (6, .long l11), (8, .long l14)] [0, 1, 2, 3, 4, 5, 6, 7] rfl (hk20 _ _ _ hf)
              · refine v_at 116 rfl ?_
                refine v_aload_n hC 0 dX6_sum_116 rfl ?_
                refine v_getR hC (host := "") hf fd_6_1 w_659 dX6_sum_117 (fun r47 hf => ?_)
                refine v_iload_n hC 3 dX6_sum_120 rfl ?_
                refine v_ldI hC hf dX6_sum_121 (fun x48 hf => ?_)
                refine v_i2l hC dX6_sum_122 ?_
                refine v_lload hC 7 dX6_sum_123 rfl ?_
                refine v_ladd hC dX6_sum_125 ?_
                refine v_ldc2 hC dX6_sum_126 w_722 ?_
                refine v_at 129 rfl ?_
                refine v_lcmp_le hC hf dX6_sum_129 dX6_sum_130 (tgt := 135) (by decide) (fun hf => ?_) (fun hf => ?_)
                · exact v_sub [(0, .ref a0), (1, .int i1), (2, .int i2), (3, .int i3), (4, .int i4), (5, .int z8), (6, .long l11), (8, .long l14)] [0, 1, 2, 3, 4, 5, 6, 7] rfl (hk20 _ _ _ hf)
                · refine v_at 133 rfl ?_
                  refine v_iconst (v := 0) hC dX6_sum_133 (by decide) ?_
                  exact v_retZ hC hf hE dX6_sum_134
          · refine v_if_le hC hf dX6_sum_87 (tgt := 107) (by decide) (fun hf => ?_) (fun hf => ?_)
            · exact v_sub [(0, .ref a0), (1, .int i1), (2, .int i2), (3, .int i3), (4, .int i4), (5, .int z8), (6, .long l11), (8, .long l14)] [3, 4, 5, 6, 7, 2, 1, 0] rfl (hk17 _ _ _ hf)
            · refine v_at 90 rfl ?_
              refine v_aload_n hC 3 dX6_sum_90 rfl ?_
              refine v_getR hC (host := "") hf fd_6_1 w_659 dX6_sum_91 (fun r49 hf => ?_)
              refine v_iload_n hC 5 dX6_sum_94 rfl ?_
              refine v_ldI hC hf dX6_sum_95 (fun x50 hf => ?_)
              refine v_i2l hC dX6_sum_96 ?_
              refine v_lload hC 1 dX6_sum_97 rfl ?_
              refine v_ladd hC dX6_sum_99 ?_
              refine v_ldc2 hC dX6_sum_100 w_722 ?_
              refine v_at 103 rfl ?_
              refine v_lcmp_gt hC hf dX6_sum_103 dX6_sum_104 (tgt := 133) (by decide) (fun hf => ?_) (fun hf => ?_)
              · refine v_iconst (v := 0) hC dX6_sum_133 (by decide) ?_
                exact v_retZ hC hf hE dX6_sum_134
              · refine v_at 107 rfl ?_
                exact v_sub [(0, .ref a0), (1, .int i1), (2, .int i2), (3, .int i3), (4, .int i4), (5, .int z8), (6, .long l11), (8, .long l14)] [3, 4, 5, 6, 7, 2, 1, 0] rfl (hk17 _ _ _ hf)
        · refine v_icmp_le hC hf dX6_sum_35 (tgt := 47) (by decide) (fun hf => ?_) (fun hf => ?_)
          · refine v_aload_n hC 0 dX6_sum_47 rfl ?_
            refine v_getR hC (host := "") hf fd_6_3 w_661 dX6_sum_48 (fun r51 hf => ?_)
            refine v_iload_n hC 3 dX6_sum_51 rfl ?_
            refine v_ldI hC hf dX6_sum_52 (fun x52 hf => ?_)
            refine v_at 53 rfl ?_
            exact v_sub [(0, .ref a0), (1, .int i1), (2, .int i2), (3, .int i3), (4, .int i4)] [0, 1, 2, 3, 4] rfl (hk8 _ _ _ hf)
          · refine v_at 38 rfl ?_
            refine v_aload_n hC 0 dX6_sum_38 rfl ?_
            refine v_getR hC (host := "") hf fd_6_3 w_661 dX6_sum_39 (fun r53 hf => ?_)
            refine v_iload_n hC 2 dX6_sum_42 rfl ?_
            refine v_ldI hC hf dX6_sum_43 (fun x54 hf => ?_)
            refine v_goto (tgt := 53) hC dX6_sum_44 (by decide) ?_
            exact v_sub [(0, .ref a0), (1, .int i1), (2, .int i2), (3, .int i3), (4, .int i4)] [0, 1, 2, 3, 4] rfl (hk8 _ _ _ hf)
      · refine v_at 21 rfl ?_
        refine v_iconst (v := 0) hC dX6_sum_21 (by decide) ?_
        exact v_retZ hC hf hE dX6_sum_22
set_option maxHeartbeats 4000000 in
set_option maxRecDepth 100000 in
theorem m_X6_add {G : Gm} {l : Launch} {σ : St} {a0 : Nat} {i1 : Int32} {i2 : Int32} {i3 : Int32} {r : Int32} {σf : St} {k s : Nat} (hf : f_X6_add σ a0 i1 i2 i3 = some (r, σf, k, s)) : (∃ fs : List Value, σ.1 a0 = some (.inr (.inl (6, fs)))) ∧ Ct G l y_X6_add prog_8_method_25_code 4 (some .boolean) 3 80 [.ref a0, .int i1, .int i2, .int i3] σ (some (.int r)) σf k s := by
  unfold f_X6_add at hf
  obtain ⟨hob, hf⟩ := ob_some hf
  refine ⟨hob, Ct.ofV pl_X6_add (Nat.le_of_ble_eq_true rfl) ?_⟩
  intro K hR hN hnm hC hE
  show V K (k + 0) (s + 0) σ 0 [(0, .ref a0), (1, .int i1), (2, .int i2), (3, .int i3)] []
  refine v_aload_n hC 0 dX6_add_0 rfl ?_
  refine v_iload_n hC 1 dX6_add_1 rfl ?_
  refine v_iload_n hC 2 dX6_add_2 rfl ?_
  refine v_iload_n hC 3 dX6_add_3 rfl ?_
  refine v_iconst (v := 1) hC dX6_add_4 (by decide) ?_
  refine v_cVE hC (y := y_X6_sum) (ci := 6) [.int i1, .int i2, .int i3, .int 1] [] (fun r => some (.int r)) (fun r => .int r :: []) hf (fun _ _ _ _ h => m_X6_sum h) rfl (fun _ => rfl) rfl rfl hR (Nat.le_of_ble_eq_true rfl) (Nat.le_of_ble_eq_true rfl) w_721 w_718 w_720 w_29 w_64 nm_X6_sum rfl (Nat.le_of_ble_eq_true rfl) dX6_add_5 (fun x1 σ2 _ _ hf => ?_)
  exact v_retZ hC hf hE dX6_add_8
set_option maxHeartbeats 4000000 in
set_option maxRecDepth 100000 in
theorem m_X6_take {G : Gm} {l : Launch} {σ : St} {a0 : Nat} {i1 : Int32} {i2 : Int32} {i3 : Int32} {r : Int32} {σf : St} {k s : Nat} (hf : f_X6_take σ a0 i1 i2 i3 = some (r, σf, k, s)) : (∃ fs : List Value, σ.1 a0 = some (.inr (.inl (6, fs)))) ∧ Ct G l y_X6_take prog_8_method_26_code 4 (some .boolean) 3 80 [.ref a0, .int i1, .int i2, .int i3] σ (some (.int r)) σf k s := by
  unfold f_X6_take at hf
  obtain ⟨hob, hf⟩ := ob_some hf
  refine ⟨hob, Ct.ofV pl_X6_take (Nat.le_of_ble_eq_true rfl) ?_⟩
  intro K hR hN hnm hC hE
  show V K (k + 0) (s + 0) σ 0 [(0, .ref a0), (1, .int i1), (2, .int i2), (3, .int i3)] []
  refine v_aload_n hC 0 dX6_take_0 rfl ?_
  refine v_iload_n hC 1 dX6_take_1 rfl ?_
  refine v_iload_n hC 2 dX6_take_2 rfl ?_
  refine v_iload_n hC 3 dX6_take_3 rfl ?_
  refine v_iconst (v := (-1)) hC dX6_take_4 (by decide) ?_
  refine v_cVE hC (y := y_X6_sum) (ci := 6) [.int i1, .int i2, .int i3, .int (-1)] [] (fun r => some (.int r)) (fun r => .int r :: []) hf (fun _ _ _ _ h => m_X6_sum h) rfl (fun _ => rfl) rfl rfl hR (Nat.le_of_ble_eq_true rfl) (Nat.le_of_ble_eq_true rfl) w_721 w_718 w_720 w_29 w_64 nm_X6_sum rfl (Nat.le_of_ble_eq_true rfl) dX6_take_5 (fun x1 σ2 _ _ hf => ?_)
  exact v_retZ hC hf hE dX6_take_8
set_option maxHeartbeats 4000000 in
set_option maxRecDepth 100000 in
theorem m_X6_times {G : Gm} {l : Launch} {σ : St} {a0 : Nat} {i1 : Int32} {i2 : Int32} {i3 : Int32} {r : Int32} {σf : St} {k s : Nat} (hf : f_X6_times σ a0 i1 i2 i3 = some (r, σf, k, s)) : (∃ fs : List Value, σ.1 a0 = some (.inr (.inl (6, fs)))) ∧ Ct G l y_X6_times prog_8_method_27_code 4 (some .boolean) 2 49 [.ref a0, .int i1, .int i2, .int i3] σ (some (.int r)) σf k s := by
  unfold f_X6_times at hf
  obtain ⟨hob, hf⟩ := ob_some hf
  refine ⟨hob, Ct.ofV pl_X6_times (Nat.le_of_ble_eq_true rfl) ?_⟩
  intro K hR hN hnm hC hE
  show V K (k + 0) (s + 0) σ 0 [(0, .ref a0), (1, .int i1), (2, .int i2), (3, .int i3)] []
  refine v_iload_n hC 1 dX6_times_0 rfl ?_
  refine v_cSP hC (y := y_X6_is) [.int i1] [] (fun r => some (.int r)) (fun r => .int r :: []) hf (fun _ h => m_X6_is h) rfl (fun _ => rfl) hR (Nat.le_of_ble_eq_true rfl) (Nat.le_of_ble_eq_true rfl) w_698 w_696 w_697 w_64 nm_X6_is rfl (Nat.le_of_ble_eq_true rfl) dX6_times_1 (fun x1 hf => ?_)
  refine v_if_eq hC hf dX6_times_4 (tgt := 21) (by decide) (fun hf => ?_) (fun hf => ?_)
  · refine v_iconst (v := 0) hC dX6_times_21 (by decide) ?_
    exact v_retZ hC hf hE dX6_times_22
  · refine v_at 7 rfl ?_
    refine v_iload_n hC 2 dX6_times_7 rfl ?_
    refine v_cSP hC (y := y_X6_is) [.int i2] [] (fun r => some (.int r)) (fun r => .int r :: []) hf (fun _ h => m_X6_is h) rfl (fun _ => rfl) hR (Nat.le_of_ble_eq_true rfl) (Nat.le_of_ble_eq_true rfl) w_698 w_696 w_697 w_64 nm_X6_is rfl (Nat.le_of_ble_eq_true rfl) dX6_times_8 (fun x2 hf => ?_)
    refine v_if_eq hC hf dX6_times_11 (tgt := 21) (by decide) (fun hf => ?_) (fun hf => ?_)
    · refine v_iconst (v := 0) hC dX6_times_21 (by decide) ?_
      exact v_retZ hC hf hE dX6_times_22
    · refine v_at 14 rfl ?_
      refine v_iload_n hC 3 dX6_times_14 rfl ?_
      refine v_cSP hC (y := y_X6_is) [.int i3] [] (fun r => some (.int r)) (fun r => .int r :: []) hf (fun _ h => m_X6_is h) rfl (fun _ => rfl) hR (Nat.le_of_ble_eq_true rfl) (Nat.le_of_ble_eq_true rfl) w_698 w_696 w_697 w_64 nm_X6_is rfl (Nat.le_of_ble_eq_true rfl) dX6_times_15 (fun x3 hf => ?_)
      refine v_if_ne hC hf dX6_times_18 (tgt := 23) (by decide) (fun hf => ?_) (fun hf => ?_)
      · refine v_aload_n hC 0 dX6_times_23 rfl ?_
        refine v_iconst (v := 0) hC dX6_times_24 (by decide) ?_
        refine v_iload_n hC 2 dX6_times_25 rfl ?_
        refine v_cVE hC (y := y_X6_load) (ci := 6) [.int 0, .int i2] [] (fun _ => none) (fun _ => []) hf (fun _ _ _ _ h => m_X6_load h) rfl (fun _ => rfl) rfl rfl hR (Nat.le_of_ble_eq_true rfl) (Nat.le_of_ble_eq_true rfl) w_713 w_710 w_712 w_28 w_64 nm_X6_load rfl (Nat.le_of_ble_eq_true rfl) dX6_times_26 (fun _ σ4 _ _ hf => ?_)
        refine v_aload_n hC 0 dX6_times_29 rfl ?_
        refine v_iconst (v := 1) hC dX6_times_30 (by decide) ?_
        refine v_iload_n hC 3 dX6_times_31 rfl ?_
        refine v_cVE hC (y := y_X6_load) (ci := 6) [.int 1, .int i3] [] (fun _ => none) (fun _ => []) hf (fun _ _ _ _ h => m_X6_load h) rfl (fun _ => rfl) rfl rfl hR (Nat.le_of_ble_eq_true rfl) (Nat.le_of_ble_eq_true rfl) w_713 w_710 w_712 w_28 w_64 nm_X6_load rfl (Nat.le_of_ble_eq_true rfl) dX6_times_32 (fun _ σ5 _ _ hf => ?_)
        refine v_at 35 rfl ?_
        refine v_aload_n hC 0 dX6_times_35 rfl ?_
        refine v_cVE hC (y := y_X6_product) (ci := 6) [] [] (fun _ => none) (fun _ => []) hf (fun _ _ _ _ h => m_X6_product h) rfl (fun _ => rfl) rfl rfl hR (Nat.le_of_ble_eq_true rfl) (Nat.le_of_ble_eq_true rfl) w_754 w_751 w_753 w_35 w_64 nm_X6_product rfl (Nat.le_of_ble_eq_true rfl) dX6_times_36 (fun _ σ6 _ _ hf => ?_)
        refine v_aload_n hC 0 dX6_times_39 rfl ?_
        refine v_iload_n hC 1 dX6_times_40 rfl ?_
        refine v_iconst (v := 2) hC dX6_times_41 (by decide) ?_
        refine v_aload_n hC 0 dX6_times_42 rfl ?_
        refine v_getR hC (host := "") hf fd_6_2 w_660 dX6_times_43 (fun r7 hf => ?_)
        refine v_iload_n hC 2 dX6_times_46 rfl ?_
        refine v_at 47 rfl ?_
        refine v_ldI hC hf dX6_times_47 (fun x8 hf => ?_)
        refine v_aload_n hC 0 dX6_times_48 rfl ?_
        refine v_getR hC (host := "") hf fd_6_2 w_660 dX6_times_49 (fun r9 hf => ?_)
        refine v_iload_n hC 3 dX6_times_52 rfl ?_
        refine v_ldI hC hf dX6_times_53 (fun x10 hf => ?_)
        refine v_imul hC dX6_times_54 ?_
        refine v_aload_n hC 0 dX6_times_55 rfl ?_
        refine v_getR hC (host := "") hf fd_6_3 w_661 dX6_times_56 (fun r11 hf => ?_)
        refine v_at 59 rfl ?_
        refine v_iload_n hC 2 dX6_times_59 rfl ?_
        refine v_ldI hC hf dX6_times_60 (fun x12 hf => ?_)
        refine v_i2l hC dX6_times_61 ?_
        refine v_aload_n hC 0 dX6_times_62 rfl ?_
        refine v_getR hC (host := "") hf fd_6_3 w_661 dX6_times_63 (fun r13 hf => ?_)
        refine v_iload_n hC 3 dX6_times_66 rfl ?_
        refine v_ldI hC hf dX6_times_67 (fun x14 hf => ?_)
        refine v_i2l hC dX6_times_68 ?_
        refine v_at 69 rfl ?_
        refine v_ladd hC dX6_times_69 ?_
        refine v_cVE hC (y := y_X6_store) (ci := 6) [.int i1, .int 2, .int (x8 * x10), .long (((x12 : Int32).toInt64) + ((x14 : Int32).toInt64))] [] (fun r => some (.int r)) (fun r => .int r :: []) hf (fun _ _ _ _ h => m_X6_store h) rfl (fun _ => rfl) rfl rfl hR (Nat.le_of_ble_eq_true rfl) (Nat.le_of_ble_eq_true rfl) w_703 w_700 w_702 w_27 w_64 nm_X6_store rfl (Nat.le_of_ble_eq_true rfl) dX6_times_70 (fun x15 σ16 _ _ hf => ?_)
        exact v_retZ hC hf hE dX6_times_73
      · refine v_at 21 rfl ?_
        refine v_iconst (v := 0) hC dX6_times_21 (by decide) ?_
        exact v_retZ hC hf hE dX6_times_22
def E_X6_power_L145 (K : Cq) (a0 : Nat) (i1 : Int32) (i2 : Int32) (i3 : Int32) (j4 : Int64) (i6 : Int32) (i7 : Int32) (y : Unit) (σ : St) (kr sr : Nat) : Prop := V K kr sr σ 179 [(0, .ref a0), (1, .int i1), (2, .int i2), (3, .int i3), (4, .long j4), (6, .int i6), (7, .int i7)] []
set_option maxHeartbeats 4000000 in
set_option maxRecDepth 100000 in
theorem v_X6_power_L145 {K : Cq} {k0 s0 : Nat} (hC : Cx K prog_8_method_28_code "TensMillModel") (hR : kR K = rmF 2 49 k0 s0) (hN : kn K = 9) {ko so : Nat} : ∀ (n : Nat) (σ : St) (a0 : Nat) (i1 : Int32) (i2 : Int32) (i3 : Int32) (j4 : Int64) (i6 : Int32) (i7 : Int32) (i8 : Int32) (y : Unit) (σf : St) (kr sr : Nat), f_X6_power_L145 n σ a0 i1 i2 i3 j4 i6 i7 i8 = some (y, σf, kr, sr) → E_X6_power_L145 K a0 i1 i2 i3 j4 i6 i7 y σf ko so → V K (kr + ko) (sr + so) σ 145 [(0, .ref a0), (1, .int i1), (2, .int i2), (3, .int i3), (4, .long j4), (6, .int i6), (7, .int i7), (8, .int i8)] [] := by
  intro n
  induction n with
  | zero =>
    intro σ a0 i1 i2 i3 j4 i6 i7 i8 y σf kr sr hf hE
    cases hf
  | succ n ih =>
    intro σ a0 i1 i2 i3 j4 i6 i7 i8 y σf kr sr hf hE
    replace hf : b_X6_power_L145 (f_X6_power_L145 n) σ a0 i1 i2 i3 j4 i6 i7 i8 = some (y, σf, kr, sr) := hf
    unfold b_X6_power_L145 at hf
    refine v_iload hC 7 dX6_power_145 rfl ?_
    refine v_aload_n hC 0 dX6_power_147 rfl ?_
    refine v_getR hC (host := "") hf fd_6_5 w_663 dX6_power_148 (fun r20 hf => ?_)
    refine v_iconst (v := 2) hC dX6_power_151 (by decide) ?_
    refine v_ldI hC hf dX6_power_152 (fun x21 hf => ?_)
    refine v_icmp_ge hC hf dX6_power_153 (tgt := 179) (by decide) (fun hf => ?_) (fun hf => ?_)
    · obtain ⟨hX, e1, e2⟩ := v_exE (E := E_X6_power_L145 K a0 i1 i2 i3 j4 i6 i7) hf hE
      rw [e1, e2]
      exact v_sub [(0, .ref a0), (1, .int i1), (2, .int i2), (3, .int i3), (4, .long j4), (6, .int i6), (7, .int i7)] [0, 1, 2, 3, 4, 5, 6] rfl hX
    · refine v_at 156 rfl ?_
      refine v_aload_n hC 0 dX6_power_156 rfl ?_
      refine v_getR hC (host := "") hf fd_6_4 w_662 dX6_power_157 (fun r22 hf => ?_)
      refine v_iload hC 7 dX6_power_160 rfl ?_
      refine v_aload_n hC 0 dX6_power_162 rfl ?_
      refine v_getR hC (host := "") hf fd_6_4 w_662 dX6_power_163 (fun r23 hf => ?_)
      refine v_ldc hC dX6_power_166 w_755 ?_
      refine v_iload hC 7 dX6_power_168 rfl ?_
      refine v_iadd hC dX6_power_170 ?_
      refine v_at 171 rfl ?_
      refine v_ldI hC hf dX6_power_171 (fun x24 hf => ?_)
      refine v_stI hC hf dX6_power_172 (fun σ25 hf => ?_)
      refine v_incL hC hf 7 (fun x26 => [(8, .int x26), (0, .ref a0), (1, .int i1), (2, .int i2), (3, .int i3), (4, .long j4), (6, .int i6), (7, .int i7)]) dX6_power_173 rfl (by decide) hN (Nat.le_of_ble_eq_true rfl) (fun _ => rfl) (fun x26 hf => ?_)
      refine v_goto (tgt := 145) hC dX6_power_176 (by decide) ?_
      exact v_sub [(0, .ref a0), (1, .int i1), (2, .int i2), (3, .int i3), (4, .long j4), (6, .int i6), (7, .int i7), (8, .int x26)] [1, 2, 3, 4, 5, 6, 7, 0] rfl (ih _ _ _ _ _ _ _ _ _ _ _ _ _ hf hE)
def E_X6_power_L113 (K : Cq) (a0 : Nat) (i1 : Int32) (i2 : Int32) (i3 : Int32) (j4 : Int64) (y : (Unit) ⊕ (Unit)) (σ : St) (kr sr : Nat) : Prop := match y with
  | .inl z => V K kr sr σ 140 [] []
  | .inr z => V K kr sr σ 197 [(0, .ref a0), (1, .int i1), (2, .int i2), (3, .int i3), (4, .long j4)] []
set_option maxHeartbeats 4000000 in
set_option maxRecDepth 100000 in
theorem v_X6_power_L113 {K : Cq} {k0 s0 : Nat} (hC : Cx K prog_8_method_28_code "TensMillModel") (hR : kR K = rmF 2 49 k0 s0) (hN : kn K = 9) {ko so : Nat} : ∀ (n : Nat) (σ : St) (a0 : Nat) (i1 : Int32) (i2 : Int32) (i3 : Int32) (j4 : Int64) (i6 : Int32) (i7 : Int32) (y : (Unit) ⊕ (Unit)) (σf : St) (kr sr : Nat), f_X6_power_L113 n σ a0 i1 i2 i3 j4 i6 i7 = some (y, σf, kr, sr) → E_X6_power_L113 K a0 i1 i2 i3 j4 y σf ko so → V K (kr + ko) (sr + so) σ 113 [(0, .ref a0), (1, .int i1), (2, .int i2), (3, .int i3), (4, .long j4), (6, .int i6), (7, .int i7)] [] := by
  intro n
  induction n with
  | zero =>
    intro σ a0 i1 i2 i3 j4 i6 i7 y σf kr sr hf hE
    cases hf
  | succ n ih =>
    intro σ a0 i1 i2 i3 j4 i6 i7 y σf kr sr hf hE
    replace hf : b_X6_power_L113 (f_X6_power_L113 n) σ a0 i1 i2 i3 j4 i6 i7 = some (y, σf, kr, sr) := hf
    unfold b_X6_power_L113 at hf
    refine v_iload hC 6 dX6_power_113 rfl ?_
    refine v_iload_n hC 3 dX6_power_115 rfl ?_
    refine v_icmp_ge hC hf dX6_power_116 (tgt := 197) (by decide) (fun hf => ?_) (fun hf => ?_)
    · obtain ⟨hX, e1, e2⟩ := v_exE (E := E_X6_power_L113 K a0 i1 i2 i3 j4) hf hE
      rw [e1, e2]
      exact v_sub [(0, .ref a0), (1, .int i1), (2, .int i2), (3, .int i3), (4, .long j4)] [0, 1, 2, 3, 4] rfl hX
    · refine v_at 119 rfl ?_
      refine v_iload hC 5 dX6_power_119 rfl ?_
      refine v_if_ne hC hf dX6_power_121 (tgt := 197) (by decide) (fun hf => ?_) (fun hf => ?_)
      · obtain ⟨hX, e1, e2⟩ := v_exE (E := E_X6_power_L113 K a0 i1 i2 i3 j4) hf hE
        rw [e1, e2]
        exact v_sub [(0, .ref a0), (1, .int i1), (2, .int i2), (3, .int i3), (4, .long j4)] [0, 1, 2, 3, 4] rfl hX
      · refine v_at 124 rfl ?_
        refine v_aload_n hC 0 dX6_power_124 rfl ?_
        refine v_cVE hC (y := y_X6_product) (ci := 6) [] [] (fun _ => none) (fun _ => []) hf (fun _ _ _ _ h => m_X6_product h) rfl (fun _ => rfl) rfl rfl hR (Nat.le_of_ble_eq_true rfl) (Nat.le_of_ble_eq_true rfl) w_754 w_751 w_753 w_35 w_64 nm_X6_product rfl (Nat.le_of_ble_eq_true rfl) dX6_power_125 (fun _ σ17 _ _ hf => ?_)
        refine v_aload_n hC 0 dX6_power_128 rfl ?_
        refine v_getR hC (host := "") hf fd_6_5 w_663 dX6_power_129 (fun r18 hf => ?_)
        refine v_iconst (v := 2) hC dX6_power_132 (by decide) ?_
        refine v_ldI hC hf dX6_power_133 (fun x19 hf => ?_)
        refine v_sipush (v := 4096) hC dX6_power_134 (by decide) ?_
        refine v_icmp_le hC hf dX6_power_137 (tgt := 142) (by decide) (fun hf => ?_) (fun hf => ?_)
        · refine v_iconst (v := 0) hC dX6_power_142 (by decide) ?_
          refine v_istore hC [(8, .int 0), (0, .ref a0), (1, .int i1), (2, .int i2), (3, .int i3), (4, .long j4), (6, .int i6), (7, .int i7)] dX6_power_143 hN (Nat.le_of_ble_eq_true rfl) rfl ?_
          refine v_at 145 rfl ?_
          refine v_sub [(0, .ref a0), (1, .int i1), (2, .int i2), (3, .int i3), (4, .long j4), (6, .int i6), (7, .int i7), (8, .int 0)] [1, 2, 3, 4, 5, 6, 7, 0] rfl ?_
          refine v_lpE hf (E_X6_power_L145 K a0 i1 i2 i3 j4 i6 i7) (fun _ _ _ _ _ _ h hE => v_X6_power_L145 hC hR hN _ _ _ _ _ _ _ _ _ _ _ _ _ _ h hE) (fun y27 σ28 _ _ hf => ?_)
          show V K _ _ σ28 179 [(0, .ref a0), (1, .int i1), (2, .int i2), (3, .int i3), (4, .long j4), (6, .int i6), (7, .int i7)] []
          refine v_aload_n hC 0 dX6_power_179 rfl ?_
          refine v_getR hC (host := "") hf fd_6_5 w_663 dX6_power_180 (fun r29 hf => ?_)
          refine v_iconst (v := 0) hC dX6_power_183 (by decide) ?_
          refine v_aload_n hC 0 dX6_power_184 rfl ?_
          refine v_getR hC (host := "") hf fd_6_5 w_663 dX6_power_185 (fun r30 hf => ?_)
          refine v_iconst (v := 2) hC dX6_power_188 (by decide) ?_
          refine v_ldI hC hf dX6_power_189 (fun x31 hf => ?_)
          refine v_stI hC hf dX6_power_190 (fun σ32 hf => ?_)
          refine v_at 191 rfl ?_
          refine v_incL hC hf 6 (fun x33 => [(7, .int x33), (0, .ref a0), (1, .int i1), (2, .int i2), (3, .int i3), (4, .long j4), (6, .int i6)]) dX6_power_191 rfl (by decide) hN (Nat.le_of_ble_eq_true rfl) (fun _ => rfl) (fun x33 hf => ?_)
          refine v_goto (tgt := 113) hC dX6_power_194 (by decide) ?_
          exact v_sub [(0, .ref a0), (1, .int i1), (2, .int i2), (3, .int i3), (4, .long j4), (6, .int i6), (7, .int x33)] [1, 2, 3, 4, 5, 6, 0] rfl (ih _ _ _ _ _ _ _ _ _ _ _ _ hf hE)
        · refine v_at 140 rfl ?_
          obtain ⟨hX, e1, e2⟩ := v_exE (E := E_X6_power_L113 K a0 i1 i2 i3 j4) hf hE
          rw [e1, e2]
          exact v_sub [] [] rfl hX
set_option maxHeartbeats 4000000 in
set_option maxRecDepth 100000 in
theorem m_X6_power {G : Gm} {l : Launch} {σ : St} {a0 : Nat} {i1 : Int32} {i2 : Int32} {i3 : Int32} {r : Int32} {σf : St} {k s : Nat} (hf : f_X6_power σ a0 i1 i2 i3 = some (r, σf, k, s)) : (∃ fs : List Value, σ.1 a0 = some (.inr (.inl (6, fs)))) ∧ Ct G l y_X6_power prog_8_method_28_code 9 (some .boolean) 2 49 [.ref a0, .int i1, .int i2, .int i3] σ (some (.int r)) σf k s := by
  unfold f_X6_power at hf
  obtain ⟨hob, hf⟩ := ob_some hf
  refine ⟨hob, Ct.ofV pl_X6_power (Nat.le_of_ble_eq_true rfl) ?_⟩
  intro K hR hN hnm hC hE
  show V K (k + 0) (s + 0) σ 0 [(0, .ref a0), (1, .int i1), (2, .int i2), (3, .int i3)] []
  refine v_iload_n hC 1 dX6_power_0 rfl ?_
  refine v_cSP hC (y := y_X6_is) [.int i1] [] (fun r => some (.int r)) (fun r => .int r :: []) hf (fun _ h => m_X6_is h) rfl (fun _ => rfl) hR (Nat.le_of_ble_eq_true rfl) (Nat.le_of_ble_eq_true rfl) w_698 w_696 w_697 w_64 nm_X6_is rfl (Nat.le_of_ble_eq_true rfl) dX6_power_1 (fun x1 hf => ?_)
  refine v_if_eq hC hf dX6_power_4 (tgt := 18) (by decide) (fun hf => ?_) (fun hf => ?_)
  · refine v_iconst (v := 0) hC dX6_power_18 (by decide) ?_
    exact v_retZ hC hf hE dX6_power_19
  · refine v_at 7 rfl ?_
    refine v_iload_n hC 2 dX6_power_7 rfl ?_
    refine v_cSP hC (y := y_X6_is) [.int i2] [] (fun r => some (.int r)) (fun r => .int r :: []) hf (fun _ h => m_X6_is h) rfl (fun _ => rfl) hR (Nat.le_of_ble_eq_true rfl) (Nat.le_of_ble_eq_true rfl) w_698 w_696 w_697 w_64 nm_X6_is rfl (Nat.le_of_ble_eq_true rfl) dX6_power_8 (fun x2 hf => ?_)
    refine v_if_eq hC hf dX6_power_11 (tgt := 18) (by decide) (fun hf => ?_) (fun hf => ?_)
    · refine v_iconst (v := 0) hC dX6_power_18 (by decide) ?_
      exact v_retZ hC hf hE dX6_power_19
    · refine v_at 14 rfl ?_
      refine v_iload_n hC 3 dX6_power_14 rfl ?_
      refine v_if_ge hC hf dX6_power_15 (tgt := 20) (by decide) (fun hf => ?_) (fun hf => ?_)
      · refine v_aload_n hC 0 dX6_power_20 rfl ?_
        refine v_getR hC (host := "") hf fd_6_3 w_661 dX6_power_21 (fun r3 hf => ?_)
        refine v_iload_n hC 2 dX6_power_24 rfl ?_
        refine v_ldI hC hf dX6_power_25 (fun x4 hf => ?_)
        refine v_i2l hC dX6_power_26 ?_
        refine v_iload_n hC 3 dX6_power_27 rfl ?_
        refine v_i2l hC dX6_power_28 ?_
        refine v_lmul hC dX6_power_29 ?_
        refine v_at 30 rfl ?_
        refine v_ltL hf (fun l5 hf => ?_)
        refine v_lstore hC [(4, .long l5), (0, .ref a0), (1, .int i1), (2, .int i2), (3, .int i3)] dX6_power_30 hN (Nat.le_of_ble_eq_true rfl) rfl ?_
        refine v_aload_n hC 1 dX6_power_32 rfl ?_
        refine v_iconst (v := 1) hC dX6_power_33 (by decide) ?_
        refine v_iload_n hC 3 dX6_power_34 rfl ?_
        refine v_cVE hC (y := y_X6_load) (ci := 6) [.int 1, .int i2] [] (fun _ => none) (fun _ => []) hf (fun _ _ _ _ h => m_X6_load h) rfl (fun _ => rfl) rfl rfl hR (Nat.le_of_ble_eq_true rfl) (Nat.le_of_ble_eq_true rfl) w_713 w_710 w_712 w_28 w_64 nm_X6_load rfl (Nat.le_of_ble_eq_true rfl) dX6_power_35 (fun _ σ6 _ _ hf => ?_)
        refine v_aload_n hC 1 dX6_power_38 rfl ?_
        refine v_getR hC (host := "") hf fd_6_5 w_663 dX6_power_39 (fun r7 hf => ?_)
        refine v_iconst (v := 0) hC dX6_power_42 (by decide) ?_
        refine v_at 43 rfl ?_
        refine v_iconst (v := 1) hC dX6_power_43 (by decide) ?_
        refine v_stI hC hf dX6_power_44 (fun σ8 hf => ?_)
        refine v_aload_n hC 1 dX6_power_45 rfl ?_
        refine v_getR hC (host := "") hf fd_6_4 w_662 dX6_power_46 (fun r9 hf => ?_)
        refine v_iconst (v := 0) hC dX6_power_49 (by decide) ?_
        refine v_iconst (v := 1) hC dX6_power_50 (by decide) ?_
        refine v_stI hC hf dX6_power_51 (fun σ10 hf => ?_)
        refine v_aload_n hC 1 dX6_power_52 rfl ?_
        refine v_at 53 rfl ?_
        refine v_getR hC (host := "") hf fd_6_5 w_663 dX6_power_53 (fun r11 hf => ?_)
        refine v_iconst (v := 1) hC dX6_power_56 (by decide) ?_
        refine v_ldI hC hf dX6_power_57 (fun x12 hf => ?_)
        refine v_jnE hf (fun z13 kr sr => V K (kr + 0) (sr + 0) σ10 88 [(0, .ref a0), (1, .int i1), (2, .int i2), (3, .int i3), (4, .long l5)] [.int z13]) (fun z13 _ _ hf => ?_) (fun k13 hk13 hf => ?_)
        · refine v_istore hC [(6, .int z13), (0, .ref a0), (1, .int i1), (2, .int i2), (3, .int i3), (4, .long l5)] dX6_power_88 hN (Nat.le_of_ble_eq_true rfl) rfl ?_
          refine v_aload_n hC 1 dX6_power_90 rfl ?_
          refine v_getR hC (host := "") hf fd_6_5 w_663 dX6_power_91 (fun r14 hf => ?_)
          refine v_iconst (v := 1) hC dX6_power_94 (by decide) ?_
          refine v_ldI hC hf dX6_power_95 (fun x15 hf => ?_)
          refine v_jnE hf (fun z16 kr sr => V K (kr + 0) (sr + 0) z16 110 [(0, .ref a0), (1, .int i1), (2, .int i2), (3, .int i3), (4, .long l5), (6, .int z13)] []) (fun z16 _ _ hf => ?_) (fun k16 hk16 hf => ?_)
          · refine v_iconst (v := 0) hC dX6_power_110 (by decide) ?_
            refine v_istore hC [(7, .int 0), (0, .ref a0), (1, .int i1), (2, .int i2), (3, .int i3), (4, .long l5), (6, .int z13)] dX6_power_111 hN (Nat.le_of_ble_eq_true rfl) rfl ?_
            refine v_at 113 rfl ?_
            refine v_sub [(0, .ref a0), (1, .int i1), (2, .int i2), (3, .int i3), (4, .long l5), (6, .int z13), (7, .int 0)] [1, 2, 3, 4, 5, 6, 0] rfl ?_
            refine v_lpE hf (E_X6_power_L113 K a0 i1 i2 i3 l5) (fun _ _ _ _ _ _ h hE => v_X6_power_L113 hC hR hN _ _ _ _ _ _ _ _ _ _ _ _ _ h hE) (fun y34 σ35 _ _ hf => ?_)
            rcases y34 with z36 | z37
            · show V K _ _ σ35 140 [] []
              refine v_iconst (v := 0) hC dX6_power_140 (by decide) ?_
              exact v_retZ hC hf hE dX6_power_141
            · show V K _ _ σ35 197 [(0, .ref a0), (1, .int i1), (2, .int i2), (3, .int i3), (4, .long l5)] []
              refine v_aload_n hC 0 dX6_power_197 rfl ?_
              refine v_iload_n hC 1 dX6_power_198 rfl ?_
              refine v_iconst (v := 0) hC dX6_power_199 (by decide) ?_
              refine v_iload_n hC 3 dX6_power_200 rfl ?_
              refine v_iconst (v := 2) hC dX6_power_201 (by decide) ?_
              refine v_irem hC hf dX6_power_202 (fun x38 hf => ?_)
              refine v_jnE hf (fun z39 kr sr => V K (kr + 0) (sr + 0) σ35 216 [(4, .long l5)] [.int z39, .int 0, .int i1, .ref a0]) (fun z39 _ _ hf => ?_) (fun k39 hk39 hf => ?_)
              · refine v_lload hC 0 dX6_power_216 rfl ?_
                refine v_cVE hC (y := y_X6_store) (ci := 6) [.int i1, .int 0, .int z39, .long l5] [] (fun r => some (.int r)) (fun r => .int r :: []) hf (fun _ _ _ _ h => m_X6_store h) rfl (fun _ => rfl) rfl rfl hR (Nat.le_of_ble_eq_true rfl) (Nat.le_of_ble_eq_true rfl) w_703 w_700 w_702 w_27 w_64 nm_X6_store rfl (Nat.le_of_ble_eq_true rfl) dX6_power_218 (fun x40 σ41 _ _ hf => ?_)
                exact v_retZ hC hf hE dX6_power_221
              · refine v_if_ne hC hf dX6_power_203 (tgt := 210) (by decide) (fun hf => ?_) (fun hf => ?_)
                · refine v_aload_n hC 0 dX6_power_210 rfl ?_
                  refine v_getR hC (host := "") hf fd_6_2 w_660 dX6_power_211 (fun r42 hf => ?_)
                  refine v_iload_n hC 2 dX6_power_214 rfl ?_
                  refine v_ldI hC hf dX6_power_215 (fun x43 hf => ?_)
                  refine v_at 216 rfl ?_
                  exact v_sub [(4, .long l5)] [4] rfl (hk39 _ _ _ hf)
                · refine v_at 206 rfl ?_
                  refine v_iconst (v := 1) hC dX6_power_206 (by decide) ?_
                  refine v_goto (tgt := 216) hC dX6_power_207 (by decide) ?_
                  exact v_sub [(4, .long l5)] [4] rfl (hk39 _ _ _ hf)
          · refine v_if_ne hC hf dX6_power_96 (tgt := 110) (by decide) (fun hf => ?_) (fun hf => ?_)
            · exact v_sub [(0, .ref a0), (1, .int i1), (2, .int i2), (3, .int i3), (4, .long l5), (6, .int z13)] [1, 2, 3, 4, 5, 0] rfl (hk16 _ _ _ hf)
            · refine v_at 99 rfl ?_
              refine v_iload_n hC 4 dX6_power_99 rfl ?_
              refine v_if_le hC hf dX6_power_100 (tgt := 110) (by decide) (fun hf => ?_) (fun hf => ?_)
              · exact v_sub [(0, .ref a0), (1, .int i1), (2, .int i2), (3, .int i3), (4, .long l5), (6, .int z13)] [1, 2, 3, 4, 5, 0] rfl (hk16 _ _ _ hf)
              · refine v_at 103 rfl ?_
                refine v_aload_n hC 1 dX6_power_103 rfl ?_
                refine v_getR hC (host := "") hf fd_6_5 w_663 dX6_power_104 (fun r44 hf => ?_)
                refine v_iconst (v := 0) hC dX6_power_107 (by decide) ?_
                refine v_iconst (v := 0) hC dX6_power_108 (by decide) ?_
                refine v_stI hC hf dX6_power_109 (fun σ45 hf => ?_)
                refine v_at 110 rfl ?_
                exact v_sub [(0, .ref a0), (1, .int i1), (2, .int i2), (3, .int i3), (4, .long l5), (6, .int z13)] [1, 2, 3, 4, 5, 0] rfl (hk16 _ _ _ hf)
        · refine v_jnE hf (fun z46 kr sr => V K (kr + 0) (sr + 0) σ10 83 [(0, .ref a0), (1, .int i1), (2, .int i2), (3, .int i3), (4, .long l5)] []) (fun z46 _ _ hf => ?_) (fun k46 hk46 hf => ?_)
          · refine v_iconst (v := 1) hC dX6_power_83 (by decide) ?_
            refine v_goto (tgt := 88) hC dX6_power_84 (by decide) ?_
            exact v_sub [(0, .ref a0), (1, .int i1), (2, .int i2), (3, .int i3), (4, .long l5)] [0, 1, 2, 3, 4] rfl (hk13 _ _ _ hf)
          · refine v_if_eq hC hf dX6_power_58 (tgt := 83) (by decide) (fun hf => ?_) (fun hf => ?_)
            · exact v_sub [(0, .ref a0), (1, .int i1), (2, .int i2), (3, .int i3), (4, .long l5)] [1, 2, 3, 4, 0] rfl (hk46 _ _ _ hf)
            · refine v_at 61 rfl ?_
              refine v_aload_n hC 1 dX6_power_61 rfl ?_
              refine v_getR hC (host := "") hf fd_6_5 w_663 dX6_power_62 (fun r47 hf => ?_)
              refine v_iconst (v := 1) hC dX6_power_65 (by decide) ?_
              refine v_ldI hC hf dX6_power_66 (fun x48 hf => ?_)
              refine v_iconst (v := 1) hC dX6_power_67 (by decide) ?_
              refine v_jnE hf (fun z49 kr sr => V K (kr + 0) (sr + 0) σ10 87 [(0, .ref a0), (1, .int i1), (2, .int i2), (3, .int i3), (4, .long l5)] []) (fun z49 _ _ hf => ?_) (fun k49 hk49 hf => ?_)
              · refine v_iconst (v := 0) hC dX6_power_87 (by decide) ?_
                refine v_at 88 rfl ?_
                exact v_sub [(0, .ref a0), (1, .int i1), (2, .int i2), (3, .int i3), (4, .long l5)] [0, 1, 2, 3, 4] rfl (hk13 _ _ _ hf)
              · refine v_icmp_ne hC hf dX6_power_68 (tgt := 87) (by decide) (fun hf => ?_) (fun hf => ?_)
                · exact v_sub [(0, .ref a0), (1, .int i1), (2, .int i2), (3, .int i3), (4, .long l5)] [1, 2, 3, 4, 0] rfl (hk49 _ _ _ hf)
                · refine v_at 71 rfl ?_
                  refine v_aload_n hC 1 dX6_power_71 rfl ?_
                  refine v_getR hC (host := "") hf fd_6_4 w_662 dX6_power_72 (fun r50 hf => ?_)
                  refine v_sipush (v := 17000) hC dX6_power_75 (by decide) ?_
                  refine v_ldI hC hf dX6_power_78 (fun x51 hf => ?_)
                  refine v_iconst (v := 1) hC dX6_power_79 (by decide) ?_
                  refine v_icmp_ne hC hf dX6_power_80 (tgt := 87) (by decide) (fun hf => ?_) (fun hf => ?_)
                  · exact v_sub [(0, .ref a0), (1, .int i1), (2, .int i2), (3, .int i3), (4, .long l5)] [1, 2, 3, 4, 0] rfl (hk49 _ _ _ hf)
                  · refine v_at 83 rfl ?_
                    exact v_sub [(0, .ref a0), (1, .int i1), (2, .int i2), (3, .int i3), (4, .long l5)] [1, 2, 3, 4, 0] rfl (hk46 _ _ _ hf)
      · refine v_at 18 rfl ?_
        refine v_iconst (v := 0) hC dX6_power_18 (by decide) ?_
        exact v_retZ hC hf hE dX6_power_19
set_option maxHeartbeats 4000000 in
set_option maxRecDepth 100000 in
theorem m_X6_divide {G : Gm} {l : Launch} {σ : St} {a0 : Nat} {i1 : Int32} {i2 : Int32} {i3 : Int32} {i4 : Int32} {i5 : Int32} {r : Int32} {σf : St} {k s : Nat} (hf : f_X6_divide σ a0 i1 i2 i3 i4 i5 = some (r, σf, k, s)) : (∃ fs : List Value, σ.1 a0 = some (.inr (.inl (6, fs)))) ∧ Ct G l y_X6_divide prog_8_method_29_code 11 (some .boolean) 4 91 [.ref a0, .int i1, .int i2, .int i3, .int i4, .int i5] σ (some (.int r)) σf k s := by
  unfold f_X6_divide at hf
  obtain ⟨hob, hf⟩ := ob_some hf
  refine ⟨hob, Ct.ofV pl_X6_divide (Nat.le_of_ble_eq_true rfl) ?_⟩
  intro K hR hN hnm hC hE
  show V K (k + 0) (s + 0) σ 0 [(0, .ref a0), (1, .int i1), (2, .int i2), (3, .int i3), (4, .int i4), (5, .int i5)] []
  refine v_iload_n hC 1 dX6_divide_0 rfl ?_
  refine v_cSP hC (y := y_X6_is) [.int i1] [] (fun r => some (.int r)) (fun r => .int r :: []) hf (fun _ h => m_X6_is h) rfl (fun _ => rfl) hR (Nat.le_of_ble_eq_true rfl) (Nat.le_of_ble_eq_true rfl) w_698 w_696 w_697 w_64 nm_X6_is rfl (Nat.le_of_ble_eq_true rfl) dX6_divide_1 (fun x1 hf => ?_)
  refine v_if_eq hC hf dX6_divide_4 (tgt := 38) (by decide) (fun hf => ?_) (fun hf => ?_)
  · refine v_iconst (v := 0) hC dX6_divide_38 (by decide) ?_
    exact v_retZ hC hf hE dX6_divide_39
  · refine v_at 7 rfl ?_
    refine v_iload_n hC 2 dX6_divide_7 rfl ?_
    refine v_cSP hC (y := y_X6_is) [.int i2] [] (fun r => some (.int r)) (fun r => .int r :: []) hf (fun _ h => m_X6_is h) rfl (fun _ => rfl) hR (Nat.le_of_ble_eq_true rfl) (Nat.le_of_ble_eq_true rfl) w_698 w_696 w_697 w_64 nm_X6_is rfl (Nat.le_of_ble_eq_true rfl) dX6_divide_8 (fun x2 hf => ?_)
    refine v_if_eq hC hf dX6_divide_11 (tgt := 38) (by decide) (fun hf => ?_) (fun hf => ?_)
    · refine v_iconst (v := 0) hC dX6_divide_38 (by decide) ?_
      exact v_retZ hC hf hE dX6_divide_39
    · refine v_at 14 rfl ?_
      refine v_iload_n hC 3 dX6_divide_14 rfl ?_
      refine v_cSP hC (y := y_X6_is) [.int i3] [] (fun r => some (.int r)) (fun r => .int r :: []) hf (fun _ h => m_X6_is h) rfl (fun _ => rfl) hR (Nat.le_of_ble_eq_true rfl) (Nat.le_of_ble_eq_true rfl) w_698 w_696 w_697 w_64 nm_X6_is rfl (Nat.le_of_ble_eq_true rfl) dX6_divide_15 (fun x3 hf => ?_)
      refine v_if_eq hC hf dX6_divide_18 (tgt := 38) (by decide) (fun hf => ?_) (fun hf => ?_)
      · refine v_iconst (v := 0) hC dX6_divide_38 (by decide) ?_
        exact v_retZ hC hf hE dX6_divide_39
      · refine v_at 21 rfl ?_
        refine v_iload hC 5 dX6_divide_21 rfl ?_
        refine v_cSP hC (y := y_X6_isRounding) [.int i5] [] (fun r => some (.int r)) (fun r => .int r :: []) hf (fun _ h => m_X6_isRounding h) rfl (fun _ => rfl) hR (Nat.le_of_ble_eq_true rfl) (Nat.le_of_ble_eq_true rfl) w_766 w_764 w_765 w_64 nm_X6_isRounding rfl (Nat.le_of_ble_eq_true rfl) dX6_divide_23 (fun x4 hf => ?_)
        refine v_if_eq hC hf dX6_divide_26 (tgt := 38) (by decide) (fun hf => ?_) (fun hf => ?_)
        · refine v_iconst (v := 0) hC dX6_divide_38 (by decide) ?_
          exact v_retZ hC hf hE dX6_divide_39
        · refine v_at 29 rfl ?_
          refine v_aload_n hC 0 dX6_divide_29 rfl ?_
          refine v_getR hC (host := "") hf fd_6_1 w_659 dX6_divide_30 (fun r5 hf => ?_)
          refine v_iload_n hC 3 dX6_divide_33 rfl ?_
          refine v_ldI hC hf dX6_divide_34 (fun x6 hf => ?_)
          refine v_if_ne hC hf dX6_divide_35 (tgt := 40) (by decide) (fun hf => ?_) (fun hf => ?_)
          · refine v_aload_n hC 0 dX6_divide_40 rfl ?_
            refine v_getR hC (host := "") hf fd_6_2 w_660 dX6_divide_41 (fun r7 hf => ?_)
            refine v_iload_n hC 2 dX6_divide_44 rfl ?_
            refine v_ldI hC hf dX6_divide_45 (fun x8 hf => ?_)
            refine v_aload_n hC 0 dX6_divide_46 rfl ?_
            refine v_getR hC (host := "") hf fd_6_2 w_660 dX6_divide_47 (fun r9 hf => ?_)
            refine v_iload_n hC 3 dX6_divide_50 rfl ?_
            refine v_ldI hC hf dX6_divide_51 (fun x10 hf => ?_)
            refine v_at 52 rfl ?_
            refine v_imul hC dX6_divide_52 ?_
            refine v_ltI hf (fun x11 hf => ?_)
            refine v_istore hC [(6, .int x11), (0, .ref a0), (1, .int i1), (2, .int i2), (3, .int i3), (4, .int i4), (5, .int i5)] dX6_divide_53 hN (Nat.le_of_ble_eq_true rfl) rfl ?_
            refine v_iload hC 5 dX6_divide_55 rfl ?_
            refine v_i2l hC dX6_divide_57 ?_
            refine v_aload_n hC 1 dX6_divide_58 rfl ?_
            refine v_getR hC (host := "") hf fd_6_3 w_661 dX6_divide_59 (fun r12 hf => ?_)
            refine v_iload_n hC 3 dX6_divide_62 rfl ?_
            refine v_ldI hC hf dX6_divide_63 (fun x13 hf => ?_)
            refine v_at 64 rfl ?_
            refine v_i2l hC dX6_divide_64 ?_
            refine v_lsub hC dX6_divide_65 ?_
            refine v_aload_n hC 1 dX6_divide_66 rfl ?_
            refine v_getR hC (host := "") hf fd_6_3 w_661 dX6_divide_67 (fun r14 hf => ?_)
            refine v_iload_n hC 4 dX6_divide_70 rfl ?_
            refine v_ldI hC hf dX6_divide_71 (fun x15 hf => ?_)
            refine v_i2l hC dX6_divide_72 ?_
            refine v_ladd hC dX6_divide_73 ?_
            refine v_at 74 rfl ?_
            refine v_ltL hf (fun l16 hf => ?_)
            refine v_lstore hC [(7, .long l16), (6, .int x11), (0, .ref a0), (1, .int i1), (2, .int i2), (3, .int i3), (4, .int i4), (5, .int i5)] dX6_divide_74 hN (Nat.le_of_ble_eq_true rfl) rfl ?_
            refine v_aload_n hC 2 dX6_divide_76 rfl ?_
            refine v_iconst (v := 0) hC dX6_divide_77 (by decide) ?_
            refine v_iload_n hC 4 dX6_divide_78 rfl ?_
            refine v_cVE hC (y := y_X6_load) (ci := 6) [.int 0, .int i2] [] (fun _ => none) (fun _ => []) hf (fun _ _ _ _ h => m_X6_load h) rfl (fun _ => rfl) rfl rfl hR (Nat.le_of_ble_eq_true rfl) (Nat.le_of_ble_eq_true rfl) w_713 w_710 w_712 w_28 w_64 nm_X6_load rfl (Nat.le_of_ble_eq_true rfl) dX6_divide_79 (fun _ σ17 _ _ hf => ?_)
            refine v_aload_n hC 2 dX6_divide_82 rfl ?_
            refine v_iconst (v := 1) hC dX6_divide_83 (by decide) ?_
            refine v_iload_n hC 5 dX6_divide_84 rfl ?_
            refine v_at 85 rfl ?_
            refine v_cVE hC (y := y_X6_load) (ci := 6) [.int 1, .int i3] [] (fun _ => none) (fun _ => []) hf (fun _ _ _ _ h => m_X6_load h) rfl (fun _ => rfl) rfl rfl hR (Nat.le_of_ble_eq_true rfl) (Nat.le_of_ble_eq_true rfl) w_713 w_710 w_712 w_28 w_64 nm_X6_load rfl (Nat.le_of_ble_eq_true rfl) dX6_divide_85 (fun _ σ18 _ _ hf => ?_)
            refine v_aload_n hC 2 dX6_divide_88 rfl ?_
            refine v_getR hC (host := "") hf fd_6_1 w_659 dX6_divide_89 (fun r19 hf => ?_)
            refine v_iload_n hC 4 dX6_divide_92 rfl ?_
            refine v_ldI hC hf dX6_divide_93 (fun x20 hf => ?_)
            refine v_i2l hC dX6_divide_94 ?_
            refine v_lload hC 0 dX6_divide_95 rfl ?_
            refine v_ladd hC dX6_divide_97 ?_
            refine v_at 98 rfl ?_
            refine v_aload_n hC 2 dX6_divide_98 rfl ?_
            refine v_getR hC (host := "") hf fd_6_1 w_659 dX6_divide_99 (fun r21 hf => ?_)
            refine v_iload_n hC 5 dX6_divide_102 rfl ?_
            refine v_ldI hC hf dX6_divide_103 (fun x22 hf => ?_)
            refine v_i2l hC dX6_divide_104 ?_
            refine v_lsub hC dX6_divide_105 ?_
            refine v_ltL hf (fun l23 hf => ?_)
            refine v_lstore hC [(9, .long l23), (7, .long l16), (6, .int x11), (0, .ref a0), (1, .int i1), (2, .int i2), (3, .int i3), (4, .int i4), (5, .int i5)] dX6_divide_106 hN (Nat.le_of_ble_eq_true rfl) rfl ?_
            refine v_aload_n hC 3 dX6_divide_108 rfl ?_
            refine v_at 109 rfl ?_
            refine v_iconst (v := 0) hC dX6_divide_109 (by decide) ?_
            refine v_put hC hf fd_6_6 w_664 rfl rfl dX6_divide_110 (fun σ24 hf => ?_)
            refine v_aload_n hC 3 dX6_divide_113 rfl ?_
            refine v_getR hC (host := "") hf fd_6_5 w_663 dX6_divide_114 (fun r25 hf => ?_)
            refine v_iconst (v := 0) hC dX6_divide_117 (by decide) ?_
            refine v_ldI hC hf dX6_divide_118 (fun x26 hf => ?_)
            refine v_if_ne hC hf dX6_divide_119 (tgt := 133) (by decide) (fun hf => ?_) (fun hf => ?_)
            · refine v_lload hC 0 dX6_divide_133 rfl ?_
              refine v_ldc2 hC dX6_divide_135 w_767 ?_
              refine v_lcmp_le hC hf dX6_divide_138 dX6_divide_139 (tgt := 144) (by decide) (fun hf => ?_) (fun hf => ?_)
              · refine v_lload hC 0 dX6_divide_144 rfl ?_
                refine v_ldc2 hC dX6_divide_146 w_768 ?_
                refine v_jnE hf (fun z27 kr sr => V K (kr + 0) (sr + 0) z27 199 [(0, .ref a0), (1, .int i1), (4, .int i4), (5, .int i5), (6, .int x11)] []) (fun z27 _ _ hf => ?_) (fun k27 hk27 hf => ?_)
                · refine v_aload_n hC 0 dX6_divide_199 rfl ?_
                  refine v_iload_n hC 1 dX6_divide_200 rfl ?_
                  refine v_iconst (v := 2) hC dX6_divide_201 (by decide) ?_
                  refine v_iload hC 4 dX6_divide_202 rfl ?_
                  refine v_iload hC 2 dX6_divide_204 rfl ?_
                  refine v_i2l hC dX6_divide_206 ?_
                  refine v_iload hC 3 dX6_divide_207 rfl ?_
                  refine v_cVE hC (y := y_X6_finish) (ci := 6) [.int i1, .int 2, .int x11, .long ((i4 : Int32).toInt64), .int i5] [] (fun r => some (.int r)) (fun r => .int r :: []) hf (fun _ _ _ _ h => m_X6_finish h) rfl (fun _ => rfl) rfl rfl hR (Nat.le_of_ble_eq_true rfl) (Nat.le_of_ble_eq_true rfl) w_785 w_782 w_784 w_39 w_64 nm_X6_finish rfl (Nat.le_of_ble_eq_true rfl) dX6_divide_209 (fun x28 σ29 _ _ hf => ?_)
                  refine v_at 212 rfl ?_
                  exact v_retZ hC hf hE dX6_divide_212
                · refine v_lcmp_ge hC hf dX6_divide_149 dX6_divide_150 (tgt := 168) (by decide) (fun hf => ?_) (fun hf => ?_)
                  · refine v_lload hC 1 dX6_divide_168 rfl ?_
                    refine v_lconst (v := 0) hC dX6_divide_170 (by decide) ?_
                    refine v_jnE hf (fun z30 kr sr => V K (kr + 0) (sr + 0) z30 195 [(0, .ref a0), (1, .int i1), (4, .int i4), (5, .int i5), (6, .int x11)] []) (fun z30 _ _ hf => ?_) (fun k30 hk30 hf => ?_)
                    · refine v_aload_n hC 0 dX6_divide_195 rfl ?_
                      refine v_cVE hC (y := y_X6_quotient) (ci := 6) [] [] (fun _ => none) (fun _ => []) hf (fun _ _ _ _ h => m_X6_quotient h) rfl (fun _ => rfl) rfl rfl hR (Nat.le_of_ble_eq_true rfl) (Nat.le_of_ble_eq_true rfl) w_772 w_769 w_771 w_36 w_64 nm_X6_quotient rfl (Nat.le_of_ble_eq_true rfl) dX6_divide_196 (fun _ σ31 _ _ hf => ?_)
                      refine v_at 199 rfl ?_
                      exact v_sub [(0, .ref a0), (1, .int i1), (4, .int i4), (5, .int i5), (6, .int x11)] [0, 1, 2, 3, 4] rfl (hk27 _ _ _ hf)
                    · refine v_lcmp_lt hC hf dX6_divide_171 dX6_divide_172 (tgt := 186) (by decide) (fun hf => ?_) (fun hf => ?_)
                      · refine v_aload_n hC 3 dX6_divide_186 rfl ?_
                        refine v_iconst (v := 1) hC dX6_divide_187 (by decide) ?_
                        refine v_lload hC 1 dX6_divide_188 rfl ?_
                        refine v_lneg hC dX6_divide_190 ?_
                        refine v_l2i hC dX6_divide_191 ?_
                        refine v_cVE hC (y := y_X6_raise) (ci := 6) [.int 1, .int (((-l16) : Int64).toInt32)] [] (fun _ => none) (fun _ => []) hf (fun _ _ _ _ h => m_X6_raise h) rfl (fun _ => rfl) rfl rfl hR (Nat.le_of_ble_eq_true rfl) (Nat.le_of_ble_eq_true rfl) w_726 w_723 w_725 w_30 w_64 nm_X6_raise rfl (Nat.le_of_ble_eq_true rfl) dX6_divide_192 (fun _ σ32 _ _ hf => ?_)
                        refine v_at 195 rfl ?_
                        exact v_sub [(0, .ref a0), (1, .int i1), (4, .int i4), (5, .int i5), (6, .int x11)] [3, 4, 7, 8, 2] rfl (hk30 _ _ _ hf)
                      · refine v_at 175 rfl ?_
                        refine v_aload_n hC 3 dX6_divide_175 rfl ?_
                        refine v_iconst (v := 0) hC dX6_divide_176 (by decide) ?_
                        refine v_lload hC 1 dX6_divide_177 rfl ?_
                        refine v_l2i hC dX6_divide_179 ?_
                        refine v_cVE hC (y := y_X6_raise) (ci := 6) [.int 0, .int ((l16 : Int64).toInt32)] [] (fun _ => none) (fun _ => []) hf (fun _ _ _ _ h => m_X6_raise h) rfl (fun _ => rfl) rfl rfl hR (Nat.le_of_ble_eq_true rfl) (Nat.le_of_ble_eq_true rfl) w_726 w_723 w_725 w_30 w_64 nm_X6_raise rfl (Nat.le_of_ble_eq_true rfl) dX6_divide_180 (fun _ σ33 _ _ hf => ?_)
                        refine v_goto (tgt := 195) hC dX6_divide_183 (by decide) ?_
                        exact v_sub [(0, .ref a0), (1, .int i1), (4, .int i4), (5, .int i5), (6, .int x11)] [3, 4, 7, 8, 2] rfl (hk30 _ _ _ hf)
                  · refine v_at 153 rfl ?_
                    refine v_aload_n hC 3 dX6_divide_153 rfl ?_
                    refine v_getR hC (host := "") hf fd_6_5 w_663 dX6_divide_154 (fun r34 hf => ?_)
                    refine v_iconst (v := 2) hC dX6_divide_157 (by decide) ?_
                    refine v_iconst (v := 0) hC dX6_divide_158 (by decide) ?_
                    refine v_stI hC hf dX6_divide_159 (fun σ35 hf => ?_)
                    refine v_aload_n hC 3 dX6_divide_160 rfl ?_
                    refine v_iconst (v := 1) hC dX6_divide_161 (by decide) ?_
                    refine v_put hC hf fd_6_6 w_664 rfl rfl dX6_divide_162 (fun σ36 hf => ?_)
                    refine v_at 165 rfl ?_
                    refine v_goto (tgt := 199) hC dX6_divide_165 (by decide) ?_
                    exact v_sub [(0, .ref a0), (1, .int i1), (4, .int i4), (5, .int i5), (6, .int x11)] [3, 4, 7, 8, 2] rfl (hk27 _ _ _ hf)
              · refine v_at 142 rfl ?_
                refine v_iconst (v := 0) hC dX6_divide_142 (by decide) ?_
                exact v_retZ hC hf hE dX6_divide_143
            · refine v_at 122 rfl ?_
              refine v_aload_n hC 3 dX6_divide_122 rfl ?_
              refine v_iload_n hC 4 dX6_divide_123 rfl ?_
              refine v_iconst (v := 0) hC dX6_divide_124 (by decide) ?_
              refine v_iconst (v := 0) hC dX6_divide_125 (by decide) ?_
              refine v_iload hC 7 dX6_divide_126 rfl ?_
              refine v_i2l hC dX6_divide_128 ?_
              refine v_cVE hC (y := y_X6_store) (ci := 6) [.int i1, .int 0, .int 0, .long ((i4 : Int32).toInt64)] [] (fun r => some (.int r)) (fun r => .int r :: []) hf (fun _ _ _ _ h => m_X6_store h) rfl (fun _ => rfl) rfl rfl hR (Nat.le_of_ble_eq_true rfl) (Nat.le_of_ble_eq_true rfl) w_703 w_700 w_702 w_27 w_64 nm_X6_store rfl (Nat.le_of_ble_eq_true rfl) dX6_divide_129 (fun x37 σ38 _ _ hf => ?_)
              exact v_retZ hC hf hE dX6_divide_132
          · refine v_at 38 rfl ?_
            refine v_iconst (v := 0) hC dX6_divide_38 (by decide) ?_
            exact v_retZ hC hf hE dX6_divide_39
