set_option maxHeartbeats 4000000 in
set_option maxRecDepth 100000 in
theorem m_X5_write {G : Gm} {l : Launch} {σ : St} {a0 : Nat} {i1 : Int32} {i2 : Int32} {r : Int32} {σf : St} {k s : Nat} (hf : f_X5_write σ a0 i1 i2 = some (r, σf, k, s)) : (∃ fs : List Value, σ.1 a0 = some (.inr (.inl (5, fs)))) ∧ Ct G l y_X5_write prog_1_method_23_code 4 (some .int) 6 140 [.ref a0, .int i1, .int i2] σ (some (.int r)) σf k s := by
  unfold f_X5_write at hf
  obtain ⟨hob, hf⟩ := ob_some hf
  refine ⟨hob, Ct.ofV pl_X5_write (Nat.le_of_ble_eq_true rfl) ?_⟩
  intro K hR hN hnm hC hE
  show V K (k + 0) (s + 0) σ 0 [(0, .ref a0), (1, .int i1), (2, .int i2)] []
  refine v_iload_n hC 1 dX5_write_0 rfl ?_
  refine v_cSP hC (y := y_X5_isRegister) [.int i1] [] (fun r => some (.int r)) (fun r => .int r :: []) hf (fun _ h => m_X5_isRegister h) rfl (fun _ => rfl) hR (Nat.le_of_ble_eq_true rfl) (Nat.le_of_ble_eq_true rfl) w_228 w_226 w_227 w_58 nm_X5_isRegister rfl (Nat.le_of_ble_eq_true rfl) dX5_write_1 (fun x1 hf => ?_)
  refine v_if_eq hC hf dX5_write_4 (tgt := 16) (by decide) (fun hf => ?_) (fun hf => ?_)
  · refine v_iconst (v := (-1)) hC dX5_write_16 (by decide) ?_
    exact v_retI hC hf hE dX5_write_17
  · refine v_at 7 rfl ?_
    refine v_iload_n hC 2 dX5_write_7 rfl ?_
    refine v_if_lt hC hf dX5_write_8 (tgt := 16) (by decide) (fun hf => ?_) (fun hf => ?_)
    · refine v_iconst (v := (-1)) hC dX5_write_16 (by decide) ?_
      exact v_retI hC hf hE dX5_write_17
    · refine v_at 11 rfl ?_
      refine v_iload_n hC 2 dX5_write_11 rfl ?_
      refine v_iconst (v := 2) hC dX5_write_12 (by decide) ?_
      refine v_icmp_le hC hf dX5_write_13 (tgt := 18) (by decide) (fun hf => ?_) (fun hf => ?_)
      · refine v_aload_n hC 0 dX5_write_18 rfl ?_
        refine v_getR hC (host := "") hf fd_5_0 w_185 dX5_write_19 (fun r2 hf => ?_)
        refine v_iload_n hC 1 dX5_write_22 rfl ?_
        refine v_ldA hC hf dX5_write_23 (fun r3 hf => ?_)
        refine v_astore_n hC [(3, .ref r3), (0, .ref a0), (1, .int i1), (2, .int i2)] dX5_write_24 rfl hN (Nat.le_of_ble_eq_true rfl) rfl ?_
        refine v_aload_n hC 1 dX5_write_25 rfl ?_
        refine v_getR hC (host := "") hf fd_5_7 w_192 dX5_write_26 (fun r4 hf => ?_)
        refine v_aload_n hC 0 dX5_write_29 rfl ?_
        refine v_at 30 rfl ?_
        refine v_iload_n hC 3 dX5_write_30 rfl ?_
        refine v_cVE hC (y := y_X1_plan) (ci := 1) [.ref r3, .int i2] [] (fun _ => none) (fun _ => []) hf (fun _ _ _ _ h => m_X1_plan h) rfl (fun _ => rfl) rfl rfl hR (Nat.le_of_ble_eq_true rfl) (Nat.le_of_ble_eq_true rfl) w_606 w_603 w_604 w_605 w_62 nm_X1_plan rfl (Nat.le_of_ble_eq_true rfl) dX5_write_31 (fun _ σ5 _ _ hf => ?_)
        refine v_aload_n hC 1 dX5_write_34 rfl ?_
        refine v_getR hC (host := "") hf fd_5_7 w_192 dX5_write_35 (fun r6 hf => ?_)
        refine v_cVP hC (y := y_X1_length) (ci := 1) [] [] (fun r => some (.long r)) (fun r => .long r :: []) hf (fun _ h => m_X1_length h) rfl (fun _ => rfl) rfl rfl hR (Nat.le_of_ble_eq_true rfl) (Nat.le_of_ble_eq_true rfl) w_622 w_619 w_620 w_621 w_62 nm_X1_length rfl (Nat.le_of_ble_eq_true rfl) dX5_write_38 (fun l7 hf => ?_)
        refine v_ldc2 hC dX5_write_41 w_632 ?_
        refine v_lcmp_le hC hf dX5_write_44 dX5_write_45 (tgt := 50) (by decide) (fun hf => ?_) (fun hf => ?_)
        · refine v_aload_n hC 1 dX5_write_50 rfl ?_
          refine v_getR hC (host := "") hf fd_5_7 w_192 dX5_write_51 (fun r8 hf => ?_)
          refine v_aload_n hC 0 dX5_write_54 rfl ?_
          refine v_getRN hC hf fd_0_0 n_15 dX5_write_55 (fun r9 hf => ?_)
          refine v_aload_n hC 1 dX5_write_58 rfl ?_
          refine v_getR hC (host := "") hf fd_5_5 w_190 dX5_write_59 (fun r10 hf => ?_)
          refine v_cVE hC (y := y_X1_lay) (ci := 1) [.ref r9, .ref r10] [] (fun _ => none) (fun _ => []) hf (fun _ _ _ _ h => m_X1_lay h) rfl (fun _ => rfl) rfl rfl hR (Nat.le_of_ble_eq_true rfl) (Nat.le_of_ble_eq_true rfl) w_636 w_633 w_634 w_635 w_62 nm_X1_lay rfl (Nat.le_of_ble_eq_true rfl) dX5_write_62 (fun _ σ11 _ _ hf => ?_)
          refine v_aload_n hC 1 dX5_write_65 rfl ?_
          refine v_at 66 rfl ?_
          refine v_getR hC (host := "") hf fd_5_5 w_190 dX5_write_66 (fun r12 hf => ?_)
          refine v_getIN hC hf fd_4_1 n_4 dX5_write_69 (fun x13 hf => ?_)
          exact v_retI hC hf hE dX5_write_72
        · refine v_at 48 rfl ?_
          refine v_iconst (v := (-1)) hC dX5_write_48 (by decide) ?_
          exact v_retI hC hf hE dX5_write_49
      · refine v_at 16 rfl ?_
        refine v_iconst (v := (-1)) hC dX5_write_16 (by decide) ?_
        exact v_retI hC hf hE dX5_write_17
set_option maxHeartbeats 4000000 in
set_option maxRecDepth 100000 in
theorem m_X5_characterAt {G : Gm} {l : Launch} {σ : St} {a0 : Nat} {i1 : Int32} {r : Int32} (hf : f_X5_characterAt σ a0 i1 = some r) : (∃ fs : List Value, σ.1 a0 = some (.inr (.inl (5, fs)))) ∧ Ct G l y_X5_characterAt prog_1_method_24_code 2 (some .int) 1 21 [.ref a0, .int i1] σ (some (.int r)) σ 0 0 := by
  unfold f_X5_characterAt at hf
  obtain ⟨hob, hf⟩ := ob_some hf
  refine ⟨hob, Ct.ofV pl_X5_characterAt (Nat.le_of_ble_eq_true rfl) ?_⟩
  intro K hR hN hnm hC hE
  show V K 0 0 σ 0 [(0, .ref a0), (1, .int i1)] []
  refine v_aload_n hC 0 dX5_characterAt_0 rfl ?_
  refine v_getR hC (host := "") hf fd_5_5 w_190 dX5_characterAt_1 (fun r1 hf => ?_)
  refine v_iload_n hC 1 dX5_characterAt_4 rfl ?_
  refine v_cVP hC (y := y_X4_codeAt) (ci := 4) [.int i1] [] (fun r => some (.int r)) (fun r => .int r :: []) hf (fun _ h => m_X4_codeAt h) rfl (fun _ => rfl) rfl rfl hR (Nat.le_of_ble_eq_true rfl) (Nat.le_of_ble_eq_true rfl) w_572 w_649 w_570 w_571 w_60 nm_X4_codeAt rfl (Nat.le_of_ble_eq_true rfl) dX5_characterAt_5 (fun x2 hf => ?_)
  exact v_retIP hC hf hE dX5_characterAt_8
set_option maxHeartbeats 4000000 in
set_option maxRecDepth 100000 in
theorem m_X6_init {G : Gm} {l : Launch} {σ : St} {a0 : Nat} {r : Unit} {σf : St} {k s : Nat} (hf : f_X6_init σ a0 = some (r, σf, k, s)) : Ct G l y_X6_init prog_8_method_1_code 1 none 1 20 [.ref a0] σ none σf k s := by
  unfold f_X6_init at hf
  refine Ct.ofV pl_X6_init (Nat.le_of_ble_eq_true rfl) ?_
  intro K hR hN hnm hC hE
  show V K (k + 0) (s + 0) σ 0 [(0, .ref a0)] []
  refine v_aload_n hC 0 dX6_init_0 rfl ?_
  refine v_oinit hC hR (Nat.le_of_ble_eq_true rfl) (Nat.le_of_ble_eq_true rfl) w_655 w_75 w_76 (Nat.le_of_ble_eq_true rfl) dX6_init_1 ?_
  refine v_aload_n hC 0 dX6_init_4 rfl ?_
  refine v_ldc hC dX6_init_5 w_656 ?_
  refine v_newI hC hf w_92 dX6_init_7 (fun r1 σ2 _ _ hf => ?_)
  refine v_putF hC hf hnm rfl fd_6_0 w_658 rfl rfl dX6_init_9 (fun σ3 hf => ?_)
  refine v_aload_n hC 0 dX6_init_12 rfl ?_
  refine v_bipush (v := 8) hC dX6_init_13 (by decide) ?_
  refine v_at 15 rfl ?_
  refine v_newI hC hf w_92 dX6_init_15 (fun r4 σ5 _ _ hf => ?_)
  refine v_putF hC hf hnm rfl fd_6_1 w_659 rfl rfl dX6_init_17 (fun σ6 hf => ?_)
  refine v_aload_n hC 0 dX6_init_20 rfl ?_
  refine v_bipush (v := 8) hC dX6_init_21 (by decide) ?_
  refine v_newI hC hf w_92 dX6_init_23 (fun r7 σ8 _ _ hf => ?_)
  refine v_putF hC hf hnm rfl fd_6_2 w_660 rfl rfl dX6_init_25 (fun σ9 hf => ?_)
  refine v_aload_n hC 0 dX6_init_28 rfl ?_
  refine v_bipush (v := 8) hC dX6_init_29 (by decide) ?_
  refine v_at 31 rfl ?_
  refine v_newI hC hf w_92 dX6_init_31 (fun r10 σ11 _ _ hf => ?_)
  refine v_putF hC hf hnm rfl fd_6_3 w_661 rfl rfl dX6_init_33 (fun σ12 hf => ?_)
  refine v_aload_n hC 0 dX6_init_36 rfl ?_
  refine v_ldc hC dX6_init_37 w_657 ?_
  refine v_newI hC hf w_92 dX6_init_39 (fun r13 σ14 _ _ hf => ?_)
  refine v_putF hC hf hnm rfl fd_6_4 w_662 rfl rfl dX6_init_41 (fun σ15 hf => ?_)
  refine v_aload_n hC 0 dX6_init_44 rfl ?_
  refine v_iconst (v := 4) hC dX6_init_45 (by decide) ?_
  refine v_at 46 rfl ?_
  refine v_newI hC hf w_92 dX6_init_46 (fun r16 σ17 _ _ hf => ?_)
  refine v_putF hC hf hnm rfl fd_6_5 w_663 rfl rfl dX6_init_48 (fun σ18 hf => ?_)
  refine v_aload_n hC 0 dX6_init_51 rfl ?_
  refine v_sipush (v := 6000) hC dX6_init_52 (by decide) ?_
  refine v_newI hC hf w_92 dX6_init_55 (fun r19 σ20 _ _ hf => ?_)
  refine v_putF hC hf hnm rfl fd_6_8 w_666 rfl rfl dX6_init_57 (fun σ21 hf => ?_)
  refine v_aload_n hC 0 dX6_init_60 rfl ?_
  refine v_sipush (v := 6000) hC dX6_init_61 (by decide) ?_
  refine v_at 64 rfl ?_
  refine v_newI hC hf w_92 dX6_init_64 (fun r22 σ23 _ _ hf => ?_)
  refine v_putF hC hf hnm rfl fd_6_10 w_668 rfl rfl dX6_init_66 (fun σ24 hf => ?_)
  exact v_retV hC hf hE dX6_init_69
set_option maxHeartbeats 4000000 in
set_option maxRecDepth 100000 in
theorem m_X6_is {G : Gm} {l : Launch} {σ : St} {i0 : Int32} {r : Int32} (hf : f_X6_is σ i0 = some r) : Ct G l y_X6_is prog_8_method_2_code 1 (some .boolean) 0 0 [.int i0] σ (some (.int r)) σ 0 0 := by
  unfold f_X6_is at hf
  refine Ct.ofV pl_X6_is (Nat.le_of_ble_eq_true rfl) ?_
  intro K hR hN hnm hC hE
  show V K 0 0 σ 0 [(0, .int i0)] []
  refine v_iload_n hC 0 dX6_is_0 rfl ?_
  refine v_if_lt hC hf dX6_is_1 (tgt := 14) (by decide) (fun hf => ?_) (fun hf => ?_)
  · refine v_iconst (v := 0) hC dX6_is_14 (by decide) ?_
    exact v_retZP hC hf hE dX6_is_15
  · refine v_at 4 rfl ?_
    refine v_iload_n hC 0 dX6_is_4 rfl ?_
    refine v_bipush (v := 8) hC dX6_is_5 (by decide) ?_
    refine v_icmp_ge hC hf dX6_is_7 (tgt := 14) (by decide) (fun hf => ?_) (fun hf => ?_)
    · refine v_iconst (v := 0) hC dX6_is_14 (by decide) ?_
      exact v_retZP hC hf hE dX6_is_15
    · refine v_at 10 rfl ?_
      refine v_iconst (v := 1) hC dX6_is_10 (by decide) ?_
      refine v_goto (tgt := 15) hC dX6_is_11 (by decide) ?_
      exact v_retZP hC hf hE dX6_is_15
set_option maxHeartbeats 4000000 in
set_option maxRecDepth 100000 in
theorem m_X6_isRounding {G : Gm} {l : Launch} {σ : St} {i0 : Int32} {r : Int32} (hf : f_X6_isRounding σ i0 = some r) : Ct G l y_X6_isRounding prog_8_method_3_code 1 (some .boolean) 0 0 [.int i0] σ (some (.int r)) σ 0 0 := by
  unfold f_X6_isRounding at hf
  refine Ct.ofV pl_X6_isRounding (Nat.le_of_ble_eq_true rfl) ?_
  intro K hR hN hnm hC hE
  show V K 0 0 σ 0 [(0, .int i0)] []
  refine v_iload_n hC 0 dX6_isRounding_0 rfl ?_
  refine v_if_lt hC hf dX6_isRounding_1 (tgt := 14) (by decide) (fun hf => ?_) (fun hf => ?_)
  · refine v_iconst (v := 0) hC dX6_isRounding_14 (by decide) ?_
    exact v_retZP hC hf hE dX6_isRounding_15
  · refine v_at 4 rfl ?_
    refine v_iload_n hC 0 dX6_isRounding_4 rfl ?_
    refine v_bipush (v := 8) hC dX6_isRounding_5 (by decide) ?_
    refine v_icmp_ge hC hf dX6_isRounding_7 (tgt := 14) (by decide) (fun hf => ?_) (fun hf => ?_)
    · refine v_iconst (v := 0) hC dX6_isRounding_14 (by decide) ?_
      exact v_retZP hC hf hE dX6_isRounding_15
    · refine v_at 10 rfl ?_
      refine v_iconst (v := 1) hC dX6_isRounding_10 (by decide) ?_
      refine v_goto (tgt := 15) hC dX6_isRounding_11 (by decide) ?_
      exact v_retZP hC hf hE dX6_isRounding_15
set_option maxHeartbeats 4000000 in
set_option maxRecDepth 100000 in
theorem m_X6_isPrecision {G : Gm} {l : Launch} {σ : St} {i0 : Int32} {r : Int32} (hf : f_X6_isPrecision σ i0 = some r) : Ct G l y_X6_isPrecision prog_8_method_4_code 1 (some .boolean) 0 0 [.int i0] σ (some (.int r)) σ 0 0 := by
  unfold f_X6_isPrecision at hf
  refine Ct.ofV pl_X6_isPrecision (Nat.le_of_ble_eq_true rfl) ?_
  intro K hR hN hnm hC hE
  show V K 0 0 σ 0 [(0, .int i0)] []
  refine v_iload_n hC 0 dX6_isPrecision_0 rfl ?_
  refine v_if_lt hC hf dX6_isPrecision_1 (tgt := 15) (by decide) (fun hf => ?_) (fun hf => ?_)
  · refine v_iconst (v := 0) hC dX6_isPrecision_15 (by decide) ?_
    exact v_retZP hC hf hE dX6_isPrecision_16
  · refine v_at 4 rfl ?_
    refine v_iload_n hC 0 dX6_isPrecision_4 rfl ?_
    refine v_sipush (v := 4096) hC dX6_isPrecision_5 (by decide) ?_
    refine v_icmp_gt hC hf dX6_isPrecision_8 (tgt := 15) (by decide) (fun hf => ?_) (fun hf => ?_)
    · refine v_iconst (v := 0) hC dX6_isPrecision_15 (by decide) ?_
      exact v_retZP hC hf hE dX6_isPrecision_16
    · refine v_at 11 rfl ?_
      refine v_iconst (v := 1) hC dX6_isPrecision_11 (by decide) ?_
      refine v_goto (tgt := 16) hC dX6_isPrecision_12 (by decide) ?_
      exact v_retZP hC hf hE dX6_isPrecision_16
def E_X6_trim_L2 (K : Cq) (kr sr : Nat) (σ : St) (a0 : Nat) (i1 : Int32) (y : Int32) : Prop := V K kr sr σ 29 [(0, .ref a0), (1, .int i1), (3, .int y)] []
set_option maxHeartbeats 4000000 in
set_option maxRecDepth 100000 in
theorem v_X6_trim_L2 {K : Cq} {k0 s0 : Nat} (hC : Cx K prog_8_method_5_code "TensMillModel") (hR : kR K = rmF 0 0 k0 s0) (hN : kn K = 4) {kr sr : Nat} : ∀ (n : Nat) (σ : St) (a0 : Nat) (i1 : Int32) (i3 : Int32) (y : Int32), f_X6_trim_L2 n σ a0 i1 i3 = some y → E_X6_trim_L2 K kr sr σ a0 i1 y → V K kr sr σ 2 [(0, .ref a0), (1, .int i1), (3, .int i3)] [] := by
  intro n
  induction n with
  | zero =>
    intro σ a0 i1 i3 y hf hE
    cases hf
  | succ n ih =>
    intro σ a0 i1 i3 y hf hE
    replace hf : b_X6_trim_L2 (f_X6_trim_L2 n) σ a0 i1 i3 = some y := hf
    unfold b_X6_trim_L2 at hf
    refine v_iload_n hC 2 dX6_trim_2 rfl ?_
    refine v_if_le hC hf dX6_trim_3 (tgt := 29) (by decide) (fun hf => ?_) (fun hf => ?_)
    · exact v_sub [(0, .ref a0), (1, .int i1), (3, .int i3)] [0, 1, 2] rfl (v_exP (E := E_X6_trim_L2 K _ _ _ a0 i1) hf hE)
    · refine v_at 6 rfl ?_
      refine v_aload_n hC 0 dX6_trim_6 rfl ?_
      refine v_getR hC (host := "") hf fd_6_4 w_662 dX6_trim_7 (fun r1 hf => ?_)
      refine v_sipush (v := 17000) hC dX6_trim_10 (by decide) ?_
      refine v_iload_n hC 1 dX6_trim_13 rfl ?_
      refine v_imul hC dX6_trim_14 ?_
      refine v_iload_n hC 2 dX6_trim_15 rfl ?_
      refine v_iadd hC dX6_trim_16 ?_
      refine v_iconst (v := 1) hC dX6_trim_17 (by decide) ?_
      refine v_at 18 rfl ?_
      refine v_isub hC dX6_trim_18 ?_
      refine v_ldI hC hf dX6_trim_19 (fun x2 hf => ?_)
      refine v_if_ne hC hf dX6_trim_20 (tgt := 29) (by decide) (fun hf => ?_) (fun hf => ?_)
      · exact v_sub [(0, .ref a0), (1, .int i1), (3, .int i3)] [0, 1, 2] rfl (v_exP (E := E_X6_trim_L2 K _ _ _ a0 i1) hf hE)
      · refine v_at 23 rfl ?_
        refine v_incL hC hf 2 (fun x3 => [(3, .int x3), (0, .ref a0), (1, .int i1)]) dX6_trim_23 rfl (by decide) hN (Nat.le_of_ble_eq_true rfl) (fun _ => rfl) (fun x3 hf => ?_)
        refine v_goto (tgt := 2) hC dX6_trim_26 (by decide) ?_
        exact v_sub [(0, .ref a0), (1, .int i1), (3, .int x3)] [1, 2, 0] rfl (ih _ _ _ _ _ hf hE)
set_option maxHeartbeats 4000000 in
set_option maxRecDepth 100000 in
theorem m_X6_trim {G : Gm} {l : Launch} {σ : St} {a0 : Nat} {i1 : Int32} {i2 : Int32} {r : Unit} {σf : St} {k s : Nat} (hf : f_X6_trim σ a0 i1 i2 = some (r, σf, k, s)) : (∃ fs : List Value, σ.1 a0 = some (.inr (.inl (6, fs)))) ∧ Ct G l y_X6_trim prog_8_method_5_code 4 none 0 0 [.ref a0, .int i1, .int i2] σ none σf k s := by
  unfold f_X6_trim at hf
  obtain ⟨hob, hf⟩ := ob_some hf
  refine ⟨hob, Ct.ofV pl_X6_trim (Nat.le_of_ble_eq_true rfl) ?_⟩
  intro K hR hN hnm hC hE
  show V K (k + 0) (s + 0) σ 0 [(0, .ref a0), (1, .int i1), (2, .int i2)] []
  refine v_iload_n hC 2 dX6_trim_0 rfl ?_
  refine v_istore_n hC [(3, .int i2), (0, .ref a0), (1, .int i1), (2, .int i2)] dX6_trim_1 rfl hN (Nat.le_of_ble_eq_true rfl) rfl ?_
  refine v_at 2 rfl ?_
  refine v_sub [(0, .ref a0), (1, .int i1), (3, .int i2)] [1, 2, 0] rfl ?_
  refine v_lpP hf (E_X6_trim_L2 K _ _ σ a0 i1) (fun _ h hE => v_X6_trim_L2 hC hR hN _ _ _ _ _ _ h hE) (fun y4 hf => ?_)
  show V K _ _ σ 29 [(0, .ref a0), (1, .int i1), (3, .int y4)] []
  refine v_aload_n hC 0 dX6_trim_29 rfl ?_
  refine v_getR hC (host := "") hf fd_6_5 w_663 dX6_trim_30 (fun r5 hf => ?_)
  refine v_iload_n hC 1 dX6_trim_33 rfl ?_
  refine v_iload_n hC 2 dX6_trim_34 rfl ?_
  refine v_stI hC hf dX6_trim_35 (fun σ6 hf => ?_)
  exact v_retV hC hf hE dX6_trim_36
def E_X6_load_L2 (K : Cq) (a0 : Nat) (i1 : Int32) (i2 : Int32) (y : Unit) (σ : St) (kr sr : Nat) : Prop := V K kr sr σ 42 [(0, .ref a0), (1, .int i1), (2, .int i2)] []
set_option maxHeartbeats 4000000 in
set_option maxRecDepth 100000 in
theorem v_X6_load_L2 {K : Cq} {k0 s0 : Nat} (hC : Cx K prog_8_method_6_code "TensMillModel") (hR : kR K = rmF 0 0 k0 s0) (hN : kn K = 4) {ko so : Nat} : ∀ (n : Nat) (σ : St) (a0 : Nat) (i1 : Int32) (i2 : Int32) (i3 : Int32) (y : Unit) (σf : St) (kr sr : Nat), f_X6_load_L2 n σ a0 i1 i2 i3 = some (y, σf, kr, sr) → E_X6_load_L2 K a0 i1 i2 y σf ko so → V K (kr + ko) (sr + so) σ 2 [(0, .ref a0), (1, .int i1), (2, .int i2), (3, .int i3)] [] := by
  intro n
  induction n with
  | zero =>
    intro σ a0 i1 i2 i3 y σf kr sr hf hE
    cases hf
  | succ n ih =>
    intro σ a0 i1 i2 i3 y σf kr sr hf hE
    replace hf : b_X6_load_L2 (f_X6_load_L2 n) σ a0 i1 i2 i3 = some (y, σf, kr, sr) := hf
    unfold b_X6_load_L2 at hf
    refine v_iload_n hC 3 dX6_load_2 rfl ?_
    refine v_aload_n hC 0 dX6_load_3 rfl ?_
    refine v_getR hC (host := "") hf fd_6_1 w_659 dX6_load_4 (fun r1 hf => ?_)
    refine v_iload_n hC 2 dX6_load_7 rfl ?_
    refine v_ldI hC hf dX6_load_8 (fun x2 hf => ?_)
    refine v_icmp_ge hC hf dX6_load_9 (tgt := 42) (by decide) (fun hf => ?_) (fun hf => ?_)
    · obtain ⟨hX, e1, e2⟩ := v_exE (E := E_X6_load_L2 K a0 i1 i2) hf hE
      rw [e1, e2]
      exact v_sub [(0, .ref a0), (1, .int i1), (2, .int i2)] [0, 1, 2] rfl hX
    · refine v_at 12 rfl ?_
      refine v_aload_n hC 0 dX6_load_12 rfl ?_
      refine v_getR hC (host := "") hf fd_6_4 w_662 dX6_load_13 (fun r3 hf => ?_)
      refine v_sipush (v := 17000) hC dX6_load_16 (by decide) ?_
      refine v_iload_n hC 1 dX6_load_19 rfl ?_
      refine v_imul hC dX6_load_20 ?_
      refine v_iload_n hC 3 dX6_load_21 rfl ?_
      refine v_iadd hC dX6_load_22 ?_
      refine v_aload_n hC 0 dX6_load_23 rfl ?_
      refine v_at 24 rfl ?_
      refine v_getR hC (host := "") hf fd_6_0 w_658 dX6_load_24 (fun r4 hf => ?_)
      refine v_sipush (v := 4096) hC dX6_load_27 (by decide) ?_
      refine v_iload_n hC 2 dX6_load_30 rfl ?_
      refine v_imul hC dX6_load_31 ?_
      refine v_iload_n hC 3 dX6_load_32 rfl ?_
      refine v_iadd hC dX6_load_33 ?_
      refine v_ldI hC hf dX6_load_34 (fun x5 hf => ?_)
      refine v_stI hC hf dX6_load_35 (fun σ6 hf => ?_)
      refine v_at 36 rfl ?_
      refine v_incL hC hf 3 (fun x7 => [(3, .int x7), (0, .ref a0), (1, .int i1), (2, .int i2)]) dX6_load_36 rfl (by decide) hN (Nat.le_of_ble_eq_true rfl) (fun _ => rfl) (fun x7 hf => ?_)
      refine v_goto (tgt := 2) hC dX6_load_39 (by decide) ?_
      exact v_sub [(0, .ref a0), (1, .int i1), (2, .int i2), (3, .int x7)] [1, 2, 3, 0] rfl (ih _ _ _ _ _ _ _ _ _ hf hE)
set_option maxHeartbeats 4000000 in
set_option maxRecDepth 100000 in
theorem m_X6_load {G : Gm} {l : Launch} {σ : St} {a0 : Nat} {i1 : Int32} {i2 : Int32} {r : Unit} {σf : St} {k s : Nat} (hf : f_X6_load σ a0 i1 i2 = some (r, σf, k, s)) : (∃ fs : List Value, σ.1 a0 = some (.inr (.inl (6, fs)))) ∧ Ct G l y_X6_load prog_8_method_6_code 4 none 0 0 [.ref a0, .int i1, .int i2] σ none σf k s := by
  unfold f_X6_load at hf
  obtain ⟨hob, hf⟩ := ob_some hf
  refine ⟨hob, Ct.ofV pl_X6_load (Nat.le_of_ble_eq_true rfl) ?_⟩
  intro K hR hN hnm hC hE
  show V K (k + 0) (s + 0) σ 0 [(0, .ref a0), (1, .int i1), (2, .int i2)] []
  refine v_iconst (v := 0) hC dX6_load_0 (by decide) ?_
  refine v_istore_n hC [(3, .int 0), (0, .ref a0), (1, .int i1), (2, .int i2)] dX6_load_1 rfl hN (Nat.le_of_ble_eq_true rfl) rfl ?_
  refine v_at 2 rfl ?_
  refine v_sub [(0, .ref a0), (1, .int i1), (2, .int i2), (3, .int 0)] [1, 2, 3, 0] rfl ?_
  refine v_lpE hf (E_X6_load_L2 K a0 i1 i2) (fun _ _ _ _ _ _ h hE => v_X6_load_L2 hC hR hN _ _ _ _ _ _ _ _ _ _ h hE) (fun y8 σ9 _ _ hf => ?_)
  show V K _ _ σ9 42 [(0, .ref a0), (1, .int i1), (2, .int i2)] []
  refine v_aload_n hC 0 dX6_load_42 rfl ?_
  refine v_getR hC (host := "") hf fd_6_5 w_663 dX6_load_43 (fun r10 hf => ?_)
  refine v_iload_n hC 1 dX6_load_46 rfl ?_
  refine v_aload_n hC 0 dX6_load_47 rfl ?_
  refine v_getR hC (host := "") hf fd_6_1 w_659 dX6_load_48 (fun r11 hf => ?_)
  refine v_iload_n hC 2 dX6_load_51 rfl ?_
  refine v_ldI hC hf dX6_load_52 (fun x12 hf => ?_)
  refine v_stI hC hf dX6_load_53 (fun σ13 hf => ?_)
  refine v_at 54 rfl ?_
  exact v_retV hC hf hE dX6_load_54
def E_X6_store_L47 (K : Cq) (a0 : Nat) (i1 : Int32) (i2 : Int32) (i3 : Int32) (j4 : Int64) (y : Unit) (σ : St) (kr sr : Nat) : Prop := V K kr sr σ 90 [(0, .ref a0), (1, .int i1), (2, .int i2), (3, .int i3), (4, .long j4)] []
set_option maxHeartbeats 4000000 in
set_option maxRecDepth 100000 in
theorem v_X6_store_L47 {K : Cq} {k0 s0 : Nat} (hC : Cx K prog_8_method_7_code "TensMillModel") (hR : kR K = rmF 0 0 k0 s0) (hN : kn K = 7) {ko so : Nat} : ∀ (n : Nat) (σ : St) (a0 : Nat) (i1 : Int32) (i2 : Int32) (i3 : Int32) (j4 : Int64) (i6 : Int32) (y : Unit) (σf : St) (kr sr : Nat), f_X6_store_L47 n σ a0 i1 i2 i3 j4 i6 = some (y, σf, kr, sr) → E_X6_store_L47 K a0 i1 i2 i3 j4 y σf ko so → V K (kr + ko) (sr + so) σ 47 [(0, .ref a0), (1, .int i1), (2, .int i2), (3, .int i3), (4, .long j4), (6, .int i6)] [] := by
  intro n
  induction n with
  | zero =>
    intro σ a0 i1 i2 i3 j4 i6 y σf kr sr hf hE
    cases hf
  | succ n ih =>
    intro σ a0 i1 i2 i3 j4 i6 y σf kr sr hf hE
    replace hf : b_X6_store_L47 (f_X6_store_L47 n) σ a0 i1 i2 i3 j4 i6 = some (y, σf, kr, sr) := hf
    unfold b_X6_store_L47 at hf
    refine v_iload hC 5 dX6_store_47 rfl ?_
    refine v_aload_n hC 0 dX6_store_49 rfl ?_
    refine v_getR hC (host := "") hf fd_6_5 w_663 dX6_store_50 (fun r7 hf => ?_)
    refine v_iload_n hC 2 dX6_store_53 rfl ?_
    refine v_ldI hC hf dX6_store_54 (fun x8 hf => ?_)
    refine v_icmp_ge hC hf dX6_store_55 (tgt := 90) (by decide) (fun hf => ?_) (fun hf => ?_)
    · obtain ⟨hX, e1, e2⟩ := v_exE (E := E_X6_store_L47 K a0 i1 i2 i3 j4) hf hE
      rw [e1, e2]
      exact v_sub [(0, .ref a0), (1, .int i1), (2, .int i2), (3, .int i3), (4, .long j4)] [0, 1, 2, 3, 4] rfl hX
    · refine v_at 58 rfl ?_
      refine v_aload_n hC 0 dX6_store_58 rfl ?_
      refine v_getR hC (host := "") hf fd_6_0 w_658 dX6_store_59 (fun r9 hf => ?_)
      refine v_sipush (v := 4096) hC dX6_store_62 (by decide) ?_
      refine v_iload_n hC 1 dX6_store_65 rfl ?_
      refine v_imul hC dX6_store_66 ?_
      refine v_iload hC 5 dX6_store_67 rfl ?_
      refine v_iadd hC dX6_store_69 ?_
      refine v_aload_n hC 0 dX6_store_70 rfl ?_
      refine v_at 71 rfl ?_
      refine v_getR hC (host := "") hf fd_6_4 w_662 dX6_store_71 (fun r10 hf => ?_)
      refine v_sipush (v := 17000) hC dX6_store_74 (by decide) ?_
      refine v_iload_n hC 2 dX6_store_77 rfl ?_
      refine v_imul hC dX6_store_78 ?_
      refine v_iload hC 5 dX6_store_79 rfl ?_
      refine v_iadd hC dX6_store_81 ?_
      refine v_ldI hC hf dX6_store_82 (fun x11 hf => ?_)
      refine v_stI hC hf dX6_store_83 (fun σ12 hf => ?_)
      refine v_at 84 rfl ?_
      refine v_incL hC hf 5 (fun x13 => [(6, .int x13), (0, .ref a0), (1, .int i1), (2, .int i2), (3, .int i3), (4, .long j4)]) dX6_store_84 rfl (by decide) hN (Nat.le_of_ble_eq_true rfl) (fun _ => rfl) (fun x13 hf => ?_)
      refine v_goto (tgt := 47) hC dX6_store_87 (by decide) ?_
      exact v_sub [(0, .ref a0), (1, .int i1), (2, .int i2), (3, .int i3), (4, .long j4), (6, .int x13)] [1, 2, 3, 4, 5, 0] rfl (ih _ _ _ _ _ _ _ _ _ _ _ hf hE)
set_option maxHeartbeats 4000000 in
set_option maxRecDepth 100000 in
theorem m_X6_store {G : Gm} {l : Launch} {σ : St} {a0 : Nat} {i1 : Int32} {i2 : Int32} {i3 : Int32} {j4 : Int64} {r : Int32} {σf : St} {k s : Nat} (hf : f_X6_store σ a0 i1 i2 i3 j4 = some (r, σf, k, s)) : (∃ fs : List Value, σ.1 a0 = some (.inr (.inl (6, fs)))) ∧ Ct G l y_X6_store prog_8_method_7_code 7 (some .boolean) 0 0 [.ref a0, .int i1, .int i2, .int i3, .long j4] σ (some (.int r)) σf k s := by
  unfold f_X6_store at hf
  obtain ⟨hob, hf⟩ := ob_some hf
  refine ⟨hob, Ct.ofV pl_X6_store (Nat.le_of_ble_eq_true rfl) ?_⟩
  intro K hR hN hnm hC hE
  show V K (k + 0) (s + 0) σ 0 [(0, .ref a0), (1, .int i1), (2, .int i2), (3, .int i3), (4, .long j4)] []
  refine v_aload_n hC 0 dX6_store_0 rfl ?_
  refine v_getR hC (host := "") hf fd_6_5 w_663 dX6_store_1 (fun r1 hf => ?_)
  refine v_iload_n hC 2 dX6_store_4 rfl ?_
  refine v_ldI hC hf dX6_store_5 (fun x2 hf => ?_)
  refine v_sipush (v := 4096) hC dX6_store_6 (by decide) ?_
  refine v_icmp_gt hC hf dX6_store_9 (tgt := 30) (by decide) (fun hf => ?_) (fun hf => ?_)
  · refine v_iconst (v := 0) hC dX6_store_30 (by decide) ?_
    exact v_retZ hC hf hE dX6_store_31
  · refine v_at 12 rfl ?_
    refine v_lload hC 4 dX6_store_12 rfl ?_
    refine v_ldc2 hC dX6_store_14 w_704 ?_
    refine v_lcmp_lt hC hf dX6_store_17 dX6_store_18 (tgt := 30) (by decide) (fun hf => ?_) (fun hf => ?_)
    · refine v_iconst (v := 0) hC dX6_store_30 (by decide) ?_
      exact v_retZ hC hf hE dX6_store_31
    · refine v_at 21 rfl ?_
      refine v_lload hC 4 dX6_store_21 rfl ?_
      refine v_ldc2 hC dX6_store_23 w_705 ?_
      refine v_lcmp_le hC hf dX6_store_26 dX6_store_27 (tgt := 32) (by decide) (fun hf => ?_) (fun hf => ?_)
      · refine v_aload_n hC 0 dX6_store_32 rfl ?_
        refine v_getR hC (host := "") hf fd_6_1 w_659 dX6_store_33 (fun r3 hf => ?_)
        refine v_iload_n hC 1 dX6_store_36 rfl ?_
        refine v_aload_n hC 0 dX6_store_37 rfl ?_
        refine v_getR hC (host := "") hf fd_6_5 w_663 dX6_store_38 (fun r4 hf => ?_)
        refine v_iload_n hC 2 dX6_store_41 rfl ?_
        refine v_ldI hC hf dX6_store_42 (fun x5 hf => ?_)
        refine v_stI hC hf dX6_store_43 (fun σ6 hf => ?_)
        refine v_at 44 rfl ?_
        refine v_iconst (v := 0) hC dX6_store_44 (by decide) ?_
        refine v_istore hC [(6, .int 0), (0, .ref a0), (1, .int i1), (2, .int i2), (3, .int i3), (4, .long j4)] dX6_store_45 hN (Nat.le_of_ble_eq_true rfl) rfl ?_
        refine v_at 47 rfl ?_
        refine v_sub [(0, .ref a0), (1, .int i1), (2, .int i2), (3, .int i3), (4, .long j4), (6, .int 0)] [1, 2, 3, 4, 5, 0] rfl ?_
        refine v_lpE hf (E_X6_store_L47 K a0 i1 i2 i3 j4) (fun _ _ _ _ _ _ h hE => v_X6_store_L47 hC hR hN _ _ _ _ _ _ _ _ _ _ _ _ h hE) (fun y14 σ15 _ _ hf => ?_)
        show V K _ _ σ15 90 [(0, .ref a0), (1, .int i1), (2, .int i2), (3, .int i3), (4, .long j4)] []
        refine v_aload_n hC 0 dX6_store_90 rfl ?_
        refine v_getR hC (host := "") hf fd_6_2 w_660 dX6_store_91 (fun r16 hf => ?_)
        refine v_iload_n hC 1 dX6_store_94 rfl ?_
        refine v_aload_n hC 0 dX6_store_95 rfl ?_
        refine v_getR hC (host := "") hf fd_6_5 w_663 dX6_store_96 (fun r17 hf => ?_)
        refine v_iload_n hC 2 dX6_store_99 rfl ?_
        refine v_ldI hC hf dX6_store_100 (fun x18 hf => ?_)
        refine v_jnE hf (fun z19 kr sr => V K (kr + 0) (sr + 0) σ15 109 [(0, .ref a0), (1, .int i1), (4, .long j4)] [.int z19, .int i1, .ref r16]) (fun z19 _ _ hf => ?_) (fun k19 hk19 hf => ?_)
        · refine v_stI hC hf dX6_store_109 (fun σ20 hf => ?_)
          refine v_aload_n hC 0 dX6_store_110 rfl ?_
          refine v_getR hC (host := "") hf fd_6_3 w_661 dX6_store_111 (fun r21 hf => ?_)
          refine v_iload_n hC 1 dX6_store_114 rfl ?_
          refine v_lload hC 2 dX6_store_115 rfl ?_
          refine v_l2i hC dX6_store_117 ?_
          refine v_stI hC hf dX6_store_118 (fun σ22 hf => ?_)
          refine v_iconst (v := 1) hC dX6_store_119 (by decide) ?_
          refine v_at 120 rfl ?_
          exact v_retZ hC hf hE dX6_store_120
        · refine v_if_ne hC hf dX6_store_101 (tgt := 108) (by decide) (fun hf => ?_) (fun hf => ?_)
          · refine v_iload_n hC 3 dX6_store_108 rfl ?_
            refine v_at 109 rfl ?_
            exact v_sub [(0, .ref a0), (1, .int i1), (4, .long j4)] [0, 1, 4] rfl (hk19 _ _ _ hf)
          · refine v_at 104 rfl ?_
            refine v_iconst (v := 0) hC dX6_store_104 (by decide) ?_
            refine v_goto (tgt := 109) hC dX6_store_105 (by decide) ?_
            exact v_sub [(0, .ref a0), (1, .int i1), (4, .long j4)] [0, 1, 4] rfl (hk19 _ _ _ hf)
      · refine v_at 30 rfl ?_
        refine v_iconst (v := 0) hC dX6_store_30 (by decide) ?_
        exact v_retZ hC hf hE dX6_store_31
def E_X6_raise_L19 (K : Cq) (a0 : Nat) (i1 : Int32) (i2 : Int32) (y : Unit) (σ : St) (kr sr : Nat) : Prop := V K kr sr σ 55 [(0, .ref a0), (1, .int i1), (2, .int i2)] []
set_option maxHeartbeats 4000000 in
set_option maxRecDepth 100000 in
theorem v_X6_raise_L19 {K : Cq} {k0 s0 : Nat} (hC : Cx K prog_8_method_8_code "TensMillModel") (hR : kR K = rmF 0 0 k0 s0) (hN : kn K = 4) {ko so : Nat} : ∀ (n : Nat) (σ : St) (a0 : Nat) (i1 : Int32) (i2 : Int32) (i3 : Int32) (y : Unit) (σf : St) (kr sr : Nat), f_X6_raise_L19 n σ a0 i1 i2 i3 = some (y, σf, kr, sr) → E_X6_raise_L19 K a0 i1 i2 y σf ko so → V K (kr + ko) (sr + so) σ 19 [(0, .ref a0), (1, .int i1), (2, .int i2), (3, .int i3)] [] := by
  intro n
  induction n with
  | zero =>
    intro σ a0 i1 i2 i3 y σf kr sr hf hE
    cases hf
  | succ n ih =>
    intro σ a0 i1 i2 i3 y σf kr sr hf hE
    replace hf : b_X6_raise_L19 (f_X6_raise_L19 n) σ a0 i1 i2 i3 = some (y, σf, kr, sr) := hf
    unfold b_X6_raise_L19 at hf
    refine v_iload_n hC 3 dX6_raise_19 rfl ?_
    refine v_if_lt hC hf dX6_raise_20 (tgt := 55) (by decide) (fun hf => ?_) (fun hf => ?_)
    · obtain ⟨hX, e1, e2⟩ := v_exE (E := E_X6_raise_L19 K a0 i1 i2) hf hE
      rw [e1, e2]
      exact v_sub [(0, .ref a0), (1, .int i1), (2, .int i2)] [0, 1, 2] rfl hX
    · refine v_at 23 rfl ?_
      refine v_aload_n hC 0 dX6_raise_23 rfl ?_
      refine v_getR hC (host := "") hf fd_6_4 w_662 dX6_raise_24 (fun r6 hf => ?_)
      refine v_sipush (v := 17000) hC dX6_raise_27 (by decide) ?_
      refine v_iload_n hC 1 dX6_raise_30 rfl ?_
      refine v_imul hC dX6_raise_31 ?_
      refine v_iload_n hC 3 dX6_raise_32 rfl ?_
      refine v_iadd hC dX6_raise_33 ?_
      refine v_iload_n hC 2 dX6_raise_34 rfl ?_
      refine v_at 35 rfl ?_
      refine v_iadd hC dX6_raise_35 ?_
      refine v_aload_n hC 0 dX6_raise_36 rfl ?_
      refine v_getR hC (host := "") hf fd_6_4 w_662 dX6_raise_37 (fun r7 hf => ?_)
      refine v_sipush (v := 17000) hC dX6_raise_40 (by decide) ?_
      refine v_iload_n hC 1 dX6_raise_43 rfl ?_
      refine v_imul hC dX6_raise_44 ?_
      refine v_iload_n hC 3 dX6_raise_45 rfl ?_
      refine v_iadd hC dX6_raise_46 ?_
      refine v_at 47 rfl ?_
      refine v_ldI hC hf dX6_raise_47 (fun x8 hf => ?_)
      refine v_stI hC hf dX6_raise_48 (fun σ9 hf => ?_)
      refine v_incL hC hf 3 (fun x10 => [(3, .int x10), (0, .ref a0), (1, .int i1), (2, .int i2)]) dX6_raise_49 rfl (by decide) hN (Nat.le_of_ble_eq_true rfl) (fun _ => rfl) (fun x10 hf => ?_)
      refine v_goto (tgt := 19) hC dX6_raise_52 (by decide) ?_
      exact v_sub [(0, .ref a0), (1, .int i1), (2, .int i2), (3, .int x10)] [1, 2, 3, 0] rfl (ih _ _ _ _ _ _ _ _ _ hf hE)
def E_X6_raise_L57 (K : Cq) (a0 : Nat) (i1 : Int32) (i2 : Int32) (y : Unit) (σ : St) (kr sr : Nat) : Prop := V K kr sr σ 81 [(0, .ref a0), (1, .int i1), (2, .int i2)] []
set_option maxHeartbeats 4000000 in
set_option maxRecDepth 100000 in
theorem v_X6_raise_L57 {K : Cq} {k0 s0 : Nat} (hC : Cx K prog_8_method_8_code "TensMillModel") (hR : kR K = rmF 0 0 k0 s0) (hN : kn K = 4) {ko so : Nat} : ∀ (n : Nat) (σ : St) (a0 : Nat) (i1 : Int32) (i2 : Int32) (i3 : Int32) (y : Unit) (σf : St) (kr sr : Nat), f_X6_raise_L57 n σ a0 i1 i2 i3 = some (y, σf, kr, sr) → E_X6_raise_L57 K a0 i1 i2 y σf ko so → V K (kr + ko) (sr + so) σ 57 [(0, .ref a0), (1, .int i1), (2, .int i2), (3, .int i3)] [] := by
  intro n
  induction n with
  | zero =>
    intro σ a0 i1 i2 i3 y σf kr sr hf hE
    cases hf
  | succ n ih =>
    intro σ a0 i1 i2 i3 y σf kr sr hf hE
    replace hf : b_X6_raise_L57 (f_X6_raise_L57 n) σ a0 i1 i2 i3 = some (y, σf, kr, sr) := hf
    unfold b_X6_raise_L57 at hf
    refine v_iload_n hC 3 dX6_raise_57 rfl ?_
    refine v_iload_n hC 2 dX6_raise_58 rfl ?_
    refine v_icmp_ge hC hf dX6_raise_59 (tgt := 81) (by decide) (fun hf => ?_) (fun hf => ?_)
    · obtain ⟨hX, e1, e2⟩ := v_exE (E := E_X6_raise_L57 K a0 i1 i2) hf hE
      rw [e1, e2]
      exact v_sub [(0, .ref a0), (1, .int i1), (2, .int i2)] [0, 1, 2] rfl hX
    · refine v_at 62 rfl ?_
      refine v_aload_n hC 0 dX6_raise_62 rfl ?_
      refine v_getR hC (host := "") hf fd_6_4 w_662 dX6_raise_63 (fun r13 hf => ?_)
      refine v_sipush (v := 17000) hC dX6_raise_66 (by decide) ?_
      refine v_iload_n hC 1 dX6_raise_69 rfl ?_
      refine v_imul hC dX6_raise_70 ?_
      refine v_iload_n hC 3 dX6_raise_71 rfl ?_
      refine v_iadd hC dX6_raise_72 ?_
      refine v_iconst (v := 0) hC dX6_raise_73 (by decide) ?_
      refine v_at 74 rfl ?_
      refine v_stI hC hf dX6_raise_74 (fun σ14 hf => ?_)
      refine v_incL hC hf 3 (fun x15 => [(3, .int x15), (0, .ref a0), (1, .int i1), (2, .int i2)]) dX6_raise_75 rfl (by decide) hN (Nat.le_of_ble_eq_true rfl) (fun _ => rfl) (fun x15 hf => ?_)
      refine v_goto (tgt := 57) hC dX6_raise_78 (by decide) ?_
      exact v_sub [(0, .ref a0), (1, .int i1), (2, .int i2), (3, .int x15)] [1, 2, 3, 0] rfl (ih _ _ _ _ _ _ _ _ _ hf hE)
set_option maxHeartbeats 4000000 in
set_option maxRecDepth 100000 in
theorem m_X6_raise {G : Gm} {l : Launch} {σ : St} {a0 : Nat} {i1 : Int32} {i2 : Int32} {r : Unit} {σf : St} {k s : Nat} (hf : f_X6_raise σ a0 i1 i2 = some (r, σf, k, s)) : (∃ fs : List Value, σ.1 a0 = some (.inr (.inl (6, fs)))) ∧ Ct G l y_X6_raise prog_8_method_8_code 4 none 0 0 [.ref a0, .int i1, .int i2] σ none σf k s := by
  unfold f_X6_raise at hf
  obtain ⟨hob, hf⟩ := ob_some hf
  refine ⟨hob, Ct.ofV pl_X6_raise (Nat.le_of_ble_eq_true rfl) ?_⟩
  intro K hR hN hnm hC hE
  show V K (k + 0) (s + 0) σ 0 [(0, .ref a0), (1, .int i1), (2, .int i2)] []
  refine v_aload_n hC 0 dX6_raise_0 rfl ?_
  refine v_getR hC (host := "") hf fd_6_5 w_663 dX6_raise_1 (fun r1 hf => ?_)
  refine v_iload_n hC 1 dX6_raise_4 rfl ?_
  refine v_ldI hC hf dX6_raise_5 (fun x2 hf => ?_)
  refine v_if_ne hC hf dX6_raise_6 (tgt := 10) (by decide) (fun hf => ?_) (fun hf => ?_)
  · refine v_aload_n hC 0 dX6_raise_10 rfl ?_
    refine v_getR hC (host := "") hf fd_6_5 w_663 dX6_raise_11 (fun r3 hf => ?_)
    refine v_iload_n hC 1 dX6_raise_14 rfl ?_
    refine v_ldI hC hf dX6_raise_15 (fun x4 hf => ?_)
    refine v_iconst (v := 1) hC dX6_raise_16 (by decide) ?_
    refine v_isub hC dX6_raise_17 ?_
    refine v_ltI hf (fun x5 hf => ?_)
    refine v_istore_n hC [(3, .int x5), (0, .ref a0), (1, .int i1), (2, .int i2)] dX6_raise_18 rfl hN (Nat.le_of_ble_eq_true rfl) rfl ?_
    refine v_at 19 rfl ?_
    refine v_sub [(0, .ref a0), (1, .int i1), (2, .int i2), (3, .int x5)] [1, 2, 3, 0] rfl ?_
    refine v_lpE hf (E_X6_raise_L19 K a0 i1 i2) (fun _ _ _ _ _ _ h hE => v_X6_raise_L19 hC hR hN _ _ _ _ _ _ _ _ _ _ h hE) (fun y11 σ12 _ _ hf => ?_)
    show V K _ _ σ12 55 [(0, .ref a0), (1, .int i1), (2, .int i2)] []
    refine v_iconst (v := 0) hC dX6_raise_55 (by decide) ?_
    refine v_istore_n hC [(3, .int 0), (0, .ref a0), (1, .int i1), (2, .int i2)] dX6_raise_56 rfl hN (Nat.le_of_ble_eq_true rfl) rfl ?_
    refine v_at 57 rfl ?_
    refine v_sub [(0, .ref a0), (1, .int i1), (2, .int i2), (3, .int 0)] [1, 2, 3, 0] rfl ?_
    refine v_lpE hf (E_X6_raise_L57 K a0 i1 i2) (fun _ _ _ _ _ _ h hE => v_X6_raise_L57 hC hR hN _ _ _ _ _ _ _ _ _ _ h hE) (fun y16 σ17 _ _ hf => ?_)
    show V K _ _ σ17 81 [(0, .ref a0), (1, .int i1), (2, .int i2)] []
    refine v_aload_n hC 0 dX6_raise_81 rfl ?_
    refine v_getR hC (host := "") hf fd_6_5 w_663 dX6_raise_82 (fun r18 hf => ?_)
    refine v_iload_n hC 1 dX6_raise_85 rfl ?_
    refine v_dup2 hC dX6_raise_86 rfl rfl ?_
    refine v_ldI hC hf dX6_raise_87 (fun x19 hf => ?_)
    refine v_iload_n hC 2 dX6_raise_88 rfl ?_
    refine v_iadd hC dX6_raise_89 ?_
    refine v_stI hC hf dX6_raise_90 (fun σ20 hf => ?_)
    refine v_at 91 rfl ?_
    exact v_retV hC hf hE dX6_raise_91
  · refine v_at 9 rfl ?_
    exact v_retV hC hf hE dX6_raise_9
def E_X6_lower_L73 (K : Cq) (kr sr : Nat) (σ : St) (a0 : Nat) (i1 : Int32) (i4 : Int32) (i5 : Int32) (y : Int32) : Prop := V K kr sr σ 116 [(0, .ref a0), (1, .int i1), (4, .int i4), (5, .int i5), (6, .int y)] []
set_option maxHeartbeats 4000000 in
set_option maxRecDepth 100000 in
theorem v_X6_lower_L73 {K : Cq} {k0 s0 : Nat} (hC : Cx K prog_8_method_9_code "TensMillModel") (hR : kR K = rmF 0 0 k0 s0) (hN : kn K = 8) {kr sr : Nat} : ∀ (n : Nat) (σ : St) (a0 : Nat) (i1 : Int32) (i4 : Int32) (i5 : Int32) (i6 : Int32) (i7 : Int32) (y : Int32), f_X6_lower_L73 n σ a0 i1 i4 i5 i6 i7 = some y → E_X6_lower_L73 K kr sr σ a0 i1 i4 i5 y → V K kr sr σ 73 [(0, .ref a0), (1, .int i1), (4, .int i4), (5, .int i5), (6, .int i6), (7, .int i7)] [] := by
  intro n
  induction n with
  | zero =>
    intro σ a0 i1 i4 i5 i6 i7 y hf hE
    cases hf
  | succ n ih =>
    intro σ a0 i1 i4 i5 i6 i7 y hf hE
    replace hf : b_X6_lower_L73 (f_X6_lower_L73 n) σ a0 i1 i4 i5 i6 i7 = some y := hf
    unfold b_X6_lower_L73 at hf
    refine v_iload hC 5 dX6_lower_73 rfl ?_
    refine v_iload hC 2 dX6_lower_75 rfl ?_
    refine v_iconst (v := 1) hC dX6_lower_77 (by decide) ?_
    refine v_isub hC dX6_lower_78 ?_
    refine v_icmp_ge hC hf dX6_lower_79 (tgt := 116) (by decide) (fun hf => ?_) (fun hf => ?_)
    · exact v_sub [(0, .ref a0), (1, .int i1), (4, .int i4), (5, .int i5), (6, .int i6)] [0, 1, 2, 3, 4] rfl (v_exP (E := E_X6_lower_L73 K _ _ _ a0 i1 i4 i5) hf hE)
    · refine v_at 82 rfl ?_
      refine v_iload hC 4 dX6_lower_82 rfl ?_
      refine v_jnP hf (fun z9 => V K kr sr σ 108 [(0, .ref a0), (1, .int i1), (4, .int i4), (5, .int i5), (7, .int i7)] [.int z9]) (fun z9 hf => ?_) (fun k9 hk9 hf => ?_)
      · refine v_istore hC [(6, .int z9), (0, .ref a0), (1, .int i1), (4, .int i4), (5, .int i5), (7, .int i7)] dX6_lower_108 hN (Nat.le_of_ble_eq_true rfl) rfl ?_
        refine v_incL hC hf 5 (fun x10 => [(7, .int x10), (6, .int z9), (0, .ref a0), (1, .int i1), (4, .int i4), (5, .int i5)]) dX6_lower_110 rfl (by decide) hN (Nat.le_of_ble_eq_true rfl) (fun _ => rfl) (fun x10 hf => ?_)
        refine v_goto (tgt := 73) hC dX6_lower_113 (by decide) ?_
        exact v_sub [(0, .ref a0), (1, .int i1), (4, .int i4), (5, .int i5), (6, .int z9), (7, .int x10)] [2, 3, 4, 5, 1, 0] rfl (ih _ _ _ _ _ _ _ _ hf hE)
      · refine v_jnP hf (fun z11 => V K kr sr σ 103 [(0, .ref a0), (1, .int i1), (4, .int i4), (5, .int i5), (7, .int i7)] []) (fun z11 hf => ?_) (fun k11 hk11 hf => ?_)
        · refine v_iconst (v := 1) hC dX6_lower_103 (by decide) ?_
          refine v_goto (tgt := 108) hC dX6_lower_104 (by decide) ?_
          exact v_sub [(0, .ref a0), (1, .int i1), (4, .int i4), (5, .int i5), (7, .int i7)] [0, 1, 2, 3, 4] rfl (hk9 _ hf)
        · refine v_if_ne hC hf dX6_lower_84 (tgt := 103) (by decide) (fun hf => ?_) (fun hf => ?_)
          · exact v_sub [(0, .ref a0), (1, .int i1), (4, .int i4), (5, .int i5), (7, .int i7)] [0, 1, 2, 3, 5] rfl (hk11 _ hf)
          · refine v_at 87 rfl ?_
            refine v_aload_n hC 0 dX6_lower_87 rfl ?_
            refine v_getR hC (host := "") hf fd_6_4 w_662 dX6_lower_88 (fun r12 hf => ?_)
            refine v_sipush (v := 17000) hC dX6_lower_91 (by decide) ?_
            refine v_iload_n hC 1 dX6_lower_94 rfl ?_
            refine v_imul hC dX6_lower_95 ?_
            refine v_iload hC 5 dX6_lower_96 rfl ?_
            refine v_iadd hC dX6_lower_98 ?_
            refine v_ldI hC hf dX6_lower_99 (fun x13 hf => ?_)
            refine v_at 100 rfl ?_
            refine v_if_le hC hf dX6_lower_100 (tgt := 107) (by decide) (fun hf => ?_) (fun hf => ?_)
            · refine v_iconst (v := 0) hC dX6_lower_107 (by decide) ?_
              refine v_at 108 rfl ?_
              exact v_sub [(0, .ref a0), (1, .int i1), (4, .int i4), (5, .int i5), (7, .int i7)] [0, 1, 2, 3, 5] rfl (hk9 _ hf)
            · refine v_at 103 rfl ?_
              exact v_sub [(0, .ref a0), (1, .int i1), (4, .int i4), (5, .int i5), (7, .int i7)] [0, 1, 2, 3, 5] rfl (hk11 _ hf)
def E_X6_lower_L170 (K : Cq) (a0 : Nat) (i1 : Int32) (i4 : Int32) (y : Unit) (σ : St) (kr sr : Nat) : Prop := V K kr sr σ 216 [(0, .ref a0), (1, .int i1), (4, .int i4)] []
set_option maxHeartbeats 4000000 in
set_option maxRecDepth 100000 in
theorem v_X6_lower_L170 {K : Cq} {k0 s0 : Nat} (hC : Cx K prog_8_method_9_code "TensMillModel") (hR : kR K = rmF 0 0 k0 s0) (hN : kn K = 8) {ko so : Nat} : ∀ (n : Nat) (σ : St) (a0 : Nat) (i1 : Int32) (i4 : Int32) (i7 : Int32) (y : Unit) (σf : St) (kr sr : Nat), f_X6_lower_L170 n σ a0 i1 i4 i7 = some (y, σf, kr, sr) → E_X6_lower_L170 K a0 i1 i4 y σf ko so → V K (kr + ko) (sr + so) σ 170 [(0, .ref a0), (1, .int i1), (4, .int i4), (7, .int i7)] [] := by
  intro n
  induction n with
  | zero =>
    intro σ a0 i1 i4 i7 y σf kr sr hf hE
    cases hf
  | succ n ih =>
    intro σ a0 i1 i4 i7 y σf kr sr hf hE
    replace hf : b_X6_lower_L170 (f_X6_lower_L170 n) σ a0 i1 i4 i7 = some (y, σf, kr, sr) := hf
    unfold b_X6_lower_L170 at hf
    refine v_iload hC 3 dX6_lower_170 rfl ?_
    refine v_aload_n hC 0 dX6_lower_172 rfl ?_
    refine v_getR hC (host := "") hf fd_6_5 w_663 dX6_lower_173 (fun r17 hf => ?_)
    refine v_iload_n hC 1 dX6_lower_176 rfl ?_
    refine v_ldI hC hf dX6_lower_177 (fun x18 hf => ?_)
    refine v_icmp_ge hC hf dX6_lower_178 (tgt := 216) (by decide) (fun hf => ?_) (fun hf => ?_)
    · obtain ⟨hX, e1, e2⟩ := v_exE (E := E_X6_lower_L170 K a0 i1 i4) hf hE
      rw [e1, e2]
      exact v_sub [(0, .ref a0), (1, .int i1), (4, .int i4)] [0, 1, 2] rfl hX
    · refine v_at 181 rfl ?_
      refine v_aload_n hC 0 dX6_lower_181 rfl ?_
      refine v_getR hC (host := "") hf fd_6_4 w_662 dX6_lower_182 (fun r19 hf => ?_)
      refine v_sipush (v := 17000) hC dX6_lower_185 (by decide) ?_
      refine v_iload_n hC 1 dX6_lower_188 rfl ?_
      refine v_imul hC dX6_lower_189 ?_
      refine v_iload hC 3 dX6_lower_190 rfl ?_
      refine v_iadd hC dX6_lower_192 ?_
      refine v_iload hC 2 dX6_lower_193 rfl ?_
      refine v_at 195 rfl ?_
      refine v_isub hC dX6_lower_195 ?_
      refine v_aload_n hC 0 dX6_lower_196 rfl ?_
      refine v_getR hC (host := "") hf fd_6_4 w_662 dX6_lower_197 (fun r20 hf => ?_)
      refine v_sipush (v := 17000) hC dX6_lower_200 (by decide) ?_
      refine v_iload_n hC 1 dX6_lower_203 rfl ?_
      refine v_imul hC dX6_lower_204 ?_
      refine v_iload hC 3 dX6_lower_205 rfl ?_
      refine v_iadd hC dX6_lower_207 ?_
      refine v_at 208 rfl ?_
      refine v_ldI hC hf dX6_lower_208 (fun x21 hf => ?_)
      refine v_stI hC hf dX6_lower_209 (fun σ22 hf => ?_)
      refine v_incL hC hf 3 (fun x23 => [(7, .int x23), (0, .ref a0), (1, .int i1), (4, .int i4)]) dX6_lower_210 rfl (by decide) hN (Nat.le_of_ble_eq_true rfl) (fun _ => rfl) (fun x23 hf => ?_)
      refine v_goto (tgt := 170) hC dX6_lower_213 (by decide) ?_
      exact v_sub [(0, .ref a0), (1, .int i1), (4, .int i4), (7, .int x23)] [1, 2, 3, 0] rfl (ih _ _ _ _ _ _ _ _ _ hf hE)
set_option maxHeartbeats 4000000 in
set_option maxRecDepth 100000 in
theorem m_X6_lower {G : Gm} {l : Launch} {σ : St} {a0 : Nat} {i1 : Int32} {j2 : Int64} {r : Unit} {σf : St} {k s : Nat} (hf : f_X6_lower σ a0 i1 j2 = some (r, σf, k, s)) : (∃ fs : List Value, σ.1 a0 = some (.inr (.inl (6, fs)))) ∧ Ct G l y_X6_lower prog_8_method_9_code 8 none 0 0 [.ref a0, .int i1, .long j2] σ none σf k s := by
  unfold f_X6_lower at hf
  obtain ⟨hob, hf⟩ := ob_some hf
  refine ⟨hob, Ct.ofV pl_X6_lower (Nat.le_of_ble_eq_true rfl) ?_⟩
  intro K hR hN hnm hC hE
  show V K (k + 0) (s + 0) σ 0 [(0, .ref a0), (1, .int i1), (2, .long j2)] []
  refine v_aload_n hC 0 dX6_lower_0 rfl ?_
  refine v_iconst (v := 0) hC dX6_lower_1 (by decide) ?_
  refine v_put hC hf fd_6_6 w_664 rfl rfl dX6_lower_2 (fun σ1 hf => ?_)
  refine v_lload_n hC 2 dX6_lower_5 rfl ?_
  refine v_lconst (v := 0) hC dX6_lower_6 (by decide) ?_
  refine v_lcmp_le hC hf dX6_lower_7 dX6_lower_8 (tgt := 20) (by decide) (fun hf => ?_) (fun hf => ?_)
  · exact v_retV hC hf hE dX6_lower_20
  · refine v_at 11 rfl ?_
    refine v_aload_n hC 0 dX6_lower_11 rfl ?_
    refine v_getR hC (host := "") hf fd_6_5 w_663 dX6_lower_12 (fun r2 hf => ?_)
    refine v_iload_n hC 1 dX6_lower_15 rfl ?_
    refine v_ldI hC hf dX6_lower_16 (fun x3 hf => ?_)
    refine v_if_ne hC hf dX6_lower_17 (tgt := 21) (by decide) (fun hf => ?_) (fun hf => ?_)
    · refine v_lload_n hC 2 dX6_lower_21 rfl ?_
      refine v_aload_n hC 0 dX6_lower_22 rfl ?_
      refine v_getR hC (host := "") hf fd_6_5 w_663 dX6_lower_23 (fun r4 hf => ?_)
      refine v_iload_n hC 1 dX6_lower_26 rfl ?_
      refine v_ldI hC hf dX6_lower_27 (fun x5 hf => ?_)
      refine v_i2l hC dX6_lower_28 ?_
      refine v_lcmp_le hC hf dX6_lower_29 dX6_lower_30 (tgt := 46) (by decide) (fun hf => ?_) (fun hf => ?_)
      · refine v_lload_n hC 2 dX6_lower_46 rfl ?_
        refine v_l2i hC dX6_lower_47 ?_
        refine v_ltI hf (fun x6 hf => ?_)
        refine v_istore hC [(4, .int x6), (0, .ref a0), (1, .int i1), (2, .long j2)] dX6_lower_48 hN (Nat.le_of_ble_eq_true rfl) rfl ?_
        refine v_aload_n hC 1 dX6_lower_50 rfl ?_
        refine v_getR hC (host := "") hf fd_6_4 w_662 dX6_lower_51 (fun r7 hf => ?_)
        refine v_sipush (v := 17000) hC dX6_lower_54 (by decide) ?_
        refine v_iload_n hC 2 dX6_lower_57 rfl ?_
        refine v_imul hC dX6_lower_58 ?_
        refine v_at 59 rfl ?_
        refine v_iload hC 0 dX6_lower_59 rfl ?_
        refine v_iadd hC dX6_lower_61 ?_
        refine v_iconst (v := 1) hC dX6_lower_62 (by decide) ?_
        refine v_isub hC dX6_lower_63 ?_
        refine v_ldI hC hf dX6_lower_64 (fun x8 hf => ?_)
        refine v_istore hC [(5, .int x8), (4, .int x6), (0, .ref a0), (1, .int i1), (2, .long j2)] dX6_lower_65 hN (Nat.le_of_ble_eq_true rfl) rfl ?_
        refine v_iconst (v := 0) hC dX6_lower_67 (by decide) ?_
        refine v_istore hC [(6, .int 0), (5, .int x8), (4, .int x6), (0, .ref a0), (1, .int i1), (2, .long j2)] dX6_lower_68 hN (Nat.le_of_ble_eq_true rfl) rfl ?_
        refine v_at 70 rfl ?_
        refine v_iconst (v := 0) hC dX6_lower_70 (by decide) ?_
        refine v_istore hC [(7, .int 0), (6, .int 0), (5, .int x8), (4, .int x6), (0, .ref a0), (1, .int i1), (2, .long j2)] dX6_lower_71 hN (Nat.le_of_ble_eq_true rfl) rfl ?_
        refine v_at 73 rfl ?_
        refine v_sub [(0, .ref a0), (1, .int i1), (4, .int x6), (5, .int x8), (6, .int 0), (7, .int 0)] [4, 5, 3, 2, 1, 0] rfl ?_
        refine v_lpP hf (E_X6_lower_L73 K _ _ σ1 a0 i1 x6 x8) (fun _ h hE => v_X6_lower_L73 hC hR hN _ _ _ _ _ _ _ _ _ h hE) (fun y14 hf => ?_)
        show V K _ _ σ1 116 [(0, .ref a0), (1, .int i1), (4, .int x6), (5, .int x8), (6, .int y14)] []
        refine v_aload_n hC 0 dX6_lower_116 rfl ?_
        refine v_iload hC 3 dX6_lower_117 rfl ?_
        refine v_iconst (v := 5) hC dX6_lower_119 (by decide) ?_
        refine v_jnE hf (fun z15 kr sr => V K (kr + 0) (sr + 0) σ1 163 [(0, .ref a0), (1, .int i1), (4, .int x6)] [.int z15, .ref a0]) (fun z15 _ _ hf => ?_) (fun k15 hk15 hf => ?_)
        · refine v_put hC hf fd_6_6 w_664 rfl rfl dX6_lower_163 (fun σ16 hf => ?_)
          refine v_iload hC 2 dX6_lower_166 rfl ?_
          refine v_istore hC [(7, .int x6), (0, .ref a0), (1, .int i1), (4, .int x6)] dX6_lower_168 hN (Nat.le_of_ble_eq_true rfl) rfl ?_
          refine v_at 170 rfl ?_
          refine v_sub [(0, .ref a0), (1, .int i1), (4, .int x6), (7, .int x6)] [1, 2, 3, 0] rfl ?_
          refine v_lpE hf (E_X6_lower_L170 K a0 i1 x6) (fun _ _ _ _ _ _ h hE => v_X6_lower_L170 hC hR hN _ _ _ _ _ _ _ _ _ _ h hE) (fun y24 σ25 _ _ hf => ?_)
          show V K _ _ σ25 216 [(0, .ref a0), (1, .int i1), (4, .int x6)] []
          refine v_aload_n hC 0 dX6_lower_216 rfl ?_
          refine v_getR hC (host := "") hf fd_6_5 w_663 dX6_lower_217 (fun r26 hf => ?_)
          refine v_iload_n hC 1 dX6_lower_220 rfl ?_
          refine v_dup2 hC dX6_lower_221 rfl rfl ?_
          refine v_ldI hC hf dX6_lower_222 (fun x27 hf => ?_)
          refine v_iload hC 2 dX6_lower_223 rfl ?_
          refine v_isub hC dX6_lower_225 ?_
          refine v_stI hC hf dX6_lower_226 (fun σ28 hf => ?_)
          refine v_at 227 rfl ?_
          exact v_retV hC hf hE dX6_lower_227
        · refine v_jnE hf (fun z29 kr sr => V K (kr + 0) (sr + 0) σ1 134 [(0, .ref a0), (1, .int i1), (4, .int x6)] [.ref a0]) (fun z29 _ _ hf => ?_) (fun k29 hk29 hf => ?_)
          · refine v_iconst (v := 3) hC dX6_lower_134 (by decide) ?_
            refine v_goto (tgt := 163) hC dX6_lower_135 (by decide) ?_
            exact v_sub [(0, .ref a0), (1, .int i1), (4, .int x6)] [0, 1, 2] rfl (hk15 _ _ _ hf)
          · refine v_icmp_gt hC hf dX6_lower_120 (tgt := 134) (by decide) (fun hf => ?_) (fun hf => ?_)
            · exact v_sub [(0, .ref a0), (1, .int i1), (4, .int x6)] [0, 1, 2] rfl (hk29 _ _ _ hf)
            · refine v_at 123 rfl ?_
              refine v_iload hC 3 dX6_lower_123 rfl ?_
              refine v_iconst (v := 5) hC dX6_lower_125 (by decide) ?_
              refine v_jnE hf (fun z30 kr sr => V K (kr + 0) (sr + 0) σ1 138 [(0, .ref a0), (1, .int i1), (4, .int x6), (5, .int x8), (6, .int y14)] [.ref a0]) (fun z30 _ _ hf => ?_) (fun k30 hk30 hf => ?_)
              · refine v_iload hC 3 dX6_lower_138 rfl ?_
                refine v_iconst (v := 5) hC dX6_lower_140 (by decide) ?_
                refine v_icmp_ne hC hf dX6_lower_141 (tgt := 148) (by decide) (fun hf => ?_) (fun hf => ?_)
                · refine v_iload hC 3 dX6_lower_148 rfl ?_
                  refine v_jnE hf (fun z31 kr sr => V K (kr + 0) (sr + 0) σ1 158 [(0, .ref a0), (1, .int i1), (4, .int x6)] [.ref a0]) (fun z31 _ _ hf => ?_) (fun k31 hk31 hf => ?_)
                  · refine v_iconst (v := 1) hC dX6_lower_158 (by decide) ?_
                    refine v_goto (tgt := 163) hC dX6_lower_159 (by decide) ?_
                    exact v_sub [(0, .ref a0), (1, .int i1), (4, .int x6)] [0, 1, 2] rfl (hk15 _ _ _ hf)
                  · refine v_if_gt hC hf dX6_lower_150 (tgt := 158) (by decide) (fun hf => ?_) (fun hf => ?_)
                    · exact v_sub [(0, .ref a0), (1, .int i1), (4, .int x6)] [0, 1, 2] rfl (hk31 _ _ _ hf)
                    · refine v_at 153 rfl ?_
                      refine v_iload hC 4 dX6_lower_153 rfl ?_
                      refine v_if_eq hC hf dX6_lower_155 (tgt := 162) (by decide) (fun hf => ?_) (fun hf => ?_)
                      · refine v_iconst (v := 0) hC dX6_lower_162 (by decide) ?_
                        refine v_at 163 rfl ?_
                        exact v_sub [(0, .ref a0), (1, .int i1), (4, .int x6)] [0, 1, 2] rfl (hk15 _ _ _ hf)
                      · refine v_at 158 rfl ?_
                        exact v_sub [(0, .ref a0), (1, .int i1), (4, .int x6)] [0, 1, 2] rfl (hk31 _ _ _ hf)
                · refine v_at 144 rfl ?_
                  refine v_iconst (v := 2) hC dX6_lower_144 (by decide) ?_
                  refine v_goto (tgt := 163) hC dX6_lower_145 (by decide) ?_
                  exact v_sub [(0, .ref a0), (1, .int i1), (4, .int x6)] [0, 1, 2] rfl (hk15 _ _ _ hf)
              · refine v_icmp_ne hC hf dX6_lower_126 (tgt := 138) (by decide) (fun hf => ?_) (fun hf => ?_)
                · exact v_sub [(0, .ref a0), (1, .int i1), (4, .int x6), (5, .int x8), (6, .int y14)] [0, 1, 2, 3, 4] rfl (hk30 _ _ _ hf)
                · refine v_at 129 rfl ?_
                  refine v_iload hC 4 dX6_lower_129 rfl ?_
                  refine v_if_eq hC hf dX6_lower_131 (tgt := 138) (by decide) (fun hf => ?_) (fun hf => ?_)
                  · exact v_sub [(0, .ref a0), (1, .int i1), (4, .int x6), (5, .int x8), (6, .int y14)] [0, 1, 2, 3, 4] rfl (hk30 _ _ _ hf)
                  · refine v_at 134 rfl ?_
                    exact v_sub [(0, .ref a0), (1, .int i1), (4, .int x6)] [0, 1, 2] rfl (hk29 _ _ _ hf)
      · refine v_at 33 rfl ?_
        refine v_aload_n hC 0 dX6_lower_33 rfl ?_
        refine v_iconst (v := 1) hC dX6_lower_34 (by decide) ?_
        refine v_put hC hf fd_6_6 w_664 rfl rfl dX6_lower_35 (fun σ32 hf => ?_)
        refine v_aload_n hC 0 dX6_lower_38 rfl ?_
        refine v_getR hC (host := "") hf fd_6_5 w_663 dX6_lower_39 (fun r33 hf => ?_)
        refine v_iload_n hC 1 dX6_lower_42 rfl ?_
        refine v_iconst (v := 0) hC dX6_lower_43 (by decide) ?_
        refine v_stI hC hf dX6_lower_44 (fun σ34 hf => ?_)
        refine v_at 45 rfl ?_
        exact v_retV hC hf hE dX6_lower_45
    · refine v_at 20 rfl ?_
      exact v_retV hC hf hE dX6_lower_20
def E_X6_zeros_L2 (K : Cq) (kr sr : Nat) (σ : St)  (y : Int32) : Prop := V K kr sr σ 33 [(2, .int y)] []
set_option maxHeartbeats 4000000 in
set_option maxRecDepth 100000 in
theorem v_X6_zeros_L2 {K : Cq} {k0 s0 : Nat} (hC : Cx K prog_8_method_10_code "TensMillModel") (hR : kR K = rmF 0 0 k0 s0) (hN : kn K = 3) {kr sr : Nat} : ∀ (n : Nat) (σ : St) (a0 : Nat) (i1 : Int32) (i2 : Int32) (y : Int32), f_X6_zeros_L2 n σ a0 i1 i2 = some y → E_X6_zeros_L2 K kr sr σ  y → V K kr sr σ 2 [(0, .ref a0), (1, .int i1), (2, .int i2)] [] := by
  intro n
  induction n with
  | zero =>
    intro σ a0 i1 i2 y hf hE
    cases hf
  | succ n ih =>
    intro σ a0 i1 i2 y hf hE
    replace hf : b_X6_zeros_L2 (f_X6_zeros_L2 n) σ a0 i1 i2 = some y := hf
    unfold b_X6_zeros_L2 at hf
    refine v_iload_n hC 2 dX6_zeros_2 rfl ?_
    refine v_aload_n hC 0 dX6_zeros_3 rfl ?_
    refine v_getR hC (host := "") hf fd_6_5 w_663 dX6_zeros_4 (fun r1 hf => ?_)
    refine v_iload_n hC 1 dX6_zeros_7 rfl ?_
    refine v_ldI hC hf dX6_zeros_8 (fun x2 hf => ?_)
    refine v_icmp_ge hC hf dX6_zeros_9 (tgt := 33) (by decide) (fun hf => ?_) (fun hf => ?_)
    · exact v_sub [(2, .int i2)] [2] rfl (v_exP (E := E_X6_zeros_L2 K _ _ _ ) hf hE)
    · refine v_at 12 rfl ?_
      refine v_aload_n hC 0 dX6_zeros_12 rfl ?_
      refine v_getR hC (host := "") hf fd_6_4 w_662 dX6_zeros_13 (fun r3 hf => ?_)
      refine v_sipush (v := 17000) hC dX6_zeros_16 (by decide) ?_
      refine v_iload_n hC 1 dX6_zeros_19 rfl ?_
      refine v_imul hC dX6_zeros_20 ?_
      refine v_iload_n hC 2 dX6_zeros_21 rfl ?_
      refine v_iadd hC dX6_zeros_22 ?_
      refine v_ldI hC hf dX6_zeros_23 (fun x4 hf => ?_)
      refine v_at 24 rfl ?_
      refine v_if_ne hC hf dX6_zeros_24 (tgt := 33) (by decide) (fun hf => ?_) (fun hf => ?_)
      · exact v_sub [(2, .int i2)] [2] rfl (v_exP (E := E_X6_zeros_L2 K _ _ _ ) hf hE)
      · refine v_at 27 rfl ?_
        refine v_incL hC hf 2 (fun x5 => [(2, .int x5), (0, .ref a0), (1, .int i1)]) dX6_zeros_27 rfl (by decide) hN (Nat.le_of_ble_eq_true rfl) (fun _ => rfl) (fun x5 hf => ?_)
        refine v_goto (tgt := 2) hC dX6_zeros_30 (by decide) ?_
        exact v_sub [(0, .ref a0), (1, .int i1), (2, .int x5)] [1, 2, 0] rfl (ih _ _ _ _ _ hf hE)
set_option maxHeartbeats 4000000 in
set_option maxRecDepth 100000 in
theorem m_X6_zeros {G : Gm} {l : Launch} {σ : St} {a0 : Nat} {i1 : Int32} {r : Int32} (hf : f_X6_zeros σ a0 i1 = some r) : (∃ fs : List Value, σ.1 a0 = some (.inr (.inl (6, fs)))) ∧ Ct G l y_X6_zeros prog_8_method_10_code 3 (some .int) 0 0 [.ref a0, .int i1] σ (some (.int r)) σ 0 0 := by
  unfold f_X6_zeros at hf
  obtain ⟨hob, hf⟩ := ob_some hf
  refine ⟨hob, Ct.ofV pl_X6_zeros (Nat.le_of_ble_eq_true rfl) ?_⟩
  intro K hR hN hnm hC hE
  show V K 0 0 σ 0 [(0, .ref a0), (1, .int i1)] []
  refine v_iconst (v := 0) hC dX6_zeros_0 (by decide) ?_
  refine v_istore_n hC [(2, .int 0), (0, .ref a0), (1, .int i1)] dX6_zeros_1 rfl hN (Nat.le_of_ble_eq_true rfl) rfl ?_
  refine v_at 2 rfl ?_
  refine v_sub [(0, .ref a0), (1, .int i1), (2, .int 0)] [1, 2, 0] rfl ?_
  refine v_lpP hf (E_X6_zeros_L2 K _ _ σ ) (fun _ h hE => v_X6_zeros_L2 hC hR hN _ _ _ _ _ _ h hE) (fun y6 hf => ?_)
  show V K _ _ σ 33 [(2, .int y6)] []
  refine v_iload_n hC 0 dX6_zeros_33 rfl ?_
  exact v_retIP hC hf hE dX6_zeros_34
def E_X6_compareRows_L45 (K : Cq) (kr sr : Nat) (σ : St) (a0 : Nat) (i1 : Int32) (i2 : Int32) (y : Int32) : Prop := V K kr sr σ 82 [(0, .ref a0), (1, .int i1), (2, .int i2), (3, .int y)] []
set_option maxHeartbeats 4000000 in
set_option maxRecDepth 100000 in
theorem v_X6_compareRows_L45 {K : Cq} {k0 s0 : Nat} (hC : Cx K prog_8_method_11_code "TensMillModel") (hR : kR K = rmF 0 0 k0 s0) (hN : kn K = 4) {kr sr : Nat} : ∀ (n : Nat) (σ : St) (a0 : Nat) (i1 : Int32) (i2 : Int32) (i3 : Int32) (y : Int32), f_X6_compareRows_L45 n σ a0 i1 i2 i3 = some y → E_X6_compareRows_L45 K kr sr σ a0 i1 i2 y → V K kr sr σ 45 [(0, .ref a0), (1, .int i1), (2, .int i2), (3, .int i3)] [] := by
  intro n
  induction n with
  | zero =>
    intro σ a0 i1 i2 i3 y hf hE
    cases hf
  | succ n ih =>
    intro σ a0 i1 i2 i3 y hf hE
    replace hf : b_X6_compareRows_L45 (f_X6_compareRows_L45 n) σ a0 i1 i2 i3 = some y := hf
    unfold b_X6_compareRows_L45 at hf
    refine v_iload_n hC 3 dX6_compareRows_45 rfl ?_
    refine v_if_lt hC hf dX6_compareRows_46 (tgt := 82) (by decide) (fun hf => ?_) (fun hf => ?_)
    · exact v_sub [(0, .ref a0), (1, .int i1), (2, .int i2), (3, .int i3)] [0, 1, 2, 3] rfl (v_exP (E := E_X6_compareRows_L45 K _ _ _ a0 i1 i2) hf hE)
    · refine v_at 49 rfl ?_
      refine v_aload_n hC 0 dX6_compareRows_49 rfl ?_
      refine v_getR hC (host := "") hf fd_6_4 w_662 dX6_compareRows_50 (fun r8 hf => ?_)
      refine v_sipush (v := 17000) hC dX6_compareRows_53 (by decide) ?_
      refine v_iload_n hC 1 dX6_compareRows_56 rfl ?_
      refine v_imul hC dX6_compareRows_57 ?_
      refine v_iload_n hC 3 dX6_compareRows_58 rfl ?_
      refine v_iadd hC dX6_compareRows_59 ?_
      refine v_ldI hC hf dX6_compareRows_60 (fun x9 hf => ?_)
      refine v_at 61 rfl ?_
      refine v_aload_n hC 0 dX6_compareRows_61 rfl ?_
      refine v_getR hC (host := "") hf fd_6_4 w_662 dX6_compareRows_62 (fun r10 hf => ?_)
      refine v_sipush (v := 17000) hC dX6_compareRows_65 (by decide) ?_
      refine v_iload_n hC 2 dX6_compareRows_68 rfl ?_
      refine v_imul hC dX6_compareRows_69 ?_
      refine v_iload_n hC 3 dX6_compareRows_70 rfl ?_
      refine v_iadd hC dX6_compareRows_71 ?_
      refine v_ldI hC hf dX6_compareRows_72 (fun x11 hf => ?_)
      refine v_at 73 rfl ?_
      refine v_icmp_ne hC hf dX6_compareRows_73 (tgt := 82) (by decide) (fun hf => ?_) (fun hf => ?_)
      · exact v_sub [(0, .ref a0), (1, .int i1), (2, .int i2), (3, .int i3)] [0, 1, 2, 3] rfl (v_exP (E := E_X6_compareRows_L45 K _ _ _ a0 i1 i2) hf hE)
      · refine v_at 76 rfl ?_
        refine v_incL hC hf 3 (fun x12 => [(3, .int x12), (0, .ref a0), (1, .int i1), (2, .int i2)]) dX6_compareRows_76 rfl (by decide) hN (Nat.le_of_ble_eq_true rfl) (fun _ => rfl) (fun x12 hf => ?_)
        refine v_goto (tgt := 45) hC dX6_compareRows_79 (by decide) ?_
        exact v_sub [(0, .ref a0), (1, .int i1), (2, .int i2), (3, .int x12)] [1, 2, 3, 0] rfl (ih _ _ _ _ _ _ hf hE)
set_option maxHeartbeats 4000000 in
set_option maxRecDepth 100000 in
theorem m_X6_compareRows {G : Gm} {l : Launch} {σ : St} {a0 : Nat} {i1 : Int32} {i2 : Int32} {r : Int32} (hf : f_X6_compareRows σ a0 i1 i2 = some r) : (∃ fs : List Value, σ.1 a0 = some (.inr (.inl (6, fs)))) ∧ Ct G l y_X6_compareRows prog_8_method_11_code 4 (some .int) 0 0 [.ref a0, .int i1, .int i2] σ (some (.int r)) σ 0 0 := by
  unfold f_X6_compareRows at hf
  obtain ⟨hob, hf⟩ := ob_some hf
  refine ⟨hob, Ct.ofV pl_X6_compareRows (Nat.le_of_ble_eq_true rfl) ?_⟩
  intro K hR hN hnm hC hE
  show V K 0 0 σ 0 [(0, .ref a0), (1, .int i1), (2, .int i2)] []
  refine v_aload_n hC 0 dX6_compareRows_0 rfl ?_
  refine v_getR hC (host := "") hf fd_6_5 w_663 dX6_compareRows_1 (fun r1 hf => ?_)
  refine v_iload_n hC 1 dX6_compareRows_4 rfl ?_
  refine v_ldI hC hf dX6_compareRows_5 (fun x2 hf => ?_)
  refine v_aload_n hC 0 dX6_compareRows_6 rfl ?_
  refine v_getR hC (host := "") hf fd_6_5 w_663 dX6_compareRows_7 (fun r3 hf => ?_)
  refine v_iload_n hC 2 dX6_compareRows_10 rfl ?_
  refine v_ldI hC hf dX6_compareRows_11 (fun x4 hf => ?_)
  refine v_at 12 rfl ?_
  refine v_icmp_eq hC hf dX6_compareRows_12 (tgt := 36) (by decide) (fun hf => ?_) (fun hf => ?_)
  · refine v_aload_n hC 0 dX6_compareRows_36 rfl ?_
    refine v_getR hC (host := "") hf fd_6_5 w_663 dX6_compareRows_37 (fun r5 hf => ?_)
    refine v_iload_n hC 1 dX6_compareRows_40 rfl ?_
    refine v_ldI hC hf dX6_compareRows_41 (fun x6 hf => ?_)
    refine v_iconst (v := 1) hC dX6_compareRows_42 (by decide) ?_
    refine v_isub hC dX6_compareRows_43 ?_
    refine v_ltI hf (fun x7 hf => ?_)
    refine v_istore_n hC [(3, .int x7), (0, .ref a0), (1, .int i1), (2, .int i2)] dX6_compareRows_44 rfl hN (Nat.le_of_ble_eq_true rfl) rfl ?_
    refine v_at 45 rfl ?_
    refine v_sub [(0, .ref a0), (1, .int i1), (2, .int i2), (3, .int x7)] [1, 2, 3, 0] rfl ?_
    refine v_lpP hf (E_X6_compareRows_L45 K _ _ σ a0 i1 i2) (fun _ h hE => v_X6_compareRows_L45 hC hR hN _ _ _ _ _ _ _ h hE) (fun y13 hf => ?_)
    show V K _ _ σ 82 [(0, .ref a0), (1, .int i1), (2, .int i2), (3, .int y13)] []
    refine v_iload_n hC 3 dX6_compareRows_82 rfl ?_
    refine v_if_ge hC hf dX6_compareRows_83 (tgt := 90) (by decide) (fun hf => ?_) (fun hf => ?_)
    · refine v_aload_n hC 0 dX6_compareRows_90 rfl ?_
      refine v_getR hC (host := "") hf fd_6_4 w_662 dX6_compareRows_91 (fun r14 hf => ?_)
      refine v_sipush (v := 17000) hC dX6_compareRows_94 (by decide) ?_
      refine v_iload_n hC 1 dX6_compareRows_97 rfl ?_
      refine v_imul hC dX6_compareRows_98 ?_
      refine v_iload_n hC 3 dX6_compareRows_99 rfl ?_
      refine v_iadd hC dX6_compareRows_100 ?_
      refine v_ldI hC hf dX6_compareRows_101 (fun x15 hf => ?_)
      refine v_at 102 rfl ?_
      refine v_aload_n hC 0 dX6_compareRows_102 rfl ?_
      refine v_getR hC (host := "") hf fd_6_4 w_662 dX6_compareRows_103 (fun r16 hf => ?_)
      refine v_sipush (v := 17000) hC dX6_compareRows_106 (by decide) ?_
      refine v_iload_n hC 2 dX6_compareRows_109 rfl ?_
      refine v_imul hC dX6_compareRows_110 ?_
      refine v_iload_n hC 3 dX6_compareRows_111 rfl ?_
      refine v_iadd hC dX6_compareRows_112 ?_
      refine v_ldI hC hf dX6_compareRows_113 (fun x17 hf => ?_)
      refine v_at 114 rfl ?_
      refine v_icmp_ge hC hf dX6_compareRows_114 (tgt := 121) (by decide) (fun hf => ?_) (fun hf => ?_)
      · refine v_iconst (v := 1) hC dX6_compareRows_121 (by decide) ?_
        exact v_retIP hC hf hE dX6_compareRows_122
      · refine v_at 117 rfl ?_
        refine v_iconst (v := (-1)) hC dX6_compareRows_117 (by decide) ?_
        refine v_goto (tgt := 122) hC dX6_compareRows_118 (by decide) ?_
        exact v_retIP hC hf hE dX6_compareRows_122
    · refine v_at 86 rfl ?_
      refine v_iconst (v := 0) hC dX6_compareRows_86 (by decide) ?_
      refine v_goto (tgt := 122) hC dX6_compareRows_87 (by decide) ?_
      exact v_retIP hC hf hE dX6_compareRows_122
  · refine v_at 15 rfl ?_
    refine v_aload_n hC 0 dX6_compareRows_15 rfl ?_
    refine v_getR hC (host := "") hf fd_6_5 w_663 dX6_compareRows_16 (fun r18 hf => ?_)
    refine v_iload_n hC 1 dX6_compareRows_19 rfl ?_
    refine v_ldI hC hf dX6_compareRows_20 (fun x19 hf => ?_)
    refine v_aload_n hC 0 dX6_compareRows_21 rfl ?_
    refine v_getR hC (host := "") hf fd_6_5 w_663 dX6_compareRows_22 (fun r20 hf => ?_)
    refine v_iload_n hC 2 dX6_compareRows_25 rfl ?_
    refine v_ldI hC hf dX6_compareRows_26 (fun x21 hf => ?_)
    refine v_at 27 rfl ?_
    refine v_icmp_ge hC hf dX6_compareRows_27 (tgt := 34) (by decide) (fun hf => ?_) (fun hf => ?_)
    · refine v_iconst (v := 1) hC dX6_compareRows_34 (by decide) ?_
      exact v_retIP hC hf hE dX6_compareRows_35
    · refine v_at 30 rfl ?_
      refine v_iconst (v := (-1)) hC dX6_compareRows_30 (by decide) ?_
      refine v_goto (tgt := 35) hC dX6_compareRows_31 (by decide) ?_
      exact v_retIP hC hf hE dX6_compareRows_35
def E_X6_plus_L37 (K : Cq) (a0 : Nat) (i1 : Int32) (i3 : Int32) (y : Unit) (σ : St) (kr sr : Nat) : Prop := V K kr sr σ 136 [(0, .ref a0), (1, .int i1), (3, .int i3)] []
set_option maxHeartbeats 4000000 in
set_option maxRecDepth 100000 in
theorem v_X6_plus_L37 {K : Cq} {k0 s0 : Nat} (hC : Cx K prog_8_method_12_code "TensMillModel") (hR : kR K = rmF 1 23 k0 s0) (hN : kn K = 7) {ko so : Nat} : ∀ (n : Nat) (σ : St) (a0 : Nat) (i1 : Int32) (i2 : Int32) (i3 : Int32) (i4 : Int32) (i5 : Int32) (y : Unit) (σf : St) (kr sr : Nat), f_X6_plus_L37 n σ a0 i1 i2 i3 i4 i5 = some (y, σf, kr, sr) → E_X6_plus_L37 K a0 i1 i3 y σf ko so → V K (kr + ko) (sr + so) σ 37 [(0, .ref a0), (1, .int i1), (2, .int i2), (3, .int i3), (4, .int i4), (5, .int i5)] [] := by
  intro n
  induction n with
  | zero =>
    intro σ a0 i1 i2 i3 i4 i5 y σf kr sr hf hE
    cases hf
  | succ n ih =>
    intro σ a0 i1 i2 i3 i4 i5 y σf kr sr hf hE
    replace hf : b_X6_plus_L37 (f_X6_plus_L37 n) σ a0 i1 i2 i3 i4 i5 = some (y, σf, kr, sr) := hf
    unfold b_X6_plus_L37 at hf
    refine v_iload hC 5 dX6_plus_37 rfl ?_
    refine v_iload_n hC 3 dX6_plus_39 rfl ?_
    refine v_icmp_gt hC hf dX6_plus_40 (tgt := 136) (by decide) (fun hf => ?_) (fun hf => ?_)
    · obtain ⟨hX, e1, e2⟩ := v_exE (E := E_X6_plus_L37 K a0 i1 i3) hf hE
      rw [e1, e2]
      exact v_sub [(0, .ref a0), (1, .int i1), (3, .int i3)] [0, 1, 3] rfl hX
    · refine v_at 43 rfl ?_
      refine v_iload hC 5 dX6_plus_43 rfl ?_
      refine v_aload_n hC 0 dX6_plus_45 rfl ?_
      refine v_getR hC (host := "") hf fd_6_5 w_663 dX6_plus_46 (fun r6 hf => ?_)
      refine v_iload_n hC 1 dX6_plus_49 rfl ?_
      refine v_ldI hC hf dX6_plus_50 (fun x7 hf => ?_)
      refine v_jnE hf (fun z8 kr sr => V K (kr + ko) (sr + so) σ 71 [(0, .ref a0), (1, .int i1), (2, .int i2), (3, .int i3), (4, .int i4), (5, .int i5)] [.int z8]) (fun z8 _ _ hf => ?_) (fun k8 hk8 hf => ?_)
      · refine v_iload hC 5 dX6_plus_71 rfl ?_
        refine v_aload_n hC 0 dX6_plus_73 rfl ?_
        refine v_getR hC (host := "") hf fd_6_5 w_663 dX6_plus_74 (fun r9 hf => ?_)
        refine v_iload_n hC 2 dX6_plus_77 rfl ?_
        refine v_ldI hC hf dX6_plus_78 (fun x10 hf => ?_)
        refine v_jnE hf (fun z11 kr sr => V K (kr + ko) (sr + so) σ 99 [(0, .ref a0), (1, .int i1), (2, .int i2), (3, .int i3), (4, .int i4), (5, .int i5)] [.int z11, .int z8]) (fun z11 _ _ hf => ?_) (fun k11 hk11 hf => ?_)
        · refine v_iadd hC dX6_plus_99 ?_
          refine v_iload hC 4 dX6_plus_100 rfl ?_
          refine v_iadd hC dX6_plus_102 ?_
          refine v_ltI hf (fun x12 hf => ?_)
          refine v_istore hC [(6, .int x12), (0, .ref a0), (1, .int i1), (2, .int i2), (3, .int i3), (4, .int i4), (5, .int i5)] dX6_plus_103 hN (Nat.le_of_ble_eq_true rfl) rfl ?_
          refine v_aload_n hC 1 dX6_plus_105 rfl ?_
          refine v_getR hC (host := "") hf fd_6_4 w_662 dX6_plus_106 (fun r13 hf => ?_)
          refine v_sipush (v := 17000) hC dX6_plus_109 (by decide) ?_
          refine v_iload_n hC 2 dX6_plus_112 rfl ?_
          refine v_at 113 rfl ?_
          refine v_imul hC dX6_plus_113 ?_
          refine v_iload hC 6 dX6_plus_114 rfl ?_
          refine v_iadd hC dX6_plus_116 ?_
          refine v_iload hC 0 dX6_plus_117 rfl ?_
          refine v_bipush (v := 10) hC dX6_plus_119 (by decide) ?_
          refine v_irem hC hf dX6_plus_121 (fun x14 hf => ?_)
          refine v_stI hC hf dX6_plus_122 (fun σ15 hf => ?_)
          refine v_iload hC 0 dX6_plus_123 rfl ?_
          refine v_at 125 rfl ?_
          refine v_bipush (v := 10) hC dX6_plus_125 (by decide) ?_
          refine v_idiv hC hf dX6_plus_127 (fun x16 hf => ?_)
          refine v_istore hC [(4, .int x16), (6, .int x12), (0, .ref a0), (1, .int i1), (2, .int i2), (3, .int i3), (5, .int i5)] dX6_plus_128 hN (Nat.le_of_ble_eq_true rfl) rfl ?_
          refine v_incL hC hf 6 (fun x17 => [(5, .int x17), (4, .int x16), (6, .int x12), (0, .ref a0), (1, .int i1), (2, .int i2), (3, .int i3)]) dX6_plus_130 rfl (by decide) hN (Nat.le_of_ble_eq_true rfl) (fun _ => rfl) (fun x17 hf => ?_)
          refine v_goto (tgt := 37) hC dX6_plus_133 (by decide) ?_
          exact v_sub [(0, .ref a0), (1, .int i1), (2, .int i2), (3, .int i3), (4, .int x16), (5, .int x17)] [3, 4, 5, 6, 1, 0] rfl (ih _ _ _ _ _ _ _ _ _ _ _ hf hE)
        · refine v_icmp_ge hC hf dX6_plus_79 (tgt := 98) (by decide) (fun hf => ?_) (fun hf => ?_)
          · refine v_iconst (v := 0) hC dX6_plus_98 (by decide) ?_
            refine v_at 99 rfl ?_
            exact v_sub [(0, .ref a0), (1, .int i1), (2, .int i2), (3, .int i3), (4, .int i4), (5, .int i5)] [0, 1, 2, 3, 4, 5] rfl (hk11 _ _ _ hf)
          · refine v_at 82 rfl ?_
            refine v_aload_n hC 0 dX6_plus_82 rfl ?_
            refine v_getR hC (host := "") hf fd_6_4 w_662 dX6_plus_83 (fun r18 hf => ?_)
            refine v_sipush (v := 17000) hC dX6_plus_86 (by decide) ?_
            refine v_iload_n hC 2 dX6_plus_89 rfl ?_
            refine v_imul hC dX6_plus_90 ?_
            refine v_iload hC 5 dX6_plus_91 rfl ?_
            refine v_iadd hC dX6_plus_93 ?_
            refine v_ldI hC hf dX6_plus_94 (fun x19 hf => ?_)
            refine v_at 95 rfl ?_
            refine v_goto (tgt := 99) hC dX6_plus_95 (by decide) ?_
            exact v_sub [(0, .ref a0), (1, .int i1), (2, .int i2), (3, .int i3), (4, .int i4), (5, .int i5)] [0, 1, 2, 3, 4, 5] rfl (hk11 _ _ _ hf)
      · refine v_icmp_ge hC hf dX6_plus_51 (tgt := 70) (by decide) (fun hf => ?_) (fun hf => ?_)
        · refine v_iconst (v := 0) hC dX6_plus_70 (by decide) ?_
          refine v_at 71 rfl ?_
          exact v_sub [(0, .ref a0), (1, .int i1), (2, .int i2), (3, .int i3), (4, .int i4), (5, .int i5)] [0, 1, 2, 3, 4, 5] rfl (hk8 _ _ _ hf)
        · refine v_at 54 rfl ?_
          refine v_aload_n hC 0 dX6_plus_54 rfl ?_
          refine v_getR hC (host := "") hf fd_6_4 w_662 dX6_plus_55 (fun r20 hf => ?_)
          refine v_sipush (v := 17000) hC dX6_plus_58 (by decide) ?_
          refine v_iload_n hC 1 dX6_plus_61 rfl ?_
          refine v_imul hC dX6_plus_62 ?_
          refine v_iload hC 5 dX6_plus_63 rfl ?_
          refine v_iadd hC dX6_plus_65 ?_
          refine v_ldI hC hf dX6_plus_66 (fun x21 hf => ?_)
          refine v_at 67 rfl ?_
          refine v_goto (tgt := 71) hC dX6_plus_67 (by decide) ?_
          exact v_sub [(0, .ref a0), (1, .int i1), (2, .int i2), (3, .int i3), (4, .int i4), (5, .int i5)] [0, 1, 2, 3, 4, 5] rfl (hk8 _ _ _ hf)
set_option maxHeartbeats 4000000 in
set_option maxRecDepth 100000 in
theorem m_X6_plus {G : Gm} {l : Launch} {σ : St} {a0 : Nat} {i1 : Int32} {i2 : Int32} {r : Unit} {σf : St} {k s : Nat} (hf : f_X6_plus σ a0 i1 i2 = some (r, σf, k, s)) : (∃ fs : List Value, σ.1 a0 = some (.inr (.inl (6, fs)))) ∧ Ct G l y_X6_plus prog_8_method_12_code 7 none 1 23 [.ref a0, .int i1, .int i2] σ none σf k s := by
  unfold f_X6_plus at hf
  obtain ⟨hob, hf⟩ := ob_some hf
  refine ⟨hob, Ct.ofV pl_X6_plus (Nat.le_of_ble_eq_true rfl) ?_⟩
  intro K hR hN hnm hC hE
  show V K (k + 0) (s + 0) σ 0 [(0, .ref a0), (1, .int i1), (2, .int i2)] []
  refine v_aload_n hC 0 dX6_plus_0 rfl ?_
  refine v_getR hC (host := "") hf fd_6_5 w_663 dX6_plus_1 (fun r1 hf => ?_)
  refine v_iload_n hC 1 dX6_plus_4 rfl ?_
  refine v_ldI hC hf dX6_plus_5 (fun x2 hf => ?_)
  refine v_aload_n hC 0 dX6_plus_6 rfl ?_
  refine v_getR hC (host := "") hf fd_6_5 w_663 dX6_plus_7 (fun r3 hf => ?_)
  refine v_iload_n hC 2 dX6_plus_10 rfl ?_
  refine v_ldI hC hf dX6_plus_11 (fun x4 hf => ?_)
  refine v_at 12 rfl ?_
  refine v_jnE hf (fun z5 kr sr => V K (kr + 0) (sr + 0) σ 30 [(0, .ref a0), (1, .int i1), (2, .int i2)] [.int z5]) (fun z5 _ _ hf => ?_) (fun k5 hk5 hf => ?_)
  · refine v_istore_n hC [(3, .int z5), (0, .ref a0), (1, .int i1), (2, .int i2)] dX6_plus_30 rfl hN (Nat.le_of_ble_eq_true rfl) rfl ?_
    refine v_iconst (v := 0) hC dX6_plus_31 (by decide) ?_
    refine v_istore hC [(4, .int 0), (3, .int z5), (0, .ref a0), (1, .int i1), (2, .int i2)] dX6_plus_32 hN (Nat.le_of_ble_eq_true rfl) rfl ?_
    refine v_iconst (v := 0) hC dX6_plus_34 (by decide) ?_
    refine v_istore hC [(5, .int 0), (4, .int 0), (3, .int z5), (0, .ref a0), (1, .int i1), (2, .int i2)] dX6_plus_35 hN (Nat.le_of_ble_eq_true rfl) rfl ?_
    refine v_at 37 rfl ?_
    refine v_sub [(0, .ref a0), (1, .int i1), (2, .int i2), (3, .int z5), (4, .int 0), (5, .int 0)] [3, 4, 5, 2, 1, 0] rfl ?_
    refine v_lpE hf (E_X6_plus_L37 K a0 i1 z5) (fun _ _ _ _ _ _ h hE => v_X6_plus_L37 hC hR hN _ _ _ _ _ _ _ _ _ _ _ _ h hE) (fun y22 σ23 _ _ hf => ?_)
    show V K _ _ σ23 136 [(0, .ref a0), (1, .int i1), (3, .int z5)] []
    refine v_aload_n hC 0 dX6_plus_136 rfl ?_
    refine v_iload_n hC 1 dX6_plus_137 rfl ?_
    refine v_iload_n hC 2 dX6_plus_138 rfl ?_
    refine v_iconst (v := 1) hC dX6_plus_139 (by decide) ?_
    refine v_iadd hC dX6_plus_140 ?_
    refine v_cVE hC (y := y_X6_trim) (ci := 6) [.int i1, .int (z5 + 1)] [] (fun _ => none) (fun _ => []) hf (fun _ _ _ _ h => m_X6_trim h) rfl (fun _ => rfl) rfl rfl hR (Nat.le_of_ble_eq_true rfl) (Nat.le_of_ble_eq_true rfl) w_734 w_731 w_733 w_32 w_64 nm_X6_trim rfl (Nat.le_of_ble_eq_true rfl) dX6_plus_141 (fun _ σ24 _ _ hf => ?_)
    exact v_retV hC hf hE dX6_plus_144
  · refine v_icmp_le hC hf dX6_plus_12 (tgt := 24) (by decide) (fun hf => ?_) (fun hf => ?_)
    · refine v_aload_n hC 0 dX6_plus_24 rfl ?_
      refine v_getR hC (host := "") hf fd_6_5 w_663 dX6_plus_25 (fun r25 hf => ?_)
      refine v_iload_n hC 2 dX6_plus_28 rfl ?_
      refine v_ldI hC hf dX6_plus_29 (fun x26 hf => ?_)
      refine v_at 30 rfl ?_
      exact v_sub [(0, .ref a0), (1, .int i1), (2, .int i2)] [0, 1, 2] rfl (hk5 _ _ _ hf)
    · refine v_at 15 rfl ?_
      refine v_aload_n hC 0 dX6_plus_15 rfl ?_
      refine v_getR hC (host := "") hf fd_6_5 w_663 dX6_plus_16 (fun r27 hf => ?_)
      refine v_iload_n hC 1 dX6_plus_19 rfl ?_
      refine v_ldI hC hf dX6_plus_20 (fun x28 hf => ?_)
      refine v_goto (tgt := 30) hC dX6_plus_21 (by decide) ?_
      exact v_sub [(0, .ref a0), (1, .int i1), (2, .int i2)] [0, 1, 2] rfl (hk5 _ _ _ hf)
