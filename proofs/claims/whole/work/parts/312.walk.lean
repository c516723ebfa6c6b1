set_option maxHeartbeats 4000000 in
set_option maxRecDepth 100000 in
theorem m_X6_sign {G : Gm} {l : Launch} {σ : St} {a0 : Nat} {i1 : Int32} {r : Int32} (hf : f_X6_sign σ a0 i1 = some r) : (∃ fs : List Value, σ.1 a0 = some (.inr (.inl (6, fs)))) ∧ Ct G l y_X6_sign prog_8_method_44_code 2 (some .int) 1 20 [.ref a0, .int i1] σ (some (.int r)) σ 0 0 := by
  unfold f_X6_sign at hf
  obtain ⟨hob, hf⟩ := ob_some hf
  refine ⟨hob, Ct.ofV pl_X6_sign (Nat.le_of_ble_eq_true rfl) ?_⟩
  intro K hR hN hnm hC hE
  show V K 0 0 σ 0 [(0, .ref a0), (1, .int i1)] []
  refine v_iload_n hC 1 dX6_sign_0 rfl ?_
  refine v_cSP hC (y := y_X6_is) [.int i1] [] (fun r => some (.int r)) (fun r => .int r :: []) hf (fun _ h => m_X6_is h) rfl (fun _ => rfl) hR (Nat.le_of_ble_eq_true rfl) (Nat.le_of_ble_eq_true rfl) w_698 w_696 w_697 w_64 nm_X6_is rfl (Nat.le_of_ble_eq_true rfl) dX6_sign_1 (fun x1 hf => ?_)
  refine v_if_eq hC hf dX6_sign_4 (tgt := 16) (by decide) (fun hf => ?_) (fun hf => ?_)
  · refine v_bipush (v := (-2)) hC dX6_sign_16 (by decide) ?_
    exact v_retIP hC hf hE dX6_sign_18
  · refine v_at 7 rfl ?_
    refine v_aload_n hC 0 dX6_sign_7 rfl ?_
    refine v_getR hC (host := "") hf fd_6_2 w_660 dX6_sign_8 (fun r2 hf => ?_)
    refine v_iload_n hC 1 dX6_sign_11 rfl ?_
    refine v_ldI hC hf dX6_sign_12 (fun x3 hf => ?_)
    refine v_goto (tgt := 18) hC dX6_sign_13 (by decide) ?_
    exact v_retIP hC hf hE dX6_sign_18
set_option maxHeartbeats 4000000 in
set_option maxRecDepth 100000 in
theorem m_X6_digitsOf {G : Gm} {l : Launch} {σ : St} {a0 : Nat} {i1 : Int32} {r : Int32} (hf : f_X6_digitsOf σ a0 i1 = some r) : (∃ fs : List Value, σ.1 a0 = some (.inr (.inl (6, fs)))) ∧ Ct G l y_X6_digitsOf prog_8_method_45_code 2 (some .int) 0 0 [.ref a0, .int i1] σ (some (.int r)) σ 0 0 := by
  unfold f_X6_digitsOf at hf
  obtain ⟨hob, hf⟩ := ob_some hf
  refine ⟨hob, Ct.ofV pl_X6_digitsOf (Nat.le_of_ble_eq_true rfl) ?_⟩
  intro K hR hN hnm hC hE
  show V K 0 0 σ 0 [(0, .ref a0), (1, .int i1)] []
  refine v_aload_n hC 0 dX6_digitsOf_0 rfl ?_
  refine v_getR hC (host := "") hf fd_6_1 w_659 dX6_digitsOf_1 (fun r1 hf => ?_)
  refine v_iload_n hC 1 dX6_digitsOf_4 rfl ?_
  refine v_ldI hC hf dX6_digitsOf_5 (fun x2 hf => ?_)
  refine v_if_ne hC hf dX6_digitsOf_6 (tgt := 13) (by decide) (fun hf => ?_) (fun hf => ?_)
  · refine v_aload_n hC 0 dX6_digitsOf_13 rfl ?_
    refine v_getR hC (host := "") hf fd_6_1 w_659 dX6_digitsOf_14 (fun r3 hf => ?_)
    refine v_iload_n hC 1 dX6_digitsOf_17 rfl ?_
    refine v_ldI hC hf dX6_digitsOf_18 (fun x4 hf => ?_)
    exact v_retIP hC hf hE dX6_digitsOf_19
  · refine v_at 9 rfl ?_
    refine v_iconst (v := 1) hC dX6_digitsOf_9 (by decide) ?_
    refine v_goto (tgt := 19) hC dX6_digitsOf_10 (by decide) ?_
    exact v_retIP hC hf hE dX6_digitsOf_19
set_option maxHeartbeats 4000000 in
set_option maxRecDepth 100000 in
theorem m_X6_precision {G : Gm} {l : Launch} {σ : St} {a0 : Nat} {i1 : Int32} {r : Int32} (hf : f_X6_precision σ a0 i1 = some r) : (∃ fs : List Value, σ.1 a0 = some (.inr (.inl (6, fs)))) ∧ Ct G l y_X6_precision prog_8_method_46_code 2 (some .int) 1 21 [.ref a0, .int i1] σ (some (.int r)) σ 0 0 := by
  unfold f_X6_precision at hf
  obtain ⟨hob, hf⟩ := ob_some hf
  refine ⟨hob, Ct.ofV pl_X6_precision (Nat.le_of_ble_eq_true rfl) ?_⟩
  intro K hR hN hnm hC hE
  show V K 0 0 σ 0 [(0, .ref a0), (1, .int i1)] []
  refine v_iload_n hC 1 dX6_precision_0 rfl ?_
  refine v_cSP hC (y := y_X6_is) [.int i1] [] (fun r => some (.int r)) (fun r => .int r :: []) hf (fun _ h => m_X6_is h) rfl (fun _ => rfl) hR (Nat.le_of_ble_eq_true rfl) (Nat.le_of_ble_eq_true rfl) w_698 w_696 w_697 w_64 nm_X6_is rfl (Nat.le_of_ble_eq_true rfl) dX6_precision_1 (fun x1 hf => ?_)
  refine v_if_eq hC hf dX6_precision_4 (tgt := 15) (by decide) (fun hf => ?_) (fun hf => ?_)
  · refine v_iconst (v := (-1)) hC dX6_precision_15 (by decide) ?_
    exact v_retIP hC hf hE dX6_precision_16
  · refine v_at 7 rfl ?_
    refine v_aload_n hC 0 dX6_precision_7 rfl ?_
    refine v_iload_n hC 1 dX6_precision_8 rfl ?_
    refine v_cVP hC (y := y_X6_digitsOf) (ci := 6) [.int i1] [] (fun r => some (.int r)) (fun r => .int r :: []) hf (fun _ h => m_X6_digitsOf h) rfl (fun _ => rfl) rfl rfl hR (Nat.le_of_ble_eq_true rfl) (Nat.le_of_ble_eq_true rfl) w_876 w_873 w_875 w_50 w_64 nm_X6_digitsOf rfl (Nat.le_of_ble_eq_true rfl) dX6_precision_9 (fun x2 hf => ?_)
    refine v_goto (tgt := 16) hC dX6_precision_12 (by decide) ?_
    exact v_retIP hC hf hE dX6_precision_16
set_option maxHeartbeats 4000000 in
set_option maxRecDepth 100000 in
theorem m_X6_scale {G : Gm} {l : Launch} {σ : St} {a0 : Nat} {i1 : Int32} {r : Int32} (hf : f_X6_scale σ a0 i1 = some r) : (∃ fs : List Value, σ.1 a0 = some (.inr (.inl (6, fs)))) ∧ Ct G l y_X6_scale prog_8_method_47_code 2 (some .int) 1 20 [.ref a0, .int i1] σ (some (.int r)) σ 0 0 := by
  unfold f_X6_scale at hf
  obtain ⟨hob, hf⟩ := ob_some hf
  refine ⟨hob, Ct.ofV pl_X6_scale (Nat.le_of_ble_eq_true rfl) ?_⟩
  intro K hR hN hnm hC hE
  show V K 0 0 σ 0 [(0, .ref a0), (1, .int i1)] []
  refine v_iload_n hC 1 dX6_scale_0 rfl ?_
  refine v_cSP hC (y := y_X6_is) [.int i1] [] (fun r => some (.int r)) (fun r => .int r :: []) hf (fun _ h => m_X6_is h) rfl (fun _ => rfl) hR (Nat.le_of_ble_eq_true rfl) (Nat.le_of_ble_eq_true rfl) w_698 w_696 w_697 w_64 nm_X6_is rfl (Nat.le_of_ble_eq_true rfl) dX6_scale_1 (fun x1 hf => ?_)
  refine v_if_eq hC hf dX6_scale_4 (tgt := 16) (by decide) (fun hf => ?_) (fun hf => ?_)
  · refine v_iconst (v := 0) hC dX6_scale_16 (by decide) ?_
    exact v_retIP hC hf hE dX6_scale_17
  · refine v_at 7 rfl ?_
    refine v_aload_n hC 0 dX6_scale_7 rfl ?_
    refine v_getR hC (host := "") hf fd_6_3 w_661 dX6_scale_8 (fun r2 hf => ?_)
    refine v_iload_n hC 1 dX6_scale_11 rfl ?_
    refine v_ldI hC hf dX6_scale_12 (fun x3 hf => ?_)
    refine v_goto (tgt := 17) hC dX6_scale_13 (by decide) ?_
    exact v_retIP hC hf hE dX6_scale_17
set_option maxHeartbeats 4000000 in
set_option maxRecDepth 100000 in
theorem m_X6_digit {G : Gm} {l : Launch} {σ : St} {a0 : Nat} {i1 : Int32} {i2 : Int32} {r : Int32} (hf : f_X6_digit σ a0 i1 i2 = some r) : (∃ fs : List Value, σ.1 a0 = some (.inr (.inl (6, fs)))) ∧ Ct G l y_X6_digit prog_8_method_48_code 3 (some .int) 1 21 [.ref a0, .int i1, .int i2] σ (some (.int r)) σ 0 0 := by
  unfold f_X6_digit at hf
  obtain ⟨hob, hf⟩ := ob_some hf
  refine ⟨hob, Ct.ofV pl_X6_digit (Nat.le_of_ble_eq_true rfl) ?_⟩
  intro K hR hN hnm hC hE
  show V K 0 0 σ 0 [(0, .ref a0), (1, .int i1), (2, .int i2)] []
  refine v_iload_n hC 1 dX6_digit_0 rfl ?_
  refine v_cSP hC (y := y_X6_is) [.int i1] [] (fun r => some (.int r)) (fun r => .int r :: []) hf (fun _ h => m_X6_is h) rfl (fun _ => rfl) hR (Nat.le_of_ble_eq_true rfl) (Nat.le_of_ble_eq_true rfl) w_698 w_696 w_697 w_64 nm_X6_is rfl (Nat.le_of_ble_eq_true rfl) dX6_digit_1 (fun x1 hf => ?_)
  refine v_if_eq hC hf dX6_digit_4 (tgt := 20) (by decide) (fun hf => ?_) (fun hf => ?_)
  · refine v_iconst (v := (-1)) hC dX6_digit_20 (by decide) ?_
    exact v_retIP hC hf hE dX6_digit_21
  · refine v_at 7 rfl ?_
    refine v_iload_n hC 2 dX6_digit_7 rfl ?_
    refine v_if_lt hC hf dX6_digit_8 (tgt := 20) (by decide) (fun hf => ?_) (fun hf => ?_)
    · refine v_iconst (v := (-1)) hC dX6_digit_20 (by decide) ?_
      exact v_retIP hC hf hE dX6_digit_21
    · refine v_at 11 rfl ?_
      refine v_iload_n hC 2 dX6_digit_11 rfl ?_
      refine v_aload_n hC 0 dX6_digit_12 rfl ?_
      refine v_iload_n hC 1 dX6_digit_13 rfl ?_
      refine v_cVP hC (y := y_X6_digitsOf) (ci := 6) [.int i1] [.int i2] (fun r => some (.int r)) (fun r => .int r :: [.int i2]) hf (fun _ h => m_X6_digitsOf h) rfl (fun _ => rfl) rfl rfl hR (Nat.le_of_ble_eq_true rfl) (Nat.le_of_ble_eq_true rfl) w_876 w_873 w_875 w_50 w_64 nm_X6_digitsOf rfl (Nat.le_of_ble_eq_true rfl) dX6_digit_14 (fun x2 hf => ?_)
      refine v_icmp_lt hC hf dX6_digit_17 (tgt := 22) (by decide) (fun hf => ?_) (fun hf => ?_)
      · refine v_aload_n hC 0 dX6_digit_22 rfl ?_
        refine v_getR hC (host := "") hf fd_6_1 w_659 dX6_digit_23 (fun r3 hf => ?_)
        refine v_iload_n hC 1 dX6_digit_26 rfl ?_
        refine v_ldI hC hf dX6_digit_27 (fun x4 hf => ?_)
        refine v_if_ne hC hf dX6_digit_28 (tgt := 35) (by decide) (fun hf => ?_) (fun hf => ?_)
        · refine v_aload_n hC 0 dX6_digit_35 rfl ?_
          refine v_getR hC (host := "") hf fd_6_0 w_658 dX6_digit_36 (fun r5 hf => ?_)
          refine v_sipush (v := 4096) hC dX6_digit_39 (by decide) ?_
          refine v_iload_n hC 1 dX6_digit_42 rfl ?_
          refine v_imul hC dX6_digit_43 ?_
          refine v_iload_n hC 2 dX6_digit_44 rfl ?_
          refine v_iadd hC dX6_digit_45 ?_
          refine v_ldI hC hf dX6_digit_46 (fun x6 hf => ?_)
          refine v_at 47 rfl ?_
          exact v_retIP hC hf hE dX6_digit_47
        · refine v_at 31 rfl ?_
          refine v_iconst (v := 0) hC dX6_digit_31 (by decide) ?_
          refine v_goto (tgt := 47) hC dX6_digit_32 (by decide) ?_
          exact v_retIP hC hf hE dX6_digit_47
      · refine v_at 20 rfl ?_
        refine v_iconst (v := (-1)) hC dX6_digit_20 (by decide) ?_
        exact v_retIP hC hf hE dX6_digit_21
def E_X6_type_L8 (K : Cq) (kr sr : Nat) (σ : St) (a0 : Nat) (j1 : Int64) (y : Int32 × Int32) : Prop := V K kr sr σ 70 [(0, .ref a0), (1, .long j1), (3, .int y.1), (4, .int y.2)] []
set_option maxHeartbeats 4000000 in
set_option maxRecDepth 100000 in
theorem v_X6_type_L8 {K : Cq} {k0 s0 : Nat} (hC : Cx K prog_8_method_49_code "TensMillModel") (hR : kR K = rmF 0 0 k0 s0) (hN : kn K = 8) {kr sr : Nat} : ∀ (n : Nat) (σ : St) (a0 : Nat) (j1 : Int64) (i3 : Int32) (i4 : Int32) (i5 : Int32) (y : Int32 × Int32), f_X6_type_L8 n σ a0 j1 i3 i4 i5 = some y → E_X6_type_L8 K kr sr σ a0 j1 y → V K kr sr σ 8 [(0, .ref a0), (1, .long j1), (3, .int i3), (4, .int i4), (5, .int i5)] [] := by
  intro n
  induction n with
  | zero =>
    intro σ a0 j1 i3 i4 i5 y hf hE
    cases hf
  | succ n ih =>
    intro σ a0 j1 i3 i4 i5 y hf hE
    replace hf : b_X6_type_L8 (f_X6_type_L8 n) σ a0 j1 i3 i4 i5 = some y := hf
    unfold b_X6_type_L8 at hf
    refine v_iload hC 4 dX6_type_8 rfl ?_
    refine v_bipush (v := 8) hC dX6_type_10 (by decide) ?_
    refine v_icmp_ge hC hf dX6_type_12 (tgt := 70) (by decide) (fun hf => ?_) (fun hf => ?_)
    · exact v_sub [(0, .ref a0), (1, .long j1), (3, .int i3), (4, .int i4)] [0, 1, 2, 3] rfl (v_exP (E := E_X6_type_L8 K _ _ _ a0 j1) hf hE)
    · refine v_at 15 rfl ?_
      refine v_lload_n hC 1 dX6_type_15 rfl ?_
      refine v_bipush (v := 8) hC dX6_type_16 (by decide) ?_
      refine v_iload hC 4 dX6_type_18 rfl ?_
      refine v_imul hC dX6_type_20 ?_
      refine v_lshr hC dX6_type_21 ?_
      refine v_ldc2 hC dX6_type_22 w_889 ?_
      refine v_land hC dX6_type_25 ?_
      refine v_ltL hf (fun l1 hf => ?_)
      refine v_lstore hC [(6, .long l1), (0, .ref a0), (1, .long j1), (3, .int i3), (4, .int i4), (5, .int i5)] dX6_type_26 hN (Nat.le_of_ble_eq_true rfl) rfl ?_
      refine v_at 28 rfl ?_
      refine v_iload_n hC 3 dX6_type_28 rfl ?_
      refine v_lload hC 0 dX6_type_29 rfl ?_
      refine v_lconst (v := 0) hC dX6_type_31 (by decide) ?_
      refine v_jnP hf (fun z2 => V K kr sr σ 41 [(0, .ref a0), (1, .long j1), (4, .int i4), (5, .int i5), (6, .long l1)] [.int z2, .int i3]) (fun z2 hf => ?_) (fun k2 hk2 hf => ?_)
      · refine v_iadd hC dX6_type_41 ?_
        refine v_ltI hf (fun x3 hf => ?_)
        refine v_istore_n hC [(3, .int x3), (0, .ref a0), (1, .long j1), (4, .int i4), (5, .int i5), (6, .long l1)] dX6_type_42 rfl hN (Nat.le_of_ble_eq_true rfl) rfl ?_
        refine v_iload hC 3 dX6_type_43 rfl ?_
        refine v_jnP hf (fun z4 => V K kr sr σ 62 [(0, .ref a0), (1, .long j1), (3, .int x3), (5, .int i5)] [.int z4]) (fun z4 hf => ?_) (fun k4 hk4 hf => ?_)
        · refine v_istore hC [(4, .int z4), (0, .ref a0), (1, .long j1), (3, .int x3), (5, .int i5)] dX6_type_62 hN (Nat.le_of_ble_eq_true rfl) rfl ?_
          refine v_incL hC hf 4 (fun x5 => [(5, .int x5), (4, .int z4), (0, .ref a0), (1, .long j1), (3, .int x3)]) dX6_type_64 rfl (by decide) hN (Nat.le_of_ble_eq_true rfl) (fun _ => rfl) (fun x5 hf => ?_)
          refine v_goto (tgt := 8) hC dX6_type_67 (by decide) ?_
          exact v_sub [(0, .ref a0), (1, .long j1), (3, .int x3), (4, .int z4), (5, .int x5)] [2, 3, 4, 1, 0] rfl (ih _ _ _ _ _ _ _ hf hE)
        · refine v_jnP hf (fun z6 => V K kr sr σ 61 [(0, .ref a0), (1, .long j1), (3, .int x3), (5, .int i5)] []) (fun z6 hf => ?_) (fun k6 hk6 hf => ?_)
          · refine v_iconst (v := 0) hC dX6_type_61 (by decide) ?_
            refine v_at 62 rfl ?_
            exact v_sub [(0, .ref a0), (1, .long j1), (3, .int x3), (5, .int i5)] [0, 1, 2, 3] rfl (hk4 _ hf)
          · refine v_if_eq hC hf dX6_type_45 (tgt := 61) (by decide) (fun hf => ?_) (fun hf => ?_)
            · exact v_sub [(0, .ref a0), (1, .long j1), (3, .int x3), (5, .int i5)] [1, 2, 0, 4] rfl (hk6 _ hf)
            · refine v_at 48 rfl ?_
              refine v_lload hC 5 dX6_type_48 rfl ?_
              refine v_ldc2 hC dX6_type_50 w_890 ?_
              refine v_lcmp_ge hC hf dX6_type_53 dX6_type_54 (tgt := 61) (by decide) (fun hf => ?_) (fun hf => ?_)
              · exact v_sub [(0, .ref a0), (1, .long j1), (3, .int x3), (5, .int i5)] [1, 2, 0, 4] rfl (hk6 _ hf)
              · refine v_at 57 rfl ?_
                refine v_iconst (v := 1) hC dX6_type_57 (by decide) ?_
                refine v_goto (tgt := 62) hC dX6_type_58 (by decide) ?_
                exact v_sub [(0, .ref a0), (1, .long j1), (3, .int x3), (5, .int i5)] [1, 2, 0, 4] rfl (hk4 _ hf)
      · refine v_lcmp_eq hC hf dX6_type_32 dX6_type_33 (tgt := 40) (by decide) (fun hf => ?_) (fun hf => ?_)
        · refine v_iconst (v := 0) hC dX6_type_40 (by decide) ?_
          refine v_at 41 rfl ?_
          exact v_sub [(0, .ref a0), (1, .long j1), (4, .int i4), (5, .int i5), (6, .long l1)] [1, 2, 4, 5, 0] rfl (hk2 _ hf)
        · refine v_at 36 rfl ?_
          refine v_iconst (v := 1) hC dX6_type_36 (by decide) ?_
          refine v_goto (tgt := 41) hC dX6_type_37 (by decide) ?_
          exact v_sub [(0, .ref a0), (1, .long j1), (4, .int i4), (5, .int i5), (6, .long l1)] [1, 2, 4, 5, 0] rfl (hk2 _ hf)
def E_X6_type_L93 (K : Cq)  (y : Unit) (σ : St) (kr sr : Nat) : Prop := V K kr sr σ 147 [] []
set_option maxHeartbeats 4000000 in
set_option maxRecDepth 100000 in
theorem v_X6_type_L93 {K : Cq} {k0 s0 : Nat} (hC : Cx K prog_8_method_49_code "TensMillModel") (hR : kR K = rmF 0 0 k0 s0) (hN : kn K = 8) {ko so : Nat} : ∀ (n : Nat) (σ : St) (a0 : Nat) (j1 : Int64) (i5 : Int32) (y : Unit) (σf : St) (kr sr : Nat), f_X6_type_L93 n σ a0 j1 i5 = some (y, σf, kr, sr) → E_X6_type_L93 K  y σf ko so → V K (kr + ko) (sr + so) σ 93 [(0, .ref a0), (1, .long j1), (5, .int i5)] [] := by
  intro n
  induction n with
  | zero =>
    intro σ a0 j1 i5 y σf kr sr hf hE
    cases hf
  | succ n ih =>
    intro σ a0 j1 i5 y σf kr sr hf hE
    replace hf : b_X6_type_L93 (f_X6_type_L93 n) σ a0 j1 i5 = some (y, σf, kr, sr) := hf
    unfold b_X6_type_L93 at hf
    refine v_iload hC 2 dX6_type_93 rfl ?_
    refine v_if_lt hC hf dX6_type_95 (tgt := 147) (by decide) (fun hf => ?_) (fun hf => ?_)
    · obtain ⟨hX, e1, e2⟩ := v_exE (E := E_X6_type_L93 K ) hf hE
      rw [e1, e2]
      exact v_sub [] [] rfl hX
    · refine v_at 98 rfl ?_
      refine v_lload_n hC 1 dX6_type_98 rfl ?_
      refine v_bipush (v := 8) hC dX6_type_99 (by decide) ?_
      refine v_iload hC 2 dX6_type_101 rfl ?_
      refine v_imul hC dX6_type_103 ?_
      refine v_lshr hC dX6_type_104 ?_
      refine v_ldc2 hC dX6_type_105 w_889 ?_
      refine v_land hC dX6_type_108 ?_
      refine v_l2i hC dX6_type_109 ?_
      refine v_at 110 rfl ?_
      refine v_ltI hf (fun x9 hf => ?_)
      refine v_istore hC [(6, .int x9), (0, .ref a0), (1, .long j1), (5, .int i5)] dX6_type_110 hN (Nat.le_of_ble_eq_true rfl) rfl ?_
      refine v_iload hC 0 dX6_type_112 rfl ?_
      refine v_jnE hf (fun z10 kr sr => V K (kr + ko) (sr + so) z10 141 [(0, .ref a0), (1, .long j1), (5, .int i5)] []) (fun z10 _ _ hf => ?_) (fun k10 hk10 hf => ?_)
      · refine v_incL hC hf 2 (fun x11 => [(5, .int x11), (0, .ref a0), (1, .long j1)]) dX6_type_141 rfl (by decide) hN (Nat.le_of_ble_eq_true rfl) (fun _ => rfl) (fun x11 hf => ?_)
        refine v_goto (tgt := 93) hC dX6_type_144 (by decide) ?_
        exact v_sub [(0, .ref a0), (1, .long j1), (5, .int x11)] [1, 2, 0] rfl (ih _ _ _ _ _ _ _ _ hf hE)
      · refine v_if_ne hC hf dX6_type_114 (tgt := 120) (by decide) (fun hf => ?_) (fun hf => ?_)
        · refine v_aload_n hC 1 dX6_type_120 rfl ?_
          refine v_getR hC (host := "") hf fd_6_8 w_666 dX6_type_121 (fun r12 hf => ?_)
          refine v_aload_n hC 1 dX6_type_124 rfl ?_
          refine v_getI hC (host := "") hf fd_6_7 w_665 dX6_type_125 (fun x13 hf => ?_)
          refine v_iload hC 0 dX6_type_128 rfl ?_
          refine v_stI hC hf dX6_type_130 (fun σ14 hf => ?_)
          refine v_aload_n hC 1 dX6_type_131 rfl ?_
          refine v_dup hC dX6_type_132 rfl ?_
          refine v_at 133 rfl ?_
          refine v_getI hC (host := "") hf fd_6_7 w_665 dX6_type_133 (fun x15 hf => ?_)
          refine v_iconst (v := 1) hC dX6_type_136 (by decide) ?_
          refine v_iadd hC dX6_type_137 ?_
          refine v_put hC hf fd_6_7 w_665 rfl rfl dX6_type_138 (fun σ16 hf => ?_)
          refine v_at 141 rfl ?_
          exact v_sub [(0, .ref a0), (1, .long j1), (5, .int i5)] [1, 2, 3] rfl (hk10 _ _ _ hf)
        · refine v_at 117 rfl ?_
          refine v_goto (tgt := 141) hC dX6_type_117 (by decide) ?_
          exact v_sub [(0, .ref a0), (1, .long j1), (5, .int i5)] [1, 2, 3] rfl (hk10 _ _ _ hf)
set_option maxHeartbeats 4000000 in
set_option maxRecDepth 100000 in
theorem m_X6_type {G : Gm} {l : Launch} {σ : St} {a0 : Nat} {j1 : Int64} {r : Int32} {σf : St} {k s : Nat} (hf : f_X6_type σ a0 j1 = some (r, σf, k, s)) : (∃ fs : List Value, σ.1 a0 = some (.inr (.inl (6, fs)))) ∧ Ct G l y_X6_type prog_8_method_49_code 8 (some .boolean) 0 0 [.ref a0, .long j1] σ (some (.int r)) σf k s := by
  unfold f_X6_type at hf
  obtain ⟨hob, hf⟩ := ob_some hf
  refine ⟨hob, Ct.ofV pl_X6_type (Nat.le_of_ble_eq_true rfl) ?_⟩
  intro K hR hN hnm hC hE
  show V K (k + 0) (s + 0) σ 0 [(0, .ref a0), (1, .long j1)] []
  refine v_iconst (v := 0) hC dX6_type_0 (by decide) ?_
  refine v_istore_n hC [(3, .int 0), (0, .ref a0), (1, .long j1)] dX6_type_1 rfl hN (Nat.le_of_ble_eq_true rfl) rfl ?_
  refine v_iconst (v := 1) hC dX6_type_2 (by decide) ?_
  refine v_istore hC [(4, .int 1), (3, .int 0), (0, .ref a0), (1, .long j1)] dX6_type_3 hN (Nat.le_of_ble_eq_true rfl) rfl ?_
  refine v_iconst (v := 0) hC dX6_type_5 (by decide) ?_
  refine v_istore hC [(5, .int 0), (4, .int 1), (3, .int 0), (0, .ref a0), (1, .long j1)] dX6_type_6 hN (Nat.le_of_ble_eq_true rfl) rfl ?_
  refine v_at 8 rfl ?_
  refine v_sub [(0, .ref a0), (1, .long j1), (3, .int 0), (4, .int 1), (5, .int 0)] [3, 4, 2, 1, 0] rfl ?_
  refine v_lpP hf (E_X6_type_L8 K _ _ σ a0 j1) (fun _ h hE => v_X6_type_L8 hC hR hN _ _ _ _ _ _ _ _ h hE) (fun y7 hf => ?_)
  show V K _ _ σ 70 [(0, .ref a0), (1, .long j1), (3, .int y7.1), (4, .int y7.2)] []
  refine v_iload hC 3 dX6_type_70 rfl ?_
  refine v_if_eq hC hf dX6_type_72 (tgt := 87) (by decide) (fun hf => ?_) (fun hf => ?_)
  · refine v_iconst (v := 0) hC dX6_type_87 (by decide) ?_
    exact v_retZ hC hf hE dX6_type_88
  · refine v_at 75 rfl ?_
    refine v_aload_n hC 0 dX6_type_75 rfl ?_
    refine v_getI hC (host := "") hf fd_6_7 w_665 dX6_type_76 (fun x8 hf => ?_)
    refine v_iload_n hC 2 dX6_type_79 rfl ?_
    refine v_iadd hC dX6_type_80 ?_
    refine v_sipush (v := 6000) hC dX6_type_81 (by decide) ?_
    refine v_icmp_le hC hf dX6_type_84 (tgt := 89) (by decide) (fun hf => ?_) (fun hf => ?_)
    · refine v_bipush (v := 7) hC dX6_type_89 (by decide) ?_
      refine v_istore hC [(5, .int 7), (0, .ref a0), (1, .long j1), (3, .int y7.1), (4, .int y7.2)] dX6_type_91 hN (Nat.le_of_ble_eq_true rfl) rfl ?_
      refine v_at 93 rfl ?_
      refine v_sub [(0, .ref a0), (1, .long j1), (5, .int 7)] [1, 2, 0] rfl ?_
      refine v_lpE hf (E_X6_type_L93 K ) (fun _ _ _ _ _ _ h hE => v_X6_type_L93 hC hR hN _ _ _ _ _ _ _ _ _ h hE) (fun y17 σ18 _ _ hf => ?_)
      show V K _ _ σ18 147 [] []
      refine v_iconst (v := 1) hC dX6_type_147 (by decide) ?_
      exact v_retZ hC hf hE dX6_type_148
    · refine v_at 87 rfl ?_
      refine v_iconst (v := 0) hC dX6_type_87 (by decide) ?_
      exact v_retZ hC hf hE dX6_type_88
set_option maxHeartbeats 4000000 in
set_option maxRecDepth 100000 in
theorem m_X6_isDigit {G : Gm} {l : Launch} {σ : St} {i0 : Int32} {r : Int32} (hf : f_X6_isDigit σ i0 = some r) : Ct G l y_X6_isDigit prog_8_method_50_code 1 (some .boolean) 0 0 [.int i0] σ (some (.int r)) σ 0 0 := by
  unfold f_X6_isDigit at hf
  refine Ct.ofV pl_X6_isDigit (Nat.le_of_ble_eq_true rfl) ?_
  intro K hR hN hnm hC hE
  show V K 0 0 σ 0 [(0, .int i0)] []
  refine v_iload_n hC 0 dX6_isDigit_0 rfl ?_
  refine v_bipush (v := 48) hC dX6_isDigit_1 (by decide) ?_
  refine v_icmp_lt hC hf dX6_isDigit_3 (tgt := 16) (by decide) (fun hf => ?_) (fun hf => ?_)
  · refine v_iconst (v := 0) hC dX6_isDigit_16 (by decide) ?_
    exact v_retZP hC hf hE dX6_isDigit_17
  · refine v_at 6 rfl ?_
    refine v_iload_n hC 0 dX6_isDigit_6 rfl ?_
    refine v_bipush (v := 57) hC dX6_isDigit_7 (by decide) ?_
    refine v_icmp_gt hC hf dX6_isDigit_9 (tgt := 16) (by decide) (fun hf => ?_) (fun hf => ?_)
    · refine v_iconst (v := 0) hC dX6_isDigit_16 (by decide) ?_
      exact v_retZP hC hf hE dX6_isDigit_17
    · refine v_at 12 rfl ?_
      refine v_iconst (v := 1) hC dX6_isDigit_12 (by decide) ?_
      refine v_goto (tgt := 17) hC dX6_isDigit_13 (by decide) ?_
      exact v_retZP hC hf hE dX6_isDigit_17
def E_X6_read_L63 (K : Cq) (kr sr : Nat) (σ : St) (a0 : Nat) (i1 : Int32) (i2 : Int32) (i4 : Int32) (i5 : Int32) (y : Int32 × Int32) : Prop := V K kr sr σ 121 [(0, .ref a0), (1, .int i1), (2, .int i2), (3, .int y.1), (4, .int i4), (5, .int i5), (6, .int y.2)] []
set_option maxHeartbeats 4000000 in
set_option maxRecDepth 100000 in
theorem v_X6_read_L63 {K : Cq} {k0 s0 : Nat} (hC : Cx K prog_8_method_51_code "TensMillModel") (hR : kR K = rmF 1 26 k0 s0) (hN : kn K = 14) {kr sr : Nat} : ∀ (n : Nat) (σ : St) (a0 : Nat) (i1 : Int32) (i2 : Int32) (i3 : Int32) (i4 : Int32) (i5 : Int32) (i6 : Int32) (y : Int32 × Int32), f_X6_read_L63 n σ a0 i1 i2 i3 i4 i5 i6 = some y → E_X6_read_L63 K kr sr σ a0 i1 i2 i4 i5 y → V K kr sr σ 63 [(0, .ref a0), (1, .int i1), (2, .int i2), (3, .int i3), (4, .int i4), (5, .int i5), (6, .int i6)] [] := by
  intro n
  induction n with
  | zero =>
    intro σ a0 i1 i2 i3 i4 i5 i6 y hf hE
    cases hf
  | succ n ih =>
    intro σ a0 i1 i2 i3 i4 i5 i6 y hf hE
    replace hf : b_X6_read_L63 (f_X6_read_L63 n) σ a0 i1 i2 i3 i4 i5 i6 = some y := hf
    unfold b_X6_read_L63 at hf
    refine v_iload_n hC 3 dX6_read_63 rfl ?_
    refine v_iload_n hC 2 dX6_read_64 rfl ?_
    refine v_icmp_ge hC hf dX6_read_65 (tgt := 121) (by decide) (fun hf => ?_) (fun hf => ?_)
    · exact v_sub [(0, .ref a0), (1, .int i1), (2, .int i2), (3, .int i3), (4, .int i4), (5, .int i5), (6, .int i6)] [0, 1, 2, 3, 4, 5, 6] rfl (v_exP (E := E_X6_read_L63 K _ _ _ a0 i1 i2 i4 i5) hf hE)
    · refine v_at 68 rfl ?_
      refine v_aload_n hC 0 dX6_read_68 rfl ?_
      refine v_getR hC (host := "") hf fd_6_8 w_666 dX6_read_69 (fun r5 hf => ?_)
      refine v_iload_n hC 3 dX6_read_72 rfl ?_
      refine v_ldI hC hf dX6_read_73 (fun x6 hf => ?_)
      refine v_cSP hC (y := y_X6_isDigit) [.int x6] [] (fun r => some (.int r)) (fun r => .int r :: []) hf (fun _ h => m_X6_isDigit h) rfl (fun _ => rfl) hR (Nat.le_of_ble_eq_true rfl) (Nat.le_of_ble_eq_true rfl) w_897 w_895 w_896 w_64 nm_X6_isDigit rfl (Nat.le_of_ble_eq_true rfl) dX6_read_74 (fun x7 hf => ?_)
      refine v_jnP hf (fun z8 => V K kr sr σ 96 [(0, .ref a0), (1, .int i1), (2, .int i2), (3, .int i3), (4, .int i4), (5, .int i5), (6, .int i6)] []) (fun z8 hf => ?_) (fun k8 hk8 hf => ?_)
      · refine v_aload_n hC 0 dX6_read_96 rfl ?_
        refine v_getR hC (host := "") hf fd_6_8 w_666 dX6_read_97 (fun r9 hf => ?_)
        refine v_iload_n hC 3 dX6_read_100 rfl ?_
        refine v_ldI hC hf dX6_read_101 (fun x10 hf => ?_)
        refine v_bipush (v := 46) hC dX6_read_102 (by decide) ?_
        refine v_jnP hf (fun z11 => V K kr sr σ 113 [(0, .ref a0), (1, .int i1), (2, .int i2), (3, .int i3), (4, .int i4), (5, .int i5)] [.int z11]) (fun z11 hf => ?_) (fun k11 hk11 hf => ?_)
        · refine v_istore hC [(6, .int z11), (0, .ref a0), (1, .int i1), (2, .int i2), (3, .int i3), (4, .int i4), (5, .int i5)] dX6_read_113 hN (Nat.le_of_ble_eq_true rfl) rfl ?_
          refine v_incL hC hf 4 (fun x12 => [(3, .int x12), (6, .int z11), (0, .ref a0), (1, .int i1), (2, .int i2), (4, .int i4), (5, .int i5)]) dX6_read_115 rfl (by decide) hN (Nat.le_of_ble_eq_true rfl) (fun _ => rfl) (fun x12 hf => ?_)
          refine v_goto (tgt := 63) hC dX6_read_118 (by decide) ?_
          exact v_sub [(0, .ref a0), (1, .int i1), (2, .int i2), (3, .int x12), (4, .int i4), (5, .int i5), (6, .int z11)] [2, 3, 4, 0, 5, 6, 1] rfl (ih _ _ _ _ _ _ _ _ _ hf hE)
        · refine v_icmp_ne hC hf dX6_read_104 (tgt := 111) (by decide) (fun hf => ?_) (fun hf => ?_)
          · refine v_iload hC 6 dX6_read_111 rfl ?_
            refine v_at 113 rfl ?_
            exact v_sub [(0, .ref a0), (1, .int i1), (2, .int i2), (3, .int i3), (4, .int i4), (5, .int i5)] [0, 1, 2, 3, 4, 5] rfl (hk11 _ hf)
          · refine v_at 107 rfl ?_
            refine v_iload_n hC 3 dX6_read_107 rfl ?_
            refine v_goto (tgt := 113) hC dX6_read_108 (by decide) ?_
            exact v_sub [(0, .ref a0), (1, .int i1), (2, .int i2), (3, .int i3), (4, .int i4), (5, .int i5)] [0, 1, 2, 3, 4, 5] rfl (hk11 _ hf)
      · refine v_if_ne hC hf dX6_read_77 (tgt := 96) (by decide) (fun hf => ?_) (fun hf => ?_)
        · exact v_sub [(0, .ref a0), (1, .int i1), (2, .int i2), (3, .int i3), (4, .int i4), (5, .int i5), (6, .int i6)] [0, 1, 2, 3, 4, 5, 6] rfl (hk8 _ hf)
        · refine v_at 80 rfl ?_
          refine v_aload_n hC 0 dX6_read_80 rfl ?_
          refine v_getR hC (host := "") hf fd_6_8 w_666 dX6_read_81 (fun r13 hf => ?_)
          refine v_iload_n hC 3 dX6_read_84 rfl ?_
          refine v_ldI hC hf dX6_read_85 (fun x14 hf => ?_)
          refine v_bipush (v := 46) hC dX6_read_86 (by decide) ?_
          refine v_icmp_ne hC hf dX6_read_88 (tgt := 121) (by decide) (fun hf => ?_) (fun hf => ?_)
          · exact v_sub [(0, .ref a0), (1, .int i1), (2, .int i2), (3, .int i3), (4, .int i4), (5, .int i5), (6, .int i6)] [0, 1, 2, 3, 4, 5, 6] rfl (v_exP (E := E_X6_read_L63 K _ _ _ a0 i1 i2 i4 i5) hf hE)
          · refine v_at 91 rfl ?_
            refine v_iload hC 6 dX6_read_91 rfl ?_
            refine v_if_ge hC hf dX6_read_93 (tgt := 121) (by decide) (fun hf => ?_) (fun hf => ?_)
            · exact v_sub [(0, .ref a0), (1, .int i1), (2, .int i2), (3, .int i3), (4, .int i4), (5, .int i5), (6, .int i6)] [0, 1, 2, 3, 4, 5, 6] rfl (v_exP (E := E_X6_read_L63 K _ _ _ a0 i1 i2 i4 i5) hf hE)
            · refine v_at 96 rfl ?_
              exact v_sub [(0, .ref a0), (1, .int i1), (2, .int i2), (3, .int i3), (4, .int i4), (5, .int i5), (6, .int i6)] [0, 1, 2, 3, 4, 5, 6] rfl (hk8 _ hf)
def E_X6_read_L355 (K : Cq) (a0 : Nat) (i1 : Int32) (i4 : Int32) (j9 : Int64) (y : Int32) (σ : St) (kr sr : Nat) : Prop := V K kr sr σ 398 [(0, .ref a0), (1, .int i1), (4, .int i4), (9, .long j9), (11, .int y)] []
set_option maxHeartbeats 4000000 in
set_option maxRecDepth 100000 in
theorem v_X6_read_L355 {K : Cq} {k0 s0 : Nat} (hC : Cx K prog_8_method_51_code "TensMillModel") (hR : kR K = rmF 1 26 k0 s0) (hN : kn K = 14) {ko so : Nat} : ∀ (n : Nat) (σ : St) (a0 : Nat) (i1 : Int32) (i4 : Int32) (i5 : Int32) (i6 : Int32) (j9 : Int64) (i11 : Int32) (i12 : Int32) (y : Int32) (σf : St) (kr sr : Nat), f_X6_read_L355 n σ a0 i1 i4 i5 i6 j9 i11 i12 = some (y, σf, kr, sr) → E_X6_read_L355 K a0 i1 i4 j9 y σf ko so → V K (kr + ko) (sr + so) σ 355 [(0, .ref a0), (1, .int i1), (4, .int i4), (5, .int i5), (6, .int i6), (9, .long j9), (11, .int i11), (12, .int i12)] [] := by
  intro n
  induction n with
  | zero =>
    intro σ a0 i1 i4 i5 i6 j9 i11 i12 y σf kr sr hf hE
    cases hf
  | succ n ih =>
    intro σ a0 i1 i4 i5 i6 j9 i11 i12 y σf kr sr hf hE
    replace hf : b_X6_read_L355 (f_X6_read_L355 n) σ a0 i1 i4 i5 i6 j9 i11 i12 = some (y, σf, kr, sr) := hf
    unfold b_X6_read_L355 at hf
    refine v_iload hC 7 dX6_read_355 rfl ?_
    refine v_iload hC 3 dX6_read_357 rfl ?_
    refine v_icmp_lt hC hf dX6_read_359 (tgt := 398) (by decide) (fun hf => ?_) (fun hf => ?_)
    · obtain ⟨hX, e1, e2⟩ := v_exE (E := E_X6_read_L355 K a0 i1 i4 j9) hf hE
      rw [e1, e2]
      exact v_sub [(0, .ref a0), (1, .int i1), (4, .int i4), (9, .long j9), (11, .int i11)] [0, 1, 2, 5, 6] rfl hX
    · refine v_at 362 rfl ?_
      refine v_iload hC 7 dX6_read_362 rfl ?_
      refine v_iload hC 4 dX6_read_364 rfl ?_
      refine v_jnE hf (fun z22 kr sr => V K (kr + ko) (sr + so) z22.2 392 [(0, .ref a0), (1, .int i1), (4, .int i4), (5, .int i5), (6, .int i6), (9, .long j9), (11, .int z22.1), (12, .int i12)] []) (fun z22 _ _ hf => ?_) (fun k22 hk22 hf => ?_)
      · refine v_incL hC hf 7 (fun x23 => [(12, .int x23), (0, .ref a0), (1, .int i1), (4, .int i4), (5, .int i5), (6, .int i6), (9, .long j9), (11, .int z22.1)]) dX6_read_392 rfl (by decide) hN (Nat.le_of_ble_eq_true rfl) (fun _ => rfl) (fun x23 hf => ?_)
        refine v_goto (tgt := 355) hC dX6_read_395 (by decide) ?_
        exact v_sub [(0, .ref a0), (1, .int i1), (4, .int i4), (5, .int i5), (6, .int i6), (9, .long j9), (11, .int z22.1), (12, .int x23)] [1, 2, 3, 4, 5, 6, 7, 0] rfl (ih _ _ _ _ _ _ _ _ _ _ _ _ _ hf hE)
      · refine v_icmp_ne hC hf dX6_read_366 (tgt := 372) (by decide) (fun hf => ?_) (fun hf => ?_)
        · refine v_aload_n hC 0 dX6_read_372 rfl ?_
          refine v_getR hC (host := "") hf fd_6_4 w_662 dX6_read_373 (fun r24 hf => ?_)
          refine v_iload hC 6 dX6_read_376 rfl ?_
          refine v_aload_n hC 0 dX6_read_378 rfl ?_
          refine v_getR hC (host := "") hf fd_6_8 w_666 dX6_read_379 (fun r25 hf => ?_)
          refine v_iload hC 7 dX6_read_382 rfl ?_
          refine v_ldI hC hf dX6_read_384 (fun x26 hf => ?_)
          refine v_bipush (v := 48) hC dX6_read_385 (by decide) ?_
          refine v_at 387 rfl ?_
          refine v_isub hC dX6_read_387 ?_
          refine v_stI hC hf dX6_read_388 (fun σ27 hf => ?_)
          refine v_incL hC hf 6 (fun x28 => [(11, .int x28), (0, .ref a0), (1, .int i1), (4, .int i4), (5, .int i5), (6, .int i6), (9, .long j9), (12, .int i12)]) dX6_read_389 rfl (by decide) hN (Nat.le_of_ble_eq_true rfl) (fun _ => rfl) (fun x28 hf => ?_)
          refine v_at 392 rfl ?_
          exact v_sub [(0, .ref a0), (1, .int i1), (4, .int i4), (5, .int i5), (6, .int i6), (9, .long j9), (11, .int x28), (12, .int i12)] [1, 2, 3, 4, 5, 6, 0, 7] rfl (hk22 _ _ _ hf)
        · refine v_at 369 rfl ?_
          refine v_goto (tgt := 392) hC dX6_read_369 (by decide) ?_
          exact v_sub [(0, .ref a0), (1, .int i1), (4, .int i4), (5, .int i5), (6, .int i6), (9, .long j9), (11, .int i11), (12, .int i12)] [0, 1, 2, 3, 4, 5, 6, 7] rfl (hk22 _ _ _ hf)
def E_X6_read_L255 (K : Cq) (kr sr : Nat) (σ : St) (a0 : Nat) (i1 : Int32) (i2 : Int32) (i4 : Int32) (i5 : Int32) (i6 : Int32) (i7 : Int32) (j9 : Int64) (i11 : Int32) (y : Int32 × Int64) : Prop := V K kr sr σ 312 [(0, .ref a0), (1, .int i1), (2, .int i2), (3, .int y.1), (4, .int i4), (5, .int i5), (6, .int i6), (7, .int i7), (9, .long j9), (11, .int i11), (12, .long y.2)] []
set_option maxHeartbeats 4000000 in
set_option maxRecDepth 100000 in
theorem v_X6_read_L255 {K : Cq} {k0 s0 : Nat} (hC : Cx K prog_8_method_51_code "TensMillModel") (hR : kR K = rmF 1 26 k0 s0) (hN : kn K = 14) {kr sr : Nat} : ∀ (n : Nat) (σ : St) (a0 : Nat) (i1 : Int32) (i2 : Int32) (i3 : Int32) (i4 : Int32) (i5 : Int32) (i6 : Int32) (i7 : Int32) (j9 : Int64) (i11 : Int32) (j12 : Int64) (y : Int32 × Int64), f_X6_read_L255 n σ a0 i1 i2 i3 i4 i5 i6 i7 j9 i11 j12 = some y → E_X6_read_L255 K kr sr σ a0 i1 i2 i4 i5 i6 i7 j9 i11 y → V K kr sr σ 255 [(0, .ref a0), (1, .int i1), (2, .int i2), (3, .int i3), (4, .int i4), (5, .int i5), (6, .int i6), (7, .int i7), (9, .long j9), (11, .int i11), (12, .long j12)] [] := by
  intro n
  induction n with
  | zero =>
    intro σ a0 i1 i2 i3 i4 i5 i6 i7 j9 i11 j12 y hf hE
    cases hf
  | succ n ih =>
    intro σ a0 i1 i2 i3 i4 i5 i6 i7 j9 i11 j12 y hf hE
    replace hf : b_X6_read_L255 (f_X6_read_L255 n) σ a0 i1 i2 i3 i4 i5 i6 i7 j9 i11 j12 = some y := hf
    unfold b_X6_read_L255 at hf
    refine v_iload_n hC 3 dX6_read_255 rfl ?_
    refine v_iload_n hC 2 dX6_read_256 rfl ?_
    refine v_icmp_ge hC hf dX6_read_257 (tgt := 312) (by decide) (fun hf => ?_) (fun hf => ?_)
    · exact v_sub [(0, .ref a0), (1, .int i1), (2, .int i2), (3, .int i3), (4, .int i4), (5, .int i5), (6, .int i6), (7, .int i7), (9, .long j9), (11, .int i11), (12, .long j12)] [0, 1, 2, 3, 4, 5, 6, 7, 8, 9, 10] rfl (v_exP (E := E_X6_read_L255 K _ _ _ a0 i1 i2 i4 i5 i6 i7 j9 i11) hf hE)
    · refine v_at 260 rfl ?_
      refine v_aload_n hC 0 dX6_read_260 rfl ?_
      refine v_getR hC (host := "") hf fd_6_8 w_666 dX6_read_261 (fun r41 hf => ?_)
      refine v_iload_n hC 3 dX6_read_264 rfl ?_
      refine v_ldI hC hf dX6_read_265 (fun x42 hf => ?_)
      refine v_cSP hC (y := y_X6_isDigit) [.int x42] [] (fun r => some (.int r)) (fun r => .int r :: []) hf (fun _ h => m_X6_isDigit h) rfl (fun _ => rfl) hR (Nat.le_of_ble_eq_true rfl) (Nat.le_of_ble_eq_true rfl) w_897 w_895 w_896 w_64 nm_X6_isDigit rfl (Nat.le_of_ble_eq_true rfl) dX6_read_266 (fun x43 hf => ?_)
      refine v_if_eq hC hf dX6_read_269 (tgt := 312) (by decide) (fun hf => ?_) (fun hf => ?_)
      · exact v_sub [(0, .ref a0), (1, .int i1), (2, .int i2), (3, .int i3), (4, .int i4), (5, .int i5), (6, .int i6), (7, .int i7), (9, .long j9), (11, .int i11), (12, .long j12)] [0, 1, 2, 3, 4, 5, 6, 7, 8, 9, 10] rfl (v_exP (E := E_X6_read_L255 K _ _ _ a0 i1 i2 i4 i5 i6 i7 j9 i11) hf hE)
      · refine v_at 272 rfl ?_
        refine v_lload hC 10 dX6_read_272 rfl ?_
        refine v_ldc2 hC dX6_read_274 w_898 ?_
        refine v_jnP hf (fun z44 => V K kr sr σ 304 [(0, .ref a0), (1, .int i1), (2, .int i2), (3, .int i3), (4, .int i4), (5, .int i5), (6, .int i6), (7, .int i7), (9, .long j9), (11, .int i11)] [.long z44]) (fun z44 hf => ?_) (fun k44 hk44 hf => ?_)
        · refine v_lstore hC [(12, .long z44), (0, .ref a0), (1, .int i1), (2, .int i2), (3, .int i3), (4, .int i4), (5, .int i5), (6, .int i6), (7, .int i7), (9, .long j9), (11, .int i11)] dX6_read_304 hN (Nat.le_of_ble_eq_true rfl) rfl ?_
          refine v_incL hC hf 4 (fun x45 => [(3, .int x45), (12, .long z44), (0, .ref a0), (1, .int i1), (2, .int i2), (4, .int i4), (5, .int i5), (6, .int i6), (7, .int i7), (9, .long j9), (11, .int i11)]) dX6_read_306 rfl (by decide) hN (Nat.le_of_ble_eq_true rfl) (fun _ => rfl) (fun x45 hf => ?_)
          refine v_goto (tgt := 255) hC dX6_read_309 (by decide) ?_
          exact v_sub [(0, .ref a0), (1, .int i1), (2, .int i2), (3, .int x45), (4, .int i4), (5, .int i5), (6, .int i6), (7, .int i7), (9, .long j9), (11, .int i11), (12, .long z44)] [2, 3, 4, 0, 5, 6, 7, 8, 9, 10, 1] rfl (ih _ _ _ _ _ _ _ _ _ _ _ _ _ hf hE)
        · refine v_lcmp_le hC hf dX6_read_277 dX6_read_278 (tgt := 286) (by decide) (fun hf => ?_) (fun hf => ?_)
          · refine v_ldc2 hC dX6_read_286 w_699 ?_
            refine v_lload hC 10 dX6_read_289 rfl ?_
            refine v_lmul hC dX6_read_291 ?_
            refine v_aload_n hC 0 dX6_read_292 rfl ?_
            refine v_getR hC (host := "") hf fd_6_8 w_666 dX6_read_293 (fun r46 hf => ?_)
            refine v_iload_n hC 3 dX6_read_296 rfl ?_
            refine v_ldI hC hf dX6_read_297 (fun x47 hf => ?_)
            refine v_i2l hC dX6_read_298 ?_
            refine v_at 299 rfl ?_
            refine v_ladd hC dX6_read_299 ?_
            refine v_ldc2 hC dX6_read_300 w_899 ?_
            refine v_lsub hC dX6_read_303 ?_
            refine v_at 304 rfl ?_
            exact v_sub [(0, .ref a0), (1, .int i1), (2, .int i2), (3, .int i3), (4, .int i4), (5, .int i5), (6, .int i6), (7, .int i7), (9, .long j9), (11, .int i11)] [0, 1, 2, 3, 4, 5, 6, 7, 8, 9] rfl (hk44 _ hf)
          · refine v_at 281 rfl ?_
            refine v_lload hC 10 dX6_read_281 rfl ?_
            refine v_goto (tgt := 304) hC dX6_read_283 (by decide) ?_
            exact v_sub [(0, .ref a0), (1, .int i1), (2, .int i2), (3, .int i3), (4, .int i4), (5, .int i5), (6, .int i6), (7, .int i7), (9, .long j9), (11, .int i11)] [0, 1, 2, 3, 4, 5, 6, 7, 8, 9] rfl (hk44 _ hf)
set_option maxHeartbeats 4000000 in
set_option maxRecDepth 100000 in
theorem m_X6_read {G : Gm} {l : Launch} {σ : St} {a0 : Nat} {i1 : Int32} {r : Int32} {σf : St} {k s : Nat} (hf : f_X6_read σ a0 i1 = some (r, σf, k, s)) : (∃ fs : List Value, σ.1 a0 = some (.inr (.inl (6, fs)))) ∧ Ct G l y_X6_read prog_8_method_51_code 14 (some .boolean) 1 26 [.ref a0, .int i1] σ (some (.int r)) σf k s := by
  unfold f_X6_read at hf
  obtain ⟨hob, hf⟩ := ob_some hf
  refine ⟨hob, Ct.ofV pl_X6_read (Nat.le_of_ble_eq_true rfl) ?_⟩
  intro K hR hN hnm hC hE
  show V K (k + 0) (s + 0) σ 0 [(0, .ref a0), (1, .int i1)] []
  refine v_aload_n hC 0 dX6_read_0 rfl ?_
  refine v_getI hC (host := "") hf fd_6_7 w_665 dX6_read_1 (fun x1 hf => ?_)
  refine v_istore_n hC [(2, .int x1), (0, .ref a0), (1, .int i1)] dX6_read_4 rfl hN (Nat.le_of_ble_eq_true rfl) rfl ?_
  refine v_aload_n hC 1 dX6_read_5 rfl ?_
  refine v_iconst (v := 0) hC dX6_read_6 (by decide) ?_
  refine v_put hC hf fd_6_7 w_665 rfl rfl dX6_read_7 (fun σ2 hf => ?_)
  refine v_iconst (v := 0) hC dX6_read_10 (by decide) ?_
  refine v_istore_n hC [(3, .int 0), (2, .int x1), (0, .ref a0), (1, .int i1)] dX6_read_11 rfl hN (Nat.le_of_ble_eq_true rfl) rfl ?_
  refine v_at 12 rfl ?_
  refine v_iload_n hC 1 dX6_read_12 rfl ?_
  refine v_jnE hf (fun z3 kr sr => V K (kr + 0) (sr + 0) σ2 32 [(0, .ref a0), (1, .int i1), (2, .int x1), (3, .int 0)] [.int z3]) (fun z3 _ _ hf => ?_) (fun k3 hk3 hf => ?_)
  · refine v_istore hC [(4, .int z3), (0, .ref a0), (1, .int i1), (2, .int x1), (3, .int 0)] dX6_read_32 hN (Nat.le_of_ble_eq_true rfl) rfl ?_
    refine v_iload hC 0 dX6_read_34 rfl ?_
    refine v_jnE hf (fun z4 kr sr => V K (kr + 0) (sr + 0) σ2 57 [(0, .ref a0), (1, .int i1), (2, .int x1), (3, .int z4), (4, .int z3)] []) (fun z4 _ _ hf => ?_) (fun k4 hk4 hf => ?_)
    · refine v_iload_n hC 3 dX6_read_57 rfl ?_
      refine v_istore hC [(5, .int z4), (0, .ref a0), (1, .int i1), (2, .int x1), (3, .int z4), (4, .int z3)] dX6_read_58 hN (Nat.le_of_ble_eq_true rfl) rfl ?_
      refine v_iconst (v := (-1)) hC dX6_read_60 (by decide) ?_
      refine v_istore hC [(6, .int (-1)), (5, .int z4), (0, .ref a0), (1, .int i1), (2, .int x1), (3, .int z4), (4, .int z3)] dX6_read_61 hN (Nat.le_of_ble_eq_true rfl) rfl ?_
      refine v_at 63 rfl ?_
      refine v_sub [(0, .ref a0), (1, .int i1), (2, .int x1), (3, .int z4), (4, .int z3), (5, .int z4), (6, .int (-1))] [2, 3, 4, 5, 6, 1, 0] rfl ?_
      refine v_lpP hf (E_X6_read_L63 K _ _ σ2 a0 i1 x1 z3 z4) (fun _ h hE => v_X6_read_L63 hC hR hN _ _ _ _ _ _ _ _ _ _ h hE) (fun y15 hf => ?_)
      show V K _ _ σ2 121 [(0, .ref a0), (1, .int i1), (2, .int x1), (3, .int y15.1), (4, .int z3), (5, .int z4), (6, .int y15.2)] []
      refine v_iload_n hC 3 dX6_read_121 rfl ?_
      refine v_istore hC [(7, .int y15.1), (0, .ref a0), (1, .int i1), (2, .int x1), (3, .int y15.1), (4, .int z3), (5, .int z4), (6, .int y15.2)] dX6_read_122 hN (Nat.le_of_ble_eq_true rfl) rfl ?_
      refine v_iload hC 0 dX6_read_124 rfl ?_
      refine v_iload hC 6 dX6_read_126 rfl ?_
      refine v_isub hC dX6_read_128 ?_
      refine v_iload hC 7 dX6_read_129 rfl ?_
      refine v_jnE hf (fun z16 kr sr => V K (kr + 0) (sr + 0) σ2 139 [(0, .ref a0), (1, .int i1), (2, .int x1), (3, .int y15.1), (4, .int z3), (5, .int z4), (6, .int y15.2), (7, .int y15.1)] [.int z16, .int (y15.1 - z4)]) (fun z16 _ _ hf => ?_) (fun k16 hk16 hf => ?_)
      · refine v_isub hC dX6_read_139 ?_
        refine v_ltI hf (fun x17 hf => ?_)
        refine v_istore hC [(8, .int x17), (0, .ref a0), (1, .int i1), (2, .int x1), (3, .int y15.1), (4, .int z3), (5, .int z4), (6, .int y15.2), (7, .int y15.1)] dX6_read_140 hN (Nat.le_of_ble_eq_true rfl) rfl ?_
        refine v_iload hC 7 dX6_read_142 rfl ?_
        refine v_jnE hf (fun z18 kr sr => V K (kr + 0) (sr + 0) σ2 159 [(0, .ref a0), (1, .int i1), (2, .int x1), (3, .int y15.1), (4, .int z3), (5, .int z4), (6, .int y15.2), (7, .int y15.1), (8, .int x17)] [.long z18]) (fun z18 _ _ hf => ?_) (fun k18 hk18 hf => ?_)
        · refine v_lstore hC [(9, .long z18), (0, .ref a0), (1, .int i1), (2, .int x1), (3, .int y15.1), (4, .int z3), (5, .int z4), (6, .int y15.2), (7, .int y15.1), (8, .int x17)] dX6_read_159 hN (Nat.le_of_ble_eq_true rfl) rfl ?_
          refine v_iload hC 9 dX6_read_161 rfl ?_
          refine v_if_ne hC hf dX6_read_163 (tgt := 168) (by decide) (fun hf => ?_) (fun hf => ?_)
          · refine v_iload_n hC 4 dX6_read_168 rfl ?_
            refine v_iload_n hC 3 dX6_read_169 rfl ?_
            refine v_jnE hf (fun z19 kr sr => V K (kr + 0) (sr + 0) σ2 332 [(0, .ref a0), (1, .int i1), (2, .int x1), (3, .int z19.1), (4, .int z3), (5, .int z4), (6, .int y15.2), (7, .int y15.1), (9, .long z19.2)] []) (fun z19 _ _ hf => ?_) (fun k19 hk19 hf => ?_)
            · refine v_iload_n hC 3 dX6_read_332 rfl ?_
              refine v_iload_n hC 2 dX6_read_333 rfl ?_
              refine v_icmp_lt hC hf dX6_read_334 (tgt := 344) (by decide) (fun hf => ?_) (fun hf => ?_)
              · refine v_iconst (v := 0) hC dX6_read_344 (by decide) ?_
                exact v_retZ hC hf hE dX6_read_345
              · refine v_at 337 rfl ?_
                refine v_iload_n hC 1 dX6_read_337 rfl ?_
                refine v_cSP hC (y := y_X6_is) [.int i1] [] (fun r => some (.int r)) (fun r => .int r :: []) hf (fun _ h => m_X6_is h) rfl (fun _ => rfl) hR (Nat.le_of_ble_eq_true rfl) (Nat.le_of_ble_eq_true rfl) w_698 w_696 w_697 w_64 nm_X6_is rfl (Nat.le_of_ble_eq_true rfl) dX6_read_338 (fun x20 hf => ?_)
                refine v_if_ne hC hf dX6_read_341 (tgt := 346) (by decide) (fun hf => ?_) (fun hf => ?_)
                · refine v_iconst (v := 0) hC dX6_read_346 (by decide) ?_
                  refine v_istore hC [(11, .int 0), (0, .ref a0), (1, .int i1), (2, .int x1), (3, .int z19.1), (4, .int z3), (5, .int z4), (6, .int y15.2), (7, .int y15.1), (9, .long z19.2)] dX6_read_347 hN (Nat.le_of_ble_eq_true rfl) rfl ?_
                  refine v_iload hC 8 dX6_read_349 rfl ?_
                  refine v_iconst (v := 1) hC dX6_read_351 (by decide) ?_
                  refine v_isub hC dX6_read_352 ?_
                  refine v_ltI hf (fun x21 hf => ?_)
                  refine v_istore hC [(12, .int x21), (11, .int 0), (0, .ref a0), (1, .int i1), (2, .int x1), (3, .int z19.1), (4, .int z3), (5, .int z4), (6, .int y15.2), (7, .int y15.1), (9, .long z19.2)] dX6_read_353 hN (Nat.le_of_ble_eq_true rfl) rfl ?_
                  refine v_at 355 rfl ?_
                  refine v_sub [(0, .ref a0), (1, .int i1), (4, .int z3), (5, .int z4), (6, .int y15.2), (9, .long z19.2), (11, .int 0), (12, .int x21)] [2, 3, 6, 7, 8, 10, 1, 0] rfl ?_
                  refine v_lpE hf (E_X6_read_L355 K a0 i1 z3 z19.2) (fun _ _ _ _ _ _ h hE => v_X6_read_L355 hC hR hN _ _ _ _ _ _ _ _ _ _ _ _ _ _ h hE) (fun y29 σ30 _ _ hf => ?_)
                  show V K _ _ σ30 398 [(0, .ref a0), (1, .int i1), (4, .int z3), (9, .long z19.2), (11, .int y29)] []
                  refine v_aload_n hC 0 dX6_read_398 rfl ?_
                  refine v_iconst (v := 0) hC dX6_read_399 (by decide) ?_
                  refine v_iload hC 4 dX6_read_400 rfl ?_
                  refine v_cVE hC (y := y_X6_trim) (ci := 6) [.int 0, .int y29] [] (fun _ => none) (fun _ => []) hf (fun _ _ _ _ h => m_X6_trim h) rfl (fun _ => rfl) rfl rfl hR (Nat.le_of_ble_eq_true rfl) (Nat.le_of_ble_eq_true rfl) w_734 w_731 w_733 w_32 w_64 nm_X6_trim rfl (Nat.le_of_ble_eq_true rfl) dX6_read_402 (fun _ σ31 _ _ hf => ?_)
                  refine v_aload_n hC 0 dX6_read_405 rfl ?_
                  refine v_iload_n hC 1 dX6_read_406 rfl ?_
                  refine v_iconst (v := 0) hC dX6_read_407 (by decide) ?_
                  refine v_iload hC 2 dX6_read_408 rfl ?_
                  refine v_at 410 rfl ?_
                  refine v_jnE hf (fun z32 kr sr => V K (kr + 0) (sr + 0) σ31 418 [(9, .long z19.2)] [.int z32, .int 0, .int i1, .ref a0]) (fun z32 _ _ hf => ?_) (fun k32 hk32 hf => ?_)
                  · refine v_lload hC 0 dX6_read_418 rfl ?_
                    refine v_cVE hC (y := y_X6_store) (ci := 6) [.int i1, .int 0, .int z32, .long z19.2] [] (fun r => some (.int r)) (fun r => .int r :: []) hf (fun _ _ _ _ h => m_X6_store h) rfl (fun _ => rfl) rfl rfl hR (Nat.le_of_ble_eq_true rfl) (Nat.le_of_ble_eq_true rfl) w_703 w_700 w_702 w_27 w_64 nm_X6_store rfl (Nat.le_of_ble_eq_true rfl) dX6_read_420 (fun x33 σ34 _ _ hf => ?_)
                    exact v_retZ hC hf hE dX6_read_423
                  · refine v_if_eq hC hf dX6_read_410 (tgt := 417) (by decide) (fun hf => ?_) (fun hf => ?_)
                    · refine v_iconst (v := 1) hC dX6_read_417 (by decide) ?_
                      refine v_at 418 rfl ?_
                      exact v_sub [(9, .long z19.2)] [3] rfl (hk32 _ _ _ hf)
                    · refine v_at 413 rfl ?_
                      refine v_iconst (v := (-1)) hC dX6_read_413 (by decide) ?_
                      refine v_goto (tgt := 418) hC dX6_read_414 (by decide) ?_
                      exact v_sub [(9, .long z19.2)] [3] rfl (hk32 _ _ _ hf)
                · refine v_at 344 rfl ?_
                  refine v_iconst (v := 0) hC dX6_read_344 (by decide) ?_
                  exact v_retZ hC hf hE dX6_read_345
            · refine v_icmp_ge hC hf dX6_read_170 (tgt := 332) (by decide) (fun hf => ?_) (fun hf => ?_)
              · exact v_sub [(0, .ref a0), (1, .int i1), (2, .int x1), (3, .int y15.1), (4, .int z3), (5, .int z4), (6, .int y15.2), (7, .int y15.1), (9, .long z18)] [1, 2, 3, 4, 5, 6, 7, 8, 0] rfl (hk19 _ _ _ hf)
              · refine v_at 173 rfl ?_
                refine v_aload_n hC 1 dX6_read_173 rfl ?_
                refine v_getR hC (host := "") hf fd_6_8 w_666 dX6_read_174 (fun r35 hf => ?_)
                refine v_iload_n hC 4 dX6_read_177 rfl ?_
                refine v_ldI hC hf dX6_read_178 (fun x36 hf => ?_)
                refine v_bipush (v := 101) hC dX6_read_179 (by decide) ?_
                refine v_jnE hf (fun z37 kr sr => V K (kr + 0) (sr + 0) σ2 195 [(0, .ref a0), (1, .int i1), (2, .int x1), (3, .int y15.1), (4, .int z3), (5, .int z4), (6, .int y15.2), (7, .int y15.1), (9, .long z18)] []) (fun z37 _ _ hf => ?_) (fun k37 hk37 hf => ?_)
                · refine v_incL hC hf 3 (fun x38 => [(3, .int x38), (0, .ref a0), (1, .int i1), (2, .int x1), (4, .int z3), (5, .int z4), (6, .int y15.2), (7, .int y15.1), (9, .long z18)]) dX6_read_195 rfl (by decide) hN (Nat.le_of_ble_eq_true rfl) (fun _ => rfl) (fun x38 hf => ?_)
                  refine v_iload_n hC 0 dX6_read_198 rfl ?_
                  refine v_iload_n hC 3 dX6_read_199 rfl ?_
                  refine v_jnE hf (fun z39 kr sr => V K (kr + 0) (sr + 0) σ2 219 [(0, .ref a0), (1, .int i1), (2, .int x1), (3, .int x38), (4, .int z3), (5, .int z4), (6, .int y15.2), (7, .int y15.1), (9, .long z18)] [.int z39]) (fun z39 _ _ hf => ?_) (fun k39 hk39 hf => ?_)
                  · refine v_istore hC [(11, .int z39), (0, .ref a0), (1, .int i1), (2, .int x1), (3, .int x38), (4, .int z3), (5, .int z4), (6, .int y15.2), (7, .int y15.1), (9, .long z18)] dX6_read_219 hN (Nat.le_of_ble_eq_true rfl) rfl ?_
                    refine v_iload hC 0 dX6_read_221 rfl ?_
                    refine v_jnE hf (fun z40 kr sr => V K (kr + 0) (sr + 0) σ2 245 [(0, .ref a0), (1, .int i1), (2, .int x1), (3, .int z40), (4, .int z3), (5, .int z4), (6, .int y15.2), (7, .int y15.1), (9, .long z18), (11, .int z39)] []) (fun z40 _ _ hf => ?_) (fun k40 hk40 hf => ?_)
                    · refine v_iload_n hC 3 dX6_read_245 rfl ?_
                      refine v_iload_n hC 2 dX6_read_246 rfl ?_
                      refine v_icmp_ne hC hf dX6_read_247 (tgt := 252) (by decide) (fun hf => ?_) (fun hf => ?_)
                      · refine v_lconst (v := 0) hC dX6_read_252 (by decide) ?_
                        refine v_lstore hC [(12, .long 0), (0, .ref a0), (1, .int i1), (2, .int x1), (3, .int z40), (4, .int z3), (5, .int z4), (6, .int y15.2), (7, .int y15.1), (9, .long z18), (11, .int z39)] dX6_read_253 hN (Nat.le_of_ble_eq_true rfl) rfl ?_
                        refine v_at 255 rfl ?_
                        refine v_sub [(0, .ref a0), (1, .int i1), (2, .int x1), (3, .int z40), (4, .int z3), (5, .int z4), (6, .int y15.2), (7, .int y15.1), (9, .long z18), (11, .int z39), (12, .long 0)] [1, 2, 3, 4, 5, 6, 7, 8, 9, 10, 0] rfl ?_
                        refine v_lpP hf (E_X6_read_L255 K _ _ σ2 a0 i1 x1 z3 z4 y15.2 y15.1 z18 z39) (fun _ h hE => v_X6_read_L255 hC hR hN _ _ _ _ _ _ _ _ _ _ _ _ _ _ h hE) (fun y48 hf => ?_)
                        show V K _ _ σ2 312 [(0, .ref a0), (1, .int i1), (2, .int x1), (3, .int y48.1), (4, .int z3), (5, .int z4), (6, .int y15.2), (7, .int y15.1), (9, .long z18), (11, .int z39), (12, .long y48.2)] []
                        refine v_iload hC 9 dX6_read_312 rfl ?_
                        refine v_jnE hf (fun z49 kr sr => V K (kr + 0) (sr + 0) σ2 330 [(0, .ref a0), (1, .int i1), (2, .int x1), (3, .int y48.1), (4, .int z3), (5, .int z4), (6, .int y15.2), (7, .int y15.1)] [.long z49]) (fun z49 _ _ hf => ?_) (fun k49 hk49 hf => ?_)
                        · refine v_lstore hC [(9, .long z49), (0, .ref a0), (1, .int i1), (2, .int x1), (3, .int y48.1), (4, .int z3), (5, .int z4), (6, .int y15.2), (7, .int y15.1)] dX6_read_330 hN (Nat.le_of_ble_eq_true rfl) rfl ?_
                          refine v_at 332 rfl ?_
                          exact v_sub [(0, .ref a0), (1, .int i1), (2, .int x1), (3, .int y48.1), (4, .int z3), (5, .int z4), (6, .int y15.2), (7, .int y15.1), (9, .long z49)] [1, 2, 3, 4, 5, 6, 7, 8, 0] rfl (hk19 _ _ _ hf)
                        · refine v_if_eq hC hf dX6_read_314 (tgt := 325) (by decide) (fun hf => ?_) (fun hf => ?_)
                          · refine v_lload hC 8 dX6_read_325 rfl ?_
                            refine v_lload hC 10 dX6_read_327 rfl ?_
                            refine v_lsub hC dX6_read_329 ?_
                            refine v_at 330 rfl ?_
                            exact v_sub [(0, .ref a0), (1, .int i1), (2, .int x1), (3, .int y48.1), (4, .int z3), (5, .int z4), (6, .int y15.2), (7, .int y15.1)] [0, 1, 2, 3, 4, 5, 6, 7] rfl (hk49 _ _ _ hf)
                          · refine v_at 317 rfl ?_
                            refine v_lload hC 8 dX6_read_317 rfl ?_
                            refine v_lload hC 10 dX6_read_319 rfl ?_
                            refine v_ladd hC dX6_read_321 ?_
                            refine v_goto (tgt := 330) hC dX6_read_322 (by decide) ?_
                            exact v_sub [(0, .ref a0), (1, .int i1), (2, .int x1), (3, .int y48.1), (4, .int z3), (5, .int z4), (6, .int y15.2), (7, .int y15.1)] [0, 1, 2, 3, 4, 5, 6, 7] rfl (hk49 _ _ _ hf)
                      · refine v_at 250 rfl ?_
                        refine v_iconst (v := 0) hC dX6_read_250 (by decide) ?_
                        exact v_retZ hC hf hE dX6_read_251
                    · refine v_jnE hf (fun z50 kr sr => V K (kr + 0) (sr + 0) σ2 242 [(0, .ref a0), (1, .int i1), (2, .int x1), (3, .int x38), (4, .int z3), (5, .int z4), (6, .int y15.2), (7, .int y15.1), (9, .long z18), (11, .int z39)] []) (fun z50 _ _ hf => ?_) (fun k50 hk50 hf => ?_)
                      · refine v_incL hC hf 3 (fun x51 => [(3, .int x51), (0, .ref a0), (1, .int i1), (2, .int x1), (4, .int z3), (5, .int z4), (6, .int y15.2), (7, .int y15.1), (9, .long z18), (11, .int z39)]) dX6_read_242 rfl (by decide) hN (Nat.le_of_ble_eq_true rfl) (fun _ => rfl) (fun x51 hf => ?_)
                        refine v_at 245 rfl ?_
                        exact v_sub [(0, .ref a0), (1, .int i1), (2, .int x1), (3, .int x51), (4, .int z3), (5, .int z4), (6, .int y15.2), (7, .int y15.1), (9, .long z18), (11, .int z39)] [1, 2, 3, 0, 4, 5, 6, 7, 8, 9] rfl (hk40 _ _ _ hf)
                      · refine v_if_ne hC hf dX6_read_223 (tgt := 242) (by decide) (fun hf => ?_) (fun hf => ?_)
                        · exact v_sub [(0, .ref a0), (1, .int i1), (2, .int x1), (3, .int x38), (4, .int z3), (5, .int z4), (6, .int y15.2), (7, .int y15.1), (9, .long z18), (11, .int z39)] [1, 2, 3, 4, 5, 6, 7, 8, 9, 0] rfl (hk50 _ _ _ hf)
                        · refine v_at 226 rfl ?_
                          refine v_iload_n hC 4 dX6_read_226 rfl ?_
                          refine v_iload_n hC 3 dX6_read_227 rfl ?_
                          refine v_icmp_ge hC hf dX6_read_228 (tgt := 245) (by decide) (fun hf => ?_) (fun hf => ?_)
                          · exact v_sub [(0, .ref a0), (1, .int i1), (2, .int x1), (3, .int x38), (4, .int z3), (5, .int z4), (6, .int y15.2), (7, .int y15.1), (9, .long z18), (11, .int z39)] [1, 2, 3, 4, 5, 6, 7, 8, 9, 0] rfl (hk40 _ _ _ hf)
                          · refine v_at 231 rfl ?_
                            refine v_aload_n hC 1 dX6_read_231 rfl ?_
                            refine v_getR hC (host := "") hf fd_6_8 w_666 dX6_read_232 (fun r52 hf => ?_)
                            refine v_iload_n hC 4 dX6_read_235 rfl ?_
                            refine v_ldI hC hf dX6_read_236 (fun x53 hf => ?_)
                            refine v_bipush (v := 43) hC dX6_read_237 (by decide) ?_
                            refine v_icmp_ne hC hf dX6_read_239 (tgt := 245) (by decide) (fun hf => ?_) (fun hf => ?_)
                            · exact v_sub [(0, .ref a0), (1, .int i1), (2, .int x1), (3, .int x38), (4, .int z3), (5, .int z4), (6, .int y15.2), (7, .int y15.1), (9, .long z18), (11, .int z39)] [1, 2, 3, 4, 5, 6, 7, 8, 9, 0] rfl (hk40 _ _ _ hf)
                            · refine v_at 242 rfl ?_
                              exact v_sub [(0, .ref a0), (1, .int i1), (2, .int x1), (3, .int x38), (4, .int z3), (5, .int z4), (6, .int y15.2), (7, .int y15.1), (9, .long z18), (11, .int z39)] [1, 2, 3, 4, 5, 6, 7, 8, 9, 0] rfl (hk50 _ _ _ hf)
                  · refine v_jnE hf (fun z54 kr sr => V K (kr + 0) (sr + 0) σ2 218 [(0, .ref a0), (1, .int i1), (2, .int x1), (3, .int x38), (4, .int z3), (5, .int z4), (6, .int y15.2), (7, .int y15.1), (9, .long z18)] []) (fun z54 _ _ hf => ?_) (fun k54 hk54 hf => ?_)
                    · refine v_iconst (v := 0) hC dX6_read_218 (by decide) ?_
                      refine v_at 219 rfl ?_
                      exact v_sub [(0, .ref a0), (1, .int i1), (2, .int x1), (3, .int x38), (4, .int z3), (5, .int z4), (6, .int y15.2), (7, .int y15.1), (9, .long z18)] [0, 1, 2, 3, 4, 5, 6, 7, 8] rfl (hk39 _ _ _ hf)
                    · refine v_icmp_ge hC hf dX6_read_200 (tgt := 218) (by decide) (fun hf => ?_) (fun hf => ?_)
                      · exact v_sub [(0, .ref a0), (1, .int i1), (2, .int x1), (3, .int x38), (4, .int z3), (5, .int z4), (6, .int y15.2), (7, .int y15.1), (9, .long z18)] [1, 2, 3, 0, 4, 5, 6, 7, 8] rfl (hk54 _ _ _ hf)
                      · refine v_at 203 rfl ?_
                        refine v_aload_n hC 1 dX6_read_203 rfl ?_
                        refine v_getR hC (host := "") hf fd_6_8 w_666 dX6_read_204 (fun r55 hf => ?_)
                        refine v_iload_n hC 0 dX6_read_207 rfl ?_
                        refine v_ldI hC hf dX6_read_208 (fun x56 hf => ?_)
                        refine v_bipush (v := 45) hC dX6_read_209 (by decide) ?_
                        refine v_icmp_ne hC hf dX6_read_211 (tgt := 218) (by decide) (fun hf => ?_) (fun hf => ?_)
                        · exact v_sub [(0, .ref a0), (1, .int i1), (2, .int x1), (3, .int x38), (4, .int z3), (5, .int z4), (6, .int y15.2), (7, .int y15.1), (9, .long z18)] [1, 2, 3, 0, 4, 5, 6, 7, 8] rfl (hk54 _ _ _ hf)
                        · refine v_at 214 rfl ?_
                          refine v_iconst (v := 1) hC dX6_read_214 (by decide) ?_
                          refine v_goto (tgt := 219) hC dX6_read_215 (by decide) ?_
                          exact v_sub [(0, .ref a0), (1, .int i1), (2, .int x1), (3, .int x38), (4, .int z3), (5, .int z4), (6, .int y15.2), (7, .int y15.1), (9, .long z18)] [1, 2, 3, 0, 4, 5, 6, 7, 8] rfl (hk39 _ _ _ hf)
                · refine v_icmp_eq hC hf dX6_read_181 (tgt := 195) (by decide) (fun hf => ?_) (fun hf => ?_)
                  · exact v_sub [(0, .ref a0), (1, .int i1), (2, .int x1), (3, .int y15.1), (4, .int z3), (5, .int z4), (6, .int y15.2), (7, .int y15.1), (9, .long z18)] [1, 2, 3, 4, 5, 6, 7, 8, 0] rfl (hk37 _ _ _ hf)
                  · refine v_at 184 rfl ?_
                    refine v_aload_n hC 1 dX6_read_184 rfl ?_
                    refine v_getR hC (host := "") hf fd_6_8 w_666 dX6_read_185 (fun r57 hf => ?_)
                    refine v_iload_n hC 4 dX6_read_188 rfl ?_
                    refine v_ldI hC hf dX6_read_189 (fun x58 hf => ?_)
                    refine v_bipush (v := 69) hC dX6_read_190 (by decide) ?_
                    refine v_icmp_ne hC hf dX6_read_192 (tgt := 332) (by decide) (fun hf => ?_) (fun hf => ?_)
                    · exact v_sub [(0, .ref a0), (1, .int i1), (2, .int x1), (3, .int y15.1), (4, .int z3), (5, .int z4), (6, .int y15.2), (7, .int y15.1), (9, .long z18)] [1, 2, 3, 4, 5, 6, 7, 8, 0] rfl (hk19 _ _ _ hf)
                    · refine v_at 195 rfl ?_
                      exact v_sub [(0, .ref a0), (1, .int i1), (2, .int x1), (3, .int y15.1), (4, .int z3), (5, .int z4), (6, .int y15.2), (7, .int y15.1), (9, .long z18)] [1, 2, 3, 4, 5, 6, 7, 8, 0] rfl (hk37 _ _ _ hf)
          · refine v_at 166 rfl ?_
            refine v_iconst (v := 0) hC dX6_read_166 (by decide) ?_
            exact v_retZ hC hf hE dX6_read_167
        · refine v_if_ge hC hf dX6_read_144 (tgt := 151) (by decide) (fun hf => ?_) (fun hf => ?_)
          · refine v_iload hC 8 dX6_read_151 rfl ?_
            refine v_iload hC 7 dX6_read_153 rfl ?_
            refine v_isub hC dX6_read_155 ?_
            refine v_iconst (v := 1) hC dX6_read_156 (by decide) ?_
            refine v_isub hC dX6_read_157 ?_
            refine v_i2l hC dX6_read_158 ?_
            refine v_at 159 rfl ?_
            exact v_sub [(0, .ref a0), (1, .int i1), (2, .int x1), (3, .int y15.1), (4, .int z3), (5, .int z4), (6, .int y15.2), (7, .int y15.1), (8, .int x17)] [1, 2, 3, 4, 5, 6, 7, 8, 0] rfl (hk18 _ _ _ hf)
          · refine v_at 147 rfl ?_
            refine v_lconst (v := 0) hC dX6_read_147 (by decide) ?_
            refine v_goto (tgt := 159) hC dX6_read_148 (by decide) ?_
            exact v_sub [(0, .ref a0), (1, .int i1), (2, .int x1), (3, .int y15.1), (4, .int z3), (5, .int z4), (6, .int y15.2), (7, .int y15.1), (8, .int x17)] [1, 2, 3, 4, 5, 6, 7, 8, 0] rfl (hk18 _ _ _ hf)
      · refine v_if_ge hC hf dX6_read_131 (tgt := 138) (by decide) (fun hf => ?_) (fun hf => ?_)
        · refine v_iconst (v := 1) hC dX6_read_138 (by decide) ?_
          refine v_at 139 rfl ?_
          exact v_sub [(0, .ref a0), (1, .int i1), (2, .int x1), (3, .int y15.1), (4, .int z3), (5, .int z4), (6, .int y15.2), (7, .int y15.1)] [1, 2, 3, 4, 5, 6, 7, 0] rfl (hk16 _ _ _ hf)
        · refine v_at 134 rfl ?_
          refine v_iconst (v := 0) hC dX6_read_134 (by decide) ?_
          refine v_goto (tgt := 139) hC dX6_read_135 (by decide) ?_
          exact v_sub [(0, .ref a0), (1, .int i1), (2, .int x1), (3, .int y15.1), (4, .int z3), (5, .int z4), (6, .int y15.2), (7, .int y15.1)] [1, 2, 3, 4, 5, 6, 7, 0] rfl (hk16 _ _ _ hf)
    · refine v_jnE hf (fun z59 kr sr => V K (kr + 0) (sr + 0) σ2 54 [(0, .ref a0), (1, .int i1), (2, .int x1), (3, .int 0), (4, .int z3)] []) (fun z59 _ _ hf => ?_) (fun k59 hk59 hf => ?_)
      · refine v_incL hC hf 3 (fun x60 => [(3, .int x60), (0, .ref a0), (1, .int i1), (2, .int x1), (4, .int z3)]) dX6_read_54 rfl (by decide) hN (Nat.le_of_ble_eq_true rfl) (fun _ => rfl) (fun x60 hf => ?_)
        refine v_at 57 rfl ?_
        exact v_sub [(0, .ref a0), (1, .int i1), (2, .int x1), (3, .int x60), (4, .int z3)] [1, 2, 3, 0, 4] rfl (hk4 _ _ _ hf)
      · refine v_if_ne hC hf dX6_read_36 (tgt := 54) (by decide) (fun hf => ?_) (fun hf => ?_)
        · exact v_sub [(0, .ref a0), (1, .int i1), (2, .int x1), (3, .int 0), (4, .int z3)] [1, 2, 3, 4, 0] rfl (hk59 _ _ _ hf)
        · refine v_at 39 rfl ?_
          refine v_iload_n hC 3 dX6_read_39 rfl ?_
          refine v_if_le hC hf dX6_read_40 (tgt := 57) (by decide) (fun hf => ?_) (fun hf => ?_)
          · exact v_sub [(0, .ref a0), (1, .int i1), (2, .int x1), (3, .int 0), (4, .int z3)] [1, 2, 3, 4, 0] rfl (hk4 _ _ _ hf)
          · refine v_at 43 rfl ?_
            refine v_aload_n hC 1 dX6_read_43 rfl ?_
            refine v_getR hC (host := "") hf fd_6_8 w_666 dX6_read_44 (fun r61 hf => ?_)
            refine v_iconst (v := 0) hC dX6_read_47 (by decide) ?_
            refine v_ldI hC hf dX6_read_48 (fun x62 hf => ?_)
            refine v_bipush (v := 43) hC dX6_read_49 (by decide) ?_
            refine v_icmp_ne hC hf dX6_read_51 (tgt := 57) (by decide) (fun hf => ?_) (fun hf => ?_)
            · exact v_sub [(0, .ref a0), (1, .int i1), (2, .int x1), (3, .int 0), (4, .int z3)] [1, 2, 3, 4, 0] rfl (hk4 _ _ _ hf)
            · refine v_at 54 rfl ?_
              exact v_sub [(0, .ref a0), (1, .int i1), (2, .int x1), (3, .int 0), (4, .int z3)] [1, 2, 3, 4, 0] rfl (hk59 _ _ _ hf)
  · refine v_jnE hf (fun z63 kr sr => V K (kr + 0) (sr + 0) σ2 31 [(0, .ref a0), (1, .int i1), (2, .int x1), (3, .int 0)] []) (fun z63 _ _ hf => ?_) (fun k63 hk63 hf => ?_)
    · refine v_iconst (v := 0) hC dX6_read_31 (by decide) ?_
      refine v_at 32 rfl ?_
      exact v_sub [(0, .ref a0), (1, .int i1), (2, .int x1), (3, .int 0)] [0, 1, 2, 3] rfl (hk3 _ _ _ hf)
    · refine v_if_le hC hf dX6_read_13 (tgt := 31) (by decide) (fun hf => ?_) (fun hf => ?_)
      · exact v_sub [(0, .ref a0), (1, .int i1), (2, .int x1), (3, .int 0)] [2, 3, 1, 0] rfl (hk63 _ _ _ hf)
      · refine v_at 16 rfl ?_
        refine v_aload_n hC 2 dX6_read_16 rfl ?_
        refine v_getR hC (host := "") hf fd_6_8 w_666 dX6_read_17 (fun r64 hf => ?_)
        refine v_iconst (v := 0) hC dX6_read_20 (by decide) ?_
        refine v_ldI hC hf dX6_read_21 (fun x65 hf => ?_)
        refine v_bipush (v := 45) hC dX6_read_22 (by decide) ?_
        refine v_icmp_ne hC hf dX6_read_24 (tgt := 31) (by decide) (fun hf => ?_) (fun hf => ?_)
        · exact v_sub [(0, .ref a0), (1, .int i1), (2, .int x1), (3, .int 0)] [2, 3, 1, 0] rfl (hk63 _ _ _ hf)
        · refine v_at 27 rfl ?_
          refine v_iconst (v := 1) hC dX6_read_27 (by decide) ?_
          refine v_goto (tgt := 32) hC dX6_read_28 (by decide) ?_
          exact v_sub [(0, .ref a0), (1, .int i1), (2, .int x1), (3, .int 0)] [2, 3, 1, 0] rfl (hk3 _ _ _ hf)
set_option maxHeartbeats 4000000 in
set_option maxRecDepth 100000 in
theorem m_X6_mark {G : Gm} {l : Launch} {σ : St} {a0 : Nat} {i1 : Int32} {r : Int32} {σf : St} {k s : Nat} (hf : f_X6_mark σ a0 i1 = some (r, σf, k, s)) : (∃ fs : List Value, σ.1 a0 = some (.inr (.inl (6, fs)))) ∧ Ct G l y_X6_mark prog_8_method_52_code 2 (some .boolean) 0 0 [.ref a0, .int i1] σ (some (.int r)) σf k s := by
  unfold f_X6_mark at hf
  obtain ⟨hob, hf⟩ := ob_some hf
  refine ⟨hob, Ct.ofV pl_X6_mark (Nat.le_of_ble_eq_true rfl) ?_⟩
  intro K hR hN hnm hC hE
  show V K (k + 0) (s + 0) σ 0 [(0, .ref a0), (1, .int i1)] []
  refine v_aload_n hC 0 dX6_mark_0 rfl ?_
  refine v_getI hC (host := "") hf fd_6_9 w_667 dX6_mark_1 (fun x1 hf => ?_)
  refine v_sipush (v := 6000) hC dX6_mark_4 (by decide) ?_
  refine v_jnE hf (fun z2 kr sr => V K (kr + 0) (sr + 0) z2 20 [(0, .ref a0)] []) (fun z2 _ _ hf => ?_) (fun k2 hk2 hf => ?_)
  · refine v_aload_n hC 0 dX6_mark_20 rfl ?_
    refine v_dup hC dX6_mark_21 rfl ?_
    refine v_getI hC (host := "") hf fd_6_9 w_667 dX6_mark_22 (fun x3 hf => ?_)
    refine v_iconst (v := 1) hC dX6_mark_25 (by decide) ?_
    refine v_iadd hC dX6_mark_26 ?_
    refine v_put hC hf fd_6_9 w_667 rfl rfl dX6_mark_27 (fun σ4 hf => ?_)
    refine v_aload_n hC 0 dX6_mark_30 rfl ?_
    refine v_getI hC (host := "") hf fd_6_9 w_667 dX6_mark_31 (fun x5 hf => ?_)
    refine v_at 34 rfl ?_
    refine v_sipush (v := 6000) hC dX6_mark_34 (by decide) ?_
    refine v_icmp_gt hC hf dX6_mark_37 (tgt := 44) (by decide) (fun hf => ?_) (fun hf => ?_)
    · refine v_iconst (v := 0) hC dX6_mark_44 (by decide) ?_
      exact v_retZ hC hf hE dX6_mark_45
    · refine v_at 40 rfl ?_
      refine v_iconst (v := 1) hC dX6_mark_40 (by decide) ?_
      refine v_goto (tgt := 45) hC dX6_mark_41 (by decide) ?_
      exact v_retZ hC hf hE dX6_mark_45
  · refine v_icmp_ge hC hf dX6_mark_7 (tgt := 20) (by decide) (fun hf => ?_) (fun hf => ?_)
    · exact v_sub [(0, .ref a0)] [0] rfl (hk2 _ _ _ hf)
    · refine v_at 10 rfl ?_
      refine v_aload_n hC 0 dX6_mark_10 rfl ?_
      refine v_getR hC (host := "") hf fd_6_10 w_668 dX6_mark_11 (fun r6 hf => ?_)
      refine v_aload_n hC 0 dX6_mark_14 rfl ?_
      refine v_getI hC (host := "") hf fd_6_9 w_667 dX6_mark_15 (fun x7 hf => ?_)
      refine v_iload_n hC 1 dX6_mark_18 rfl ?_
      refine v_stI hC hf dX6_mark_19 (fun σ8 hf => ?_)
      refine v_at 20 rfl ?_
      exact v_sub [(0, .ref a0)] [0] rfl (hk2 _ _ _ hf)
def E_X6_putNumber_L2 (K : Cq) (kr sr : Nat) (σ : St) (a0 : Nat) (j1 : Int64) (y : Int64) : Prop := V K kr sr σ 21 [(0, .ref a0), (1, .long j1), (3, .long y)] []
set_option maxHeartbeats 4000000 in
set_option maxRecDepth 100000 in
theorem v_X6_putNumber_L2 {K : Cq} {k0 s0 : Nat} (hC : Cx K prog_8_method_53_code "TensMillModel") (hR : kR K = rmF 1 21 k0 s0) (hN : kn K = 6) {kr sr : Nat} : ∀ (n : Nat) (σ : St) (a0 : Nat) (j1 : Int64) (j3 : Int64) (y : Int64), f_X6_putNumber_L2 n σ a0 j1 j3 = some y → E_X6_putNumber_L2 K kr sr σ a0 j1 y → V K kr sr σ 2 [(0, .ref a0), (1, .long j1), (3, .long j3)] [] := by
  intro n
  induction n with
  | zero =>
    intro σ a0 j1 j3 y hf hE
    cases hf
  | succ n ih =>
    intro σ a0 j1 j3 y hf hE
    replace hf : b_X6_putNumber_L2 (f_X6_putNumber_L2 n) σ a0 j1 j3 = some y := hf
    unfold b_X6_putNumber_L2 at hf
    refine v_lload_n hC 1 dX6_putNumber_2 rfl ?_
    refine v_lload_n hC 2 dX6_putNumber_3 rfl ?_
    refine v_ldiv hC hf dX6_putNumber_4 (fun l1 hf => ?_)
    refine v_ldc2 hC dX6_putNumber_5 w_931 ?_
    refine v_lcmp_le hC hf dX6_putNumber_8 dX6_putNumber_9 (tgt := 21) (by decide) (fun hf => ?_) (fun hf => ?_)
    · exact v_sub [(0, .ref a0), (1, .long j1), (3, .long j3)] [0, 1, 2] rfl (v_exP (E := E_X6_putNumber_L2 K _ _ _ a0 j1) hf hE)
    · refine v_at 12 rfl ?_
      refine v_ldc2 hC dX6_putNumber_12 w_699 ?_
      refine v_lload_n hC 2 dX6_putNumber_15 rfl ?_
      refine v_lmul hC dX6_putNumber_16 ?_
      refine v_ltL hf (fun l2 hf => ?_)
      refine v_lstore_n hC [(3, .long l2), (0, .ref a0), (1, .long j1)] dX6_putNumber_17 rfl hN (Nat.le_of_ble_eq_true rfl) rfl ?_
      refine v_goto (tgt := 2) hC dX6_putNumber_18 (by decide) ?_
      exact v_sub [(0, .ref a0), (1, .long j1), (3, .long l2)] [1, 2, 0] rfl (ih _ _ _ _ _ hf hE)
def E_X6_putNumber_L21 (K : Cq)  (y : Unit) (σ : St) (kr sr : Nat) : Prop := V K kr sr σ 53 [] []
set_option maxHeartbeats 4000000 in
set_option maxRecDepth 100000 in
theorem v_X6_putNumber_L21 {K : Cq} {k0 s0 : Nat} (hC : Cx K prog_8_method_53_code "TensMillModel") (hR : kR K = rmF 1 21 k0 s0) (hN : kn K = 6) {ko so : Nat} : ∀ (n : Nat) (σ : St) (a0 : Nat) (j1 : Int64) (j3 : Int64) (y : Unit) (σf : St) (kr sr : Nat), f_X6_putNumber_L21 n σ a0 j1 j3 = some (y, σf, kr, sr) → E_X6_putNumber_L21 K  y σf ko so → V K (kr + ko) (sr + so) σ 21 [(0, .ref a0), (1, .long j1), (3, .long j3)] [] := by
  intro n
  induction n with
  | zero =>
    intro σ a0 j1 j3 y σf kr sr hf hE
    cases hf
  | succ n ih =>
    intro σ a0 j1 j3 y σf kr sr hf hE
    replace hf : b_X6_putNumber_L21 (f_X6_putNumber_L21 n) σ a0 j1 j3 = some (y, σf, kr, sr) := hf
    unfold b_X6_putNumber_L21 at hf
    refine v_lload_n hC 2 dX6_putNumber_21 rfl ?_
    refine v_lconst (v := 0) hC dX6_putNumber_22 (by decide) ?_
    refine v_lcmp_le hC hf dX6_putNumber_23 dX6_putNumber_24 (tgt := 53) (by decide) (fun hf => ?_) (fun hf => ?_)
    · obtain ⟨hX, e1, e2⟩ := v_exE (E := E_X6_putNumber_L21 K ) hf hE
      rw [e1, e2]
      exact v_sub [] [] rfl hX
    · refine v_at 27 rfl ?_
      refine v_aload_n hC 0 dX6_putNumber_27 rfl ?_
      refine v_bipush (v := 48) hC dX6_putNumber_28 (by decide) ?_
      refine v_lload_n hC 1 dX6_putNumber_30 rfl ?_
      refine v_lload_n hC 2 dX6_putNumber_31 rfl ?_
      refine v_ldiv hC hf dX6_putNumber_32 (fun l4 hf => ?_)
      refine v_ldc2 hC dX6_putNumber_33 w_699 ?_
      refine v_lrem hC hf dX6_putNumber_36 (fun l5 hf => ?_)
      refine v_l2i hC dX6_putNumber_37 ?_
      refine v_at 38 rfl ?_
      refine v_iadd hC dX6_putNumber_38 ?_
      refine v_cVE hC (y := y_X6_mark) (ci := 6) [.int (48 + ((l5 : Int64).toInt32))] [] (fun r => some (.int r)) (fun r => .int r :: []) hf (fun _ _ _ _ h => m_X6_mark h) rfl (fun _ => rfl) rfl rfl hR (Nat.le_of_ble_eq_true rfl) (Nat.le_of_ble_eq_true rfl) w_913 w_910 w_912 w_52 w_64 nm_X6_mark rfl (Nat.le_of_ble_eq_true rfl) dX6_putNumber_39 (fun x6 σ7 _ _ hf => ?_)
      refine v_istore hC [(5, .int x6), (0, .ref a0), (1, .long j1), (3, .long j3)] dX6_putNumber_42 hN (Nat.le_of_ble_eq_true rfl) rfl ?_
      refine v_lload_n hC 3 dX6_putNumber_44 rfl ?_
      refine v_ldc2 hC dX6_putNumber_45 w_699 ?_
      refine v_ldiv hC hf dX6_putNumber_48 (fun l8 hf => ?_)
      refine v_lstore_n hC [(3, .long l8), (5, .int x6), (0, .ref a0), (1, .long j1)] dX6_putNumber_49 rfl hN (Nat.le_of_ble_eq_true rfl) rfl ?_
      refine v_goto (tgt := 21) hC dX6_putNumber_50 (by decide) ?_
      exact v_sub [(0, .ref a0), (1, .long j1), (3, .long l8)] [2, 3, 0] rfl (ih _ _ _ _ _ _ _ _ hf hE)
set_option maxHeartbeats 4000000 in
set_option maxRecDepth 100000 in
theorem m_X6_putNumber {G : Gm} {l : Launch} {σ : St} {a0 : Nat} {j1 : Int64} {r : Unit} {σf : St} {k s : Nat} (hf : f_X6_putNumber σ a0 j1 = some (r, σf, k, s)) : (∃ fs : List Value, σ.1 a0 = some (.inr (.inl (6, fs)))) ∧ Ct G l y_X6_putNumber prog_8_method_53_code 6 none 1 21 [.ref a0, .long j1] σ none σf k s := by
  unfold f_X6_putNumber at hf
  obtain ⟨hob, hf⟩ := ob_some hf
  refine ⟨hob, Ct.ofV pl_X6_putNumber (Nat.le_of_ble_eq_true rfl) ?_⟩
  intro K hR hN hnm hC hE
  show V K (k + 0) (s + 0) σ 0 [(0, .ref a0), (1, .long j1)] []
  refine v_lconst (v := 1) hC dX6_putNumber_0 (by decide) ?_
  refine v_lstore_n hC [(3, .long 1), (0, .ref a0), (1, .long j1)] dX6_putNumber_1 rfl hN (Nat.le_of_ble_eq_true rfl) rfl ?_
  refine v_at 2 rfl ?_
  refine v_sub [(0, .ref a0), (1, .long j1), (3, .long 1)] [1, 2, 0] rfl ?_
  refine v_lpP hf (E_X6_putNumber_L2 K _ _ σ a0 j1) (fun _ h hE => v_X6_putNumber_L2 hC hR hN _ _ _ _ _ _ h hE) (fun y3 hf => ?_)
  show V K _ _ σ 21 [(0, .ref a0), (1, .long j1), (3, .long y3)] []
  refine v_sub [(0, .ref a0), (1, .long j1), (3, .long y3)] [0, 1, 2] rfl ?_
  refine v_lpE hf (E_X6_putNumber_L21 K ) (fun _ _ _ _ _ _ h hE => v_X6_putNumber_L21 hC hR hN _ _ _ _ _ _ _ _ _ h hE) (fun y9 σ10 _ _ hf => ?_)
  show V K _ _ σ10 53 [] []
  exact v_retV hC hf hE dX6_putNumber_53
set_option maxHeartbeats 4000000 in
set_option maxRecDepth 100000 in
theorem m_X6_putExponent {G : Gm} {l : Launch} {σ : St} {a0 : Nat} {j1 : Int64} {r : Unit} {σf : St} {k s : Nat} (hf : f_X6_putExponent σ a0 j1 = some (r, σf, k, s)) : (∃ fs : List Value, σ.1 a0 = some (.inr (.inl (6, fs)))) ∧ Ct G l y_X6_putExponent prog_8_method_54_code 4 none 2 46 [.ref a0, .long j1] σ none σf k s := by
  unfold f_X6_putExponent at hf
  obtain ⟨hob, hf⟩ := ob_some hf
  refine ⟨hob, Ct.ofV pl_X6_putExponent (Nat.le_of_ble_eq_true rfl) ?_⟩
  intro K hR hN hnm hC hE
  show V K (k + 0) (s + 0) σ 0 [(0, .ref a0), (1, .long j1)] []
  refine v_lload_n hC 1 dX6_putExponent_0 rfl ?_
  refine v_lconst (v := 0) hC dX6_putExponent_1 (by decide) ?_
  refine v_lcmp_ne hC hf dX6_putExponent_2 dX6_putExponent_3 (tgt := 7) (by decide) (fun hf => ?_) (fun hf => ?_)
  · refine v_aload_n hC 0 dX6_putExponent_7 rfl ?_
    refine v_bipush (v := 69) hC dX6_putExponent_8 (by decide) ?_
    refine v_cVE hC (y := y_X6_mark) (ci := 6) [.int 69] [] (fun r => some (.int r)) (fun r => .int r :: []) hf (fun _ _ _ _ h => m_X6_mark h) rfl (fun _ => rfl) rfl rfl hR (Nat.le_of_ble_eq_true rfl) (Nat.le_of_ble_eq_true rfl) w_913 w_910 w_912 w_52 w_64 nm_X6_mark rfl (Nat.le_of_ble_eq_true rfl) dX6_putExponent_10 (fun x1 σ2 _ _ hf => ?_)
    refine v_istore_n hC [(3, .int x1), (0, .ref a0), (1, .long j1)] dX6_putExponent_13 rfl hN (Nat.le_of_ble_eq_true rfl) rfl ?_
    refine v_aload_n hC 1 dX6_putExponent_14 rfl ?_
    refine v_lload_n hC 2 dX6_putExponent_15 rfl ?_
    refine v_lconst (v := 0) hC dX6_putExponent_16 (by decide) ?_
    refine v_jnE hf (fun z3 kr sr => V K (kr + 0) (sr + 0) σ2 28 [(0, .ref a0), (1, .long j1)] [.int z3, .ref a0]) (fun z3 _ _ hf => ?_) (fun k3 hk3 hf => ?_)
    · refine v_cVE hC (y := y_X6_mark) (ci := 6) [.int z3] [] (fun r => some (.int r)) (fun r => .int r :: []) hf (fun _ _ _ _ h => m_X6_mark h) rfl (fun _ => rfl) rfl rfl hR (Nat.le_of_ble_eq_true rfl) (Nat.le_of_ble_eq_true rfl) w_913 w_910 w_912 w_52 w_64 nm_X6_mark rfl (Nat.le_of_ble_eq_true rfl) dX6_putExponent_28 (fun x4 σ5 _ _ hf => ?_)
      refine v_istore_n hC [(3, .int x4), (0, .ref a0), (1, .long j1)] dX6_putExponent_31 rfl hN (Nat.le_of_ble_eq_true rfl) rfl ?_
      refine v_aload_n hC 1 dX6_putExponent_32 rfl ?_
      refine v_lload_n hC 2 dX6_putExponent_33 rfl ?_
      refine v_lconst (v := 0) hC dX6_putExponent_34 (by decide) ?_
      refine v_jnE hf (fun z6 kr sr => V K (kr + 0) (sr + 0) σ5 45 [] [.long z6, .ref a0]) (fun z6 _ _ hf => ?_) (fun k6 hk6 hf => ?_)
      · refine v_cVE hC (y := y_X6_putNumber) (ci := 6) [.long z6] [] (fun _ => none) (fun _ => []) hf (fun _ _ _ _ h => m_X6_putNumber h) rfl (fun _ => rfl) rfl rfl hR (Nat.le_of_ble_eq_true rfl) (Nat.le_of_ble_eq_true rfl) w_930 w_927 w_929 w_56 w_64 nm_X6_putNumber rfl (Nat.le_of_ble_eq_true rfl) dX6_putExponent_45 (fun _ σ7 _ _ hf => ?_)
        exact v_retV hC hf hE dX6_putExponent_48
      · refine v_lcmp_ge hC hf dX6_putExponent_35 dX6_putExponent_36 (tgt := 44) (by decide) (fun hf => ?_) (fun hf => ?_)
        · refine v_lload_n hC 2 dX6_putExponent_44 rfl ?_
          refine v_at 45 rfl ?_
          exact v_sub [] [] rfl (hk6 _ _ _ hf)
        · refine v_at 39 rfl ?_
          refine v_lload_n hC 2 dX6_putExponent_39 rfl ?_
          refine v_lneg hC dX6_putExponent_40 ?_
          refine v_goto (tgt := 45) hC dX6_putExponent_41 (by decide) ?_
          exact v_sub [] [] rfl (hk6 _ _ _ hf)
    · refine v_lcmp_ge hC hf dX6_putExponent_17 dX6_putExponent_18 (tgt := 26) (by decide) (fun hf => ?_) (fun hf => ?_)
      · refine v_bipush (v := 43) hC dX6_putExponent_26 (by decide) ?_
        refine v_at 28 rfl ?_
        exact v_sub [(0, .ref a0), (1, .long j1)] [1, 2] rfl (hk3 _ _ _ hf)
      · refine v_at 21 rfl ?_
        refine v_bipush (v := 45) hC dX6_putExponent_21 (by decide) ?_
        refine v_goto (tgt := 28) hC dX6_putExponent_23 (by decide) ?_
        exact v_sub [(0, .ref a0), (1, .long j1)] [1, 2] rfl (hk3 _ _ _ hf)
  · refine v_at 6 rfl ?_
    exact v_retV hC hf hE dX6_putExponent_6
set_option maxHeartbeats 4000000 in
set_option maxRecDepth 100000 in
theorem m_X6_front {G : Gm} {l : Launch} {σ : St} {a0 : Nat} {i1 : Int32} {i2 : Int32} {r : Int32} (hf : f_X6_front σ a0 i1 i2 = some r) : (∃ fs : List Value, σ.1 a0 = some (.inr (.inl (6, fs)))) ∧ Ct G l y_X6_front prog_8_method_55_code 3 (some .int) 0 0 [.ref a0, .int i1, .int i2] σ (some (.int r)) σ 0 0 := by
  unfold f_X6_front at hf
  obtain ⟨hob, hf⟩ := ob_some hf
  refine ⟨hob, Ct.ofV pl_X6_front (Nat.le_of_ble_eq_true rfl) ?_⟩
  intro K hR hN hnm hC hE
  show V K 0 0 σ 0 [(0, .ref a0), (1, .int i1), (2, .int i2)] []
  refine v_bipush (v := 48) hC dX6_front_0 (by decide) ?_
  refine v_iload_n hC 2 dX6_front_2 rfl ?_
  refine v_aload_n hC 0 dX6_front_3 rfl ?_
  refine v_getR hC (host := "") hf fd_6_1 w_659 dX6_front_4 (fun r1 hf => ?_)
  refine v_iload_n hC 1 dX6_front_7 rfl ?_
  refine v_ldI hC hf dX6_front_8 (fun x2 hf => ?_)
  refine v_jnP hf (fun z3 => V K 0 0 σ 37 [] [.int z3, .int 48]) (fun z3 hf => ?_) (fun k3 hk3 hf => ?_)
  · refine v_iadd hC dX6_front_37 ?_
    exact v_retIP hC hf hE dX6_front_38
  · refine v_icmp_ge hC hf dX6_front_9 (tgt := 36) (by decide) (fun hf => ?_) (fun hf => ?_)
    · refine v_iconst (v := 0) hC dX6_front_36 (by decide) ?_
      refine v_at 37 rfl ?_
      exact v_sub [] [] rfl (hk3 _ hf)
    · refine v_at 12 rfl ?_
      refine v_aload_n hC 0 dX6_front_12 rfl ?_
      refine v_getR hC (host := "") hf fd_6_0 w_658 dX6_front_13 (fun r4 hf => ?_)
      refine v_sipush (v := 4096) hC dX6_front_16 (by decide) ?_
      refine v_iload_n hC 1 dX6_front_19 rfl ?_
      refine v_imul hC dX6_front_20 ?_
      refine v_aload_n hC 0 dX6_front_21 rfl ?_
      refine v_getR hC (host := "") hf fd_6_1 w_659 dX6_front_22 (fun r5 hf => ?_)
      refine v_iload_n hC 1 dX6_front_25 rfl ?_
      refine v_at 26 rfl ?_
      refine v_ldI hC hf dX6_front_26 (fun x6 hf => ?_)
      refine v_iadd hC dX6_front_27 ?_
      refine v_iconst (v := 1) hC dX6_front_28 (by decide) ?_
      refine v_isub hC dX6_front_29 ?_
      refine v_iload_n hC 2 dX6_front_30 rfl ?_
      refine v_isub hC dX6_front_31 ?_
      refine v_ldI hC hf dX6_front_32 (fun x7 hf => ?_)
      refine v_goto (tgt := 37) hC dX6_front_33 (by decide) ?_
      exact v_sub [] [] rfl (hk3 _ hf)
set_option maxHeartbeats 4000000 in
set_option maxRecDepth 100000 in
theorem m_X6_plainSize {G : Gm} {l : Launch} {σ : St} {a0 : Nat} {i1 : Int32} {r : Int64} (hf : f_X6_plainSize σ a0 i1 = some r) : (∃ fs : List Value, σ.1 a0 = some (.inr (.inl (6, fs)))) ∧ Ct G l y_X6_plainSize prog_8_method_56_code 6 (some .long) 1 21 [.ref a0, .int i1] σ (some (.long r)) σ 0 0 := by
  unfold f_X6_plainSize at hf
  obtain ⟨hob, hf⟩ := ob_some hf
  refine ⟨hob, Ct.ofV pl_X6_plainSize (Nat.le_of_ble_eq_true rfl) ?_⟩
  intro K hR hN hnm hC hE
  show V K 0 0 σ 0 [(0, .ref a0), (1, .int i1)] []
  refine v_aload_n hC 0 dX6_plainSize_0 rfl ?_
  refine v_iload_n hC 1 dX6_plainSize_1 rfl ?_
  refine v_cVP hC (y := y_X6_digitsOf) (ci := 6) [.int i1] [] (fun r => some (.int r)) (fun r => .int r :: []) hf (fun _ h => m_X6_digitsOf h) rfl (fun _ => rfl) rfl rfl hR (Nat.le_of_ble_eq_true rfl) (Nat.le_of_ble_eq_true rfl) w_876 w_873 w_875 w_50 w_64 nm_X6_digitsOf rfl (Nat.le_of_ble_eq_true rfl) dX6_plainSize_2 (fun x1 hf => ?_)
  refine v_istore_n hC [(2, .int x1), (0, .ref a0), (1, .int i1)] dX6_plainSize_5 rfl hN (Nat.le_of_ble_eq_true rfl) rfl ?_
  refine v_aload_n hC 1 dX6_plainSize_6 rfl ?_
  refine v_getR hC (host := "") hf fd_6_3 w_661 dX6_plainSize_7 (fun r2 hf => ?_)
  refine v_iload_n hC 2 dX6_plainSize_10 rfl ?_
  refine v_ldI hC hf dX6_plainSize_11 (fun x3 hf => ?_)
  refine v_at 12 rfl ?_
  refine v_istore_n hC [(3, .int x3), (2, .int x1), (0, .ref a0), (1, .int i1)] dX6_plainSize_12 rfl hN (Nat.le_of_ble_eq_true rfl) rfl ?_
  refine v_iload_n hC 0 dX6_plainSize_13 rfl ?_
  refine v_jnP hf (fun z4 => V K 0 0 σ 61 [(0, .ref a0), (1, .int i1)] [.long z4]) (fun z4 hf => ?_) (fun k4 hk4 hf => ?_)
  · refine v_lstore hC [(4, .long z4), (0, .ref a0), (1, .int i1)] dX6_plainSize_61 hN (Nat.le_of_ble_eq_true rfl) rfl ?_
    refine v_aload_n hC 1 dX6_plainSize_63 rfl ?_
    refine v_getR hC (host := "") hf fd_6_2 w_660 dX6_plainSize_64 (fun r5 hf => ?_)
    refine v_iload_n hC 2 dX6_plainSize_67 rfl ?_
    refine v_ldI hC hf dX6_plainSize_68 (fun x6 hf => ?_)
    refine v_if_ge hC hf dX6_plainSize_69 (tgt := 79) (by decide) (fun hf => ?_) (fun hf => ?_)
    · refine v_lload hC 0 dX6_plainSize_79 rfl ?_
      exact v_retLP hC hf hE dX6_plainSize_81
    · refine v_at 72 rfl ?_
      refine v_lload hC 0 dX6_plainSize_72 rfl ?_
      refine v_lconst (v := 1) hC dX6_plainSize_74 (by decide) ?_
      refine v_ladd hC dX6_plainSize_75 ?_
      refine v_goto (tgt := 81) hC dX6_plainSize_76 (by decide) ?_
      exact v_retLP hC hf hE dX6_plainSize_81
  · refine v_if_le hC hf dX6_plainSize_14 (tgt := 38) (by decide) (fun hf => ?_) (fun hf => ?_)
    · refine v_iload_n hC 0 dX6_plainSize_38 rfl ?_
      refine v_jnP hf (fun z7 => V K 0 0 σ 59 [(0, .ref a0), (1, .int i1), (2, .int x1)] []) (fun z7 hf => ?_) (fun k7 hk7 hf => ?_)
      · refine v_iload_n hC 2 dX6_plainSize_59 rfl ?_
        refine v_i2l hC dX6_plainSize_60 ?_
        refine v_at 61 rfl ?_
        exact v_sub [(0, .ref a0), (1, .int i1)] [0, 1] rfl (hk4 _ hf)
      · refine v_if_ge hC hf dX6_plainSize_39 (tgt := 59) (by decide) (fun hf => ?_) (fun hf => ?_)
        · exact v_sub [(0, .ref a0), (1, .int i1), (2, .int x1)] [2, 3, 1] rfl (hk7 _ hf)
        · refine v_at 42 rfl ?_
          refine v_aload_n hC 2 dX6_plainSize_42 rfl ?_
          refine v_getR hC (host := "") hf fd_6_1 w_659 dX6_plainSize_43 (fun r8 hf => ?_)
          refine v_iload_n hC 3 dX6_plainSize_46 rfl ?_
          refine v_ldI hC hf dX6_plainSize_47 (fun x9 hf => ?_)
          refine v_if_le hC hf dX6_plainSize_48 (tgt := 59) (by decide) (fun hf => ?_) (fun hf => ?_)
          · exact v_sub [(0, .ref a0), (1, .int i1), (2, .int x1)] [2, 3, 1] rfl (hk7 _ hf)
          · refine v_at 51 rfl ?_
            refine v_iload_n hC 1 dX6_plainSize_51 rfl ?_
            refine v_i2l hC dX6_plainSize_52 ?_
            refine v_iload_n hC 0 dX6_plainSize_53 rfl ?_
            refine v_i2l hC dX6_plainSize_54 ?_
            refine v_lsub hC dX6_plainSize_55 ?_
            refine v_goto (tgt := 61) hC dX6_plainSize_56 (by decide) ?_
            exact v_sub [(0, .ref a0), (1, .int i1)] [2, 3] rfl (hk4 _ hf)
    · refine v_at 17 rfl ?_
      refine v_iload_n hC 1 dX6_plainSize_17 rfl ?_
      refine v_iload_n hC 0 dX6_plainSize_18 rfl ?_
      refine v_icmp_le hC hf dX6_plainSize_19 (tgt := 29) (by decide) (fun hf => ?_) (fun hf => ?_)
      · refine v_iload_n hC 0 dX6_plainSize_29 rfl ?_
        refine v_i2l hC dX6_plainSize_30 ?_
        refine v_ldc2 hC dX6_plainSize_31 w_836 ?_
        refine v_ladd hC dX6_plainSize_34 ?_
        refine v_goto (tgt := 61) hC dX6_plainSize_35 (by decide) ?_
        exact v_sub [(0, .ref a0), (1, .int i1)] [2, 3] rfl (hk4 _ hf)
      · refine v_at 22 rfl ?_
        refine v_iload_n hC 1 dX6_plainSize_22 rfl ?_
        refine v_i2l hC dX6_plainSize_23 ?_
        refine v_lconst (v := 1) hC dX6_plainSize_24 (by decide) ?_
        refine v_ladd hC dX6_plainSize_25 ?_
        refine v_goto (tgt := 61) hC dX6_plainSize_26 (by decide) ?_
        exact v_sub [(0, .ref a0), (1, .int i1)] [2, 3] rfl (hk4 _ hf)
