set_option maxHeartbeats 4000000 in
set_option maxRecDepth 100000 in
theorem m_X6_half {G : Gm} {l : Launch} {σ : St} {j0 : Int64} {r : Int64} (hf : f_X6_half σ j0 = some r) : Ct G l y_X6_half prog_8_method_35_code 2 (some .long) 0 0 [.long j0] σ (some (.long r)) σ 0 0 := by
  unfold f_X6_half at hf
  refine Ct.ofV pl_X6_half (Nat.le_of_ble_eq_true rfl) ?_
  intro K hR hN hnm hC hE
  show V K 0 0 σ 0 [(0, .long j0)] []
  refine v_lload_n hC 0 dX6_half_0 rfl ?_
  refine v_lconst (v := 0) hC dX6_half_1 (by decide) ?_
  refine v_lcmp_ge hC hf dX6_half_2 dX6_half_3 (tgt := 17) (by decide) (fun hf => ?_) (fun hf => ?_)
  · refine v_lload_n hC 0 dX6_half_17 rfl ?_
    refine v_ldc2 hC dX6_half_18 w_836 ?_
    refine v_ldiv hC hf dX6_half_21 (fun l1 hf => ?_)
    exact v_retLP hC hf hE dX6_half_22
  · refine v_at 6 rfl ?_
    refine v_lconst (v := 1) hC dX6_half_6 (by decide) ?_
    refine v_lload_n hC 0 dX6_half_7 rfl ?_
    refine v_lsub hC dX6_half_8 ?_
    refine v_ldc2 hC dX6_half_9 w_836 ?_
    refine v_ldiv hC hf dX6_half_12 (fun l2 hf => ?_)
    refine v_lneg hC dX6_half_13 ?_
    refine v_goto (tgt := 22) hC dX6_half_14 (by decide) ?_
    exact v_retLP hC hf hE dX6_half_22
set_option maxHeartbeats 4000000 in
set_option maxRecDepth 100000 in
theorem m_X6_bring {G : Gm} {l : Launch} {σ : St} {a0 : Nat} {i1 : Int32} {r : Unit} {σf : St} {k s : Nat} (hf : f_X6_bring σ a0 i1 = some (r, σf, k, s)) : (∃ fs : List Value, σ.1 a0 = some (.inr (.inl (6, fs)))) ∧ Ct G l y_X6_bring prog_8_method_38_code 2 none 1 23 [.ref a0, .int i1] σ none σf k s := by
  unfold f_X6_bring at hf
  obtain ⟨hob, hf⟩ := ob_some hf
  refine ⟨hob, Ct.ofV pl_X6_bring (Nat.le_of_ble_eq_true rfl) ?_⟩
  intro K hR hN hnm hC hE
  show V K (k + 0) (s + 0) σ 0 [(0, .ref a0), (1, .int i1)] []
  refine v_aload_n hC 0 dX6_bring_0 rfl ?_
  refine v_iconst (v := 3) hC dX6_bring_1 (by decide) ?_
  refine v_iconst (v := 1) hC dX6_bring_2 (by decide) ?_
  refine v_cVE hC (y := y_X6_raise) (ci := 6) [.int 3, .int 1] [] (fun _ => none) (fun _ => []) hf (fun _ _ _ _ h => m_X6_raise h) rfl (fun _ => rfl) rfl rfl hR (Nat.le_of_ble_eq_true rfl) (Nat.le_of_ble_eq_true rfl) w_726 w_723 w_725 w_30 w_64 nm_X6_raise rfl (Nat.le_of_ble_eq_true rfl) dX6_bring_3 (fun _ σ1 _ _ hf => ?_)
  refine v_aload_n hC 0 dX6_bring_6 rfl ?_
  refine v_getR hC (host := "") hf fd_6_5 w_663 dX6_bring_7 (fun r2 hf => ?_)
  refine v_iconst (v := 3) hC dX6_bring_10 (by decide) ?_
  refine v_ldI hC hf dX6_bring_11 (fun x3 hf => ?_)
  refine v_at 12 rfl ?_
  refine v_jnE hf (fun z4 kr sr => V K (kr + 0) (sr + 0) z4 26 [(0, .ref a0), (1, .int i1)] []) (fun z4 _ _ hf => ?_) (fun k4 hk4 hf => ?_)
  · refine v_aload_n hC 0 dX6_bring_26 rfl ?_
    refine v_getR hC (host := "") hf fd_6_5 w_663 dX6_bring_27 (fun r5 hf => ?_)
    refine v_iconst (v := 3) hC dX6_bring_30 (by decide) ?_
    refine v_ldI hC hf dX6_bring_31 (fun x6 hf => ?_)
    refine v_if_le hC hf dX6_bring_32 (tgt := 43) (by decide) (fun hf => ?_) (fun hf => ?_)
    · exact v_retV hC hf hE dX6_bring_43
    · refine v_at 35 rfl ?_
      refine v_aload_n hC 0 dX6_bring_35 rfl ?_
      refine v_getR hC (host := "") hf fd_6_4 w_662 dX6_bring_36 (fun r7 hf => ?_)
      refine v_ldc hC dX6_bring_39 w_777 ?_
      refine v_iload_n hC 1 dX6_bring_41 rfl ?_
      refine v_stI hC hf dX6_bring_42 (fun σ8 hf => ?_)
      exact v_retV hC hf hE dX6_bring_43
  · refine v_if_ne hC hf dX6_bring_12 (tgt := 26) (by decide) (fun hf => ?_) (fun hf => ?_)
    · exact v_sub [(0, .ref a0), (1, .int i1)] [0, 1] rfl (hk4 _ _ _ hf)
    · refine v_at 15 rfl ?_
      refine v_iload_n hC 1 dX6_bring_15 rfl ?_
      refine v_if_le hC hf dX6_bring_16 (tgt := 26) (by decide) (fun hf => ?_) (fun hf => ?_)
      · exact v_sub [(0, .ref a0), (1, .int i1)] [0, 1] rfl (hk4 _ _ _ hf)
      · refine v_at 19 rfl ?_
        refine v_aload_n hC 0 dX6_bring_19 rfl ?_
        refine v_getR hC (host := "") hf fd_6_5 w_663 dX6_bring_20 (fun r9 hf => ?_)
        refine v_iconst (v := 3) hC dX6_bring_23 (by decide) ?_
        refine v_iconst (v := 1) hC dX6_bring_24 (by decide) ?_
        refine v_stI hC hf dX6_bring_25 (fun σ10 hf => ?_)
        refine v_at 26 rfl ?_
        exact v_sub [(0, .ref a0), (1, .int i1)] [0, 1] rfl (hk4 _ _ _ hf)
def E_X6_extract_L93 (K : Cq) (a0 : Nat) (i1 : Int32) (y : Unit) (σ : St) (kr sr : Nat) : Prop := V K kr sr σ 128 [(0, .ref a0), (1, .int i1)] []
set_option maxHeartbeats 4000000 in
set_option maxRecDepth 100000 in
theorem v_X6_extract_L93 {K : Cq} {k0 s0 : Nat} (hC : Cx K prog_8_method_37_code "TensMillModel") (hR : kR K = rmF 2 49 k0 s0) (hN : kn K = 3) {ko so : Nat} : ∀ (n : Nat) (σ : St) (a0 : Nat) (i1 : Int32) (i2 : Int32) (y : Unit) (σf : St) (kr sr : Nat), f_X6_extract_L93 n σ a0 i1 i2 = some (y, σf, kr, sr) → E_X6_extract_L93 K a0 i1 y σf ko so → V K (kr + ko) (sr + so) σ 93 [(0, .ref a0), (1, .int i1), (2, .int i2)] [] := by
  intro n
  induction n with
  | zero =>
    intro σ a0 i1 i2 y σf kr sr hf hE
    cases hf
  | succ n ih =>
    intro σ a0 i1 i2 y σf kr sr hf hE
    replace hf : b_X6_extract_L93 (f_X6_extract_L93 n) σ a0 i1 i2 = some (y, σf, kr, sr) := hf
    unfold b_X6_extract_L93 at hf
    refine v_iload_n hC 2 dX6_extract_93 rfl ?_
    refine v_aload_n hC 0 dX6_extract_94 rfl ?_
    refine v_getR hC (host := "") hf fd_6_5 w_663 dX6_extract_95 (fun r20 hf => ?_)
    refine v_iconst (v := 2) hC dX6_extract_98 (by decide) ?_
    refine v_ldI hC hf dX6_extract_99 (fun x21 hf => ?_)
    refine v_icmp_ge hC hf dX6_extract_100 (tgt := 128) (by decide) (fun hf => ?_) (fun hf => ?_)
    · obtain ⟨hX, e1, e2⟩ := v_exE (E := E_X6_extract_L93 K a0 i1) hf hE
      rw [e1, e2]
      exact v_sub [(0, .ref a0), (1, .int i1)] [0, 1] rfl hX
    · refine v_at 103 rfl ?_
      refine v_aload_n hC 0 dX6_extract_103 rfl ?_
      refine v_getR hC (host := "") hf fd_6_4 w_662 dX6_extract_104 (fun r22 hf => ?_)
      refine v_sipush (v := 17000) hC dX6_extract_107 (by decide) ?_
      refine v_iload_n hC 2 dX6_extract_110 rfl ?_
      refine v_iadd hC dX6_extract_111 ?_
      refine v_aload_n hC 0 dX6_extract_112 rfl ?_
      refine v_getR hC (host := "") hf fd_6_4 w_662 dX6_extract_113 (fun r23 hf => ?_)
      refine v_ldc hC dX6_extract_116 w_755 ?_
      refine v_at 118 rfl ?_
      refine v_iload_n hC 2 dX6_extract_118 rfl ?_
      refine v_iadd hC dX6_extract_119 ?_
      refine v_ldI hC hf dX6_extract_120 (fun x24 hf => ?_)
      refine v_stI hC hf dX6_extract_121 (fun σ25 hf => ?_)
      refine v_incL hC hf 2 (fun x26 => [(2, .int x26), (0, .ref a0), (1, .int i1)]) dX6_extract_122 rfl (by decide) hN (Nat.le_of_ble_eq_true rfl) (fun _ => rfl) (fun x26 hf => ?_)
      refine v_goto (tgt := 93) hC dX6_extract_125 (by decide) ?_
      exact v_sub [(0, .ref a0), (1, .int i1), (2, .int x26)] [1, 2, 0] rfl (ih _ _ _ _ _ _ _ _ hf hE)
def E_X6_extract_L147 (K : Cq) (a0 : Nat) (i1 : Int32) (y : Int32) (σ : St) (kr sr : Nat) : Prop := V K kr sr σ 178 [(0, .ref a0), (1, .int i1), (2, .int y)] []
set_option maxHeartbeats 4000000 in
set_option maxRecDepth 100000 in
theorem v_X6_extract_L147 {K : Cq} {k0 s0 : Nat} (hC : Cx K prog_8_method_37_code "TensMillModel") (hR : kR K = rmF 2 49 k0 s0) (hN : kn K = 3) {ko so : Nat} : ∀ (n : Nat) (σ : St) (a0 : Nat) (i1 : Int32) (i2 : Int32) (y : Int32) (σf : St) (kr sr : Nat), f_X6_extract_L147 n σ a0 i1 i2 = some (y, σf, kr, sr) → E_X6_extract_L147 K a0 i1 y σf ko so → V K (kr + ko) (sr + so) σ 147 [(0, .ref a0), (1, .int i1), (2, .int i2)] [] := by
  intro n
  induction n with
  | zero =>
    intro σ a0 i1 i2 y σf kr sr hf hE
    cases hf
  | succ n ih =>
    intro σ a0 i1 i2 y σf kr sr hf hE
    replace hf : b_X6_extract_L147 (f_X6_extract_L147 n) σ a0 i1 i2 = some (y, σf, kr, sr) := hf
    unfold b_X6_extract_L147 at hf
    refine v_aload_n hC 0 dX6_extract_147 rfl ?_
    refine v_iconst (v := 3) hC dX6_extract_148 (by decide) ?_
    refine v_iconst (v := 1) hC dX6_extract_149 (by decide) ?_
    refine v_cVP hC (y := y_X6_compareRows) (ci := 6) [.int 3, .int 1] [] (fun r => some (.int r)) (fun r => .int r :: []) hf (fun _ h => m_X6_compareRows h) rfl (fun _ => rfl) rfl rfl hR (Nat.le_of_ble_eq_true rfl) (Nat.le_of_ble_eq_true rfl) w_738 w_735 w_737 w_33 w_64 nm_X6_compareRows rfl (Nat.le_of_ble_eq_true rfl) dX6_extract_150 (fun x32 hf => ?_)
    refine v_if_lt hC hf dX6_extract_153 (tgt := 178) (by decide) (fun hf => ?_) (fun hf => ?_)
    · obtain ⟨hX, e1, e2⟩ := v_exE (E := E_X6_extract_L147 K a0 i1) hf hE
      rw [e1, e2]
      exact v_sub [(0, .ref a0), (1, .int i1), (2, .int i2)] [0, 1, 2] rfl hX
    · refine v_at 156 rfl ?_
      refine v_aload_n hC 0 dX6_extract_156 rfl ?_
      refine v_iconst (v := 3) hC dX6_extract_157 (by decide) ?_
      refine v_iconst (v := 1) hC dX6_extract_158 (by decide) ?_
      refine v_cVE hC (y := y_X6_less) (ci := 6) [.int 3, .int 1] [] (fun _ => none) (fun _ => []) hf (fun _ _ _ _ h => m_X6_less h) rfl (fun _ => rfl) rfl rfl hR (Nat.le_of_ble_eq_true rfl) (Nat.le_of_ble_eq_true rfl) w_742 w_739 w_741 w_34 w_64 nm_X6_less rfl (Nat.le_of_ble_eq_true rfl) dX6_extract_159 (fun _ σ33 _ _ hf => ?_)
      refine v_aload_n hC 0 dX6_extract_162 rfl ?_
      refine v_iconst (v := 1) hC dX6_extract_163 (by decide) ?_
      refine v_cVE hC (y := y_X6_one) (ci := 6) [.int 1] [] (fun _ => none) (fun _ => []) hf (fun _ _ _ _ h => m_X6_one h) rfl (fun _ => rfl) rfl rfl hR (Nat.le_of_ble_eq_true rfl) (Nat.le_of_ble_eq_true rfl) w_793 w_790 w_792 w_41 w_64 nm_X6_one rfl (Nat.le_of_ble_eq_true rfl) dX6_extract_164 (fun _ σ34 _ _ hf => ?_)
      refine v_aload_n hC 0 dX6_extract_167 rfl ?_
      refine v_at 168 rfl ?_
      refine v_iconst (v := 1) hC dX6_extract_168 (by decide) ?_
      refine v_cVE hC (y := y_X6_one) (ci := 6) [.int 1] [] (fun _ => none) (fun _ => []) hf (fun _ _ _ _ h => m_X6_one h) rfl (fun _ => rfl) rfl rfl hR (Nat.le_of_ble_eq_true rfl) (Nat.le_of_ble_eq_true rfl) w_793 w_790 w_792 w_41 w_64 nm_X6_one rfl (Nat.le_of_ble_eq_true rfl) dX6_extract_169 (fun _ σ35 _ _ hf => ?_)
      refine v_incL hC hf 2 (fun x36 => [(2, .int x36), (0, .ref a0), (1, .int i1)]) dX6_extract_172 rfl (by decide) hN (Nat.le_of_ble_eq_true rfl) (fun _ => rfl) (fun x36 hf => ?_)
      refine v_goto (tgt := 147) hC dX6_extract_175 (by decide) ?_
      exact v_sub [(0, .ref a0), (1, .int i1), (2, .int x36)] [1, 2, 0] rfl (ih _ _ _ _ _ _ _ _ hf hE)
def E_X6_extract_L27 (K : Cq)  (y : Unit) (σ : St) (kr sr : Nat) : Prop := V K kr sr σ 227 [] []
set_option maxHeartbeats 4000000 in
set_option maxRecDepth 100000 in
theorem v_X6_extract_L27 {K : Cq} {k0 s0 : Nat} (hC : Cx K prog_8_method_37_code "TensMillModel") (hR : kR K = rmF 2 49 k0 s0) (hN : kn K = 3) {ko so : Nat} : ∀ (n : Nat) (σ : St) (a0 : Nat) (i1 : Int32) (y : Unit) (σf : St) (kr sr : Nat), f_X6_extract_L27 n σ a0 i1 = some (y, σf, kr, sr) → E_X6_extract_L27 K  y σf ko so → V K (kr + ko) (sr + so) σ 27 [(0, .ref a0), (1, .int i1)] [] := by
  intro n
  induction n with
  | zero =>
    intro σ a0 i1 y σf kr sr hf hE
    cases hf
  | succ n ih =>
    intro σ a0 i1 y σf kr sr hf hE
    replace hf : b_X6_extract_L27 (f_X6_extract_L27 n) σ a0 i1 = some (y, σf, kr, sr) := hf
    unfold b_X6_extract_L27 at hf
    refine v_iload_n hC 1 dX6_extract_27 rfl ?_
    refine v_if_lt hC hf dX6_extract_28 (tgt := 227) (by decide) (fun hf => ?_) (fun hf => ?_)
    · obtain ⟨hX, e1, e2⟩ := v_exE (E := E_X6_extract_L27 K ) hf hE
      rw [e1, e2]
      exact v_sub [] [] rfl hX
    · refine v_at 31 rfl ?_
      refine v_aload_n hC 0 dX6_extract_31 rfl ?_
      refine v_iconst (v := 2) hC dX6_extract_32 (by decide) ?_
      refine v_iload_n hC 1 dX6_extract_33 rfl ?_
      refine v_imul hC dX6_extract_34 ?_
      refine v_iconst (v := 1) hC dX6_extract_35 (by decide) ?_
      refine v_iadd hC dX6_extract_36 ?_
      refine v_aload_n hC 0 dX6_extract_37 rfl ?_
      refine v_getR hC (host := "") hf fd_6_5 w_663 dX6_extract_38 (fun r9 hf => ?_)
      refine v_at 41 rfl ?_
      refine v_iconst (v := 0) hC dX6_extract_41 (by decide) ?_
      refine v_ldI hC hf dX6_extract_42 (fun x10 hf => ?_)
      refine v_jnE hf (fun z11 kr sr => V K (kr + ko) (sr + so) σ 62 [(0, .ref a0), (1, .int i1)] [.int z11, .ref a0]) (fun z11 _ _ hf => ?_) (fun k11 hk11 hf => ?_)
      · refine v_cVE hC (y := y_X6_bring) (ci := 6) [.int z11] [] (fun _ => none) (fun _ => []) hf (fun _ _ _ _ h => m_X6_bring h) rfl (fun _ => rfl) rfl rfl hR (Nat.le_of_ble_eq_true rfl) (Nat.le_of_ble_eq_true rfl) w_844 w_841 w_843 w_49 w_64 nm_X6_bring rfl (Nat.le_of_ble_eq_true rfl) dX6_extract_62 (fun _ σ12 _ _ hf => ?_)
        refine v_aload_n hC 0 dX6_extract_65 rfl ?_
        refine v_aload_n hC 0 dX6_extract_66 rfl ?_
        refine v_getR hC (host := "") hf fd_6_4 w_662 dX6_extract_67 (fun r13 hf => ?_)
        refine v_iconst (v := 0) hC dX6_extract_70 (by decide) ?_
        refine v_iconst (v := 2) hC dX6_extract_71 (by decide) ?_
        refine v_iload_n hC 1 dX6_extract_72 rfl ?_
        refine v_imul hC dX6_extract_73 ?_
        refine v_at 74 rfl ?_
        refine v_iadd hC dX6_extract_74 ?_
        refine v_ldI hC hf dX6_extract_75 (fun x14 hf => ?_)
        refine v_cVE hC (y := y_X6_bring) (ci := 6) [.int x14] [] (fun _ => none) (fun _ => []) hf (fun _ _ _ _ h => m_X6_bring h) rfl (fun _ => rfl) rfl rfl hR (Nat.le_of_ble_eq_true rfl) (Nat.le_of_ble_eq_true rfl) w_844 w_841 w_843 w_49 w_64 nm_X6_bring rfl (Nat.le_of_ble_eq_true rfl) dX6_extract_76 (fun _ σ15 _ _ hf => ?_)
        refine v_aload_n hC 0 dX6_extract_79 rfl ?_
        refine v_getR hC (host := "") hf fd_6_5 w_663 dX6_extract_80 (fun r16 hf => ?_)
        refine v_iconst (v := 1) hC dX6_extract_83 (by decide) ?_
        refine v_aload_n hC 0 dX6_extract_84 rfl ?_
        refine v_getR hC (host := "") hf fd_6_5 w_663 dX6_extract_85 (fun r17 hf => ?_)
        refine v_at 88 rfl ?_
        refine v_iconst (v := 2) hC dX6_extract_88 (by decide) ?_
        refine v_ldI hC hf dX6_extract_89 (fun x18 hf => ?_)
        refine v_stI hC hf dX6_extract_90 (fun σ19 hf => ?_)
        refine v_iconst (v := 0) hC dX6_extract_91 (by decide) ?_
        refine v_istore_n hC [(2, .int 0), (0, .ref a0), (1, .int i1)] dX6_extract_92 rfl hN (Nat.le_of_ble_eq_true rfl) rfl ?_
        refine v_at 93 rfl ?_
        refine v_sub [(0, .ref a0), (1, .int i1), (2, .int 0)] [1, 2, 0] rfl ?_
        refine v_lpE hf (E_X6_extract_L93 K a0 i1) (fun _ _ _ _ _ _ h hE => v_X6_extract_L93 hC hR hN _ _ _ _ _ _ _ _ _ h hE) (fun y27 σ28 _ _ hf => ?_)
        show V K _ _ σ28 128 [(0, .ref a0), (1, .int i1)] []
        refine v_aload_n hC 0 dX6_extract_128 rfl ?_
        refine v_iconst (v := 1) hC dX6_extract_129 (by decide) ?_
        refine v_iconst (v := 2) hC dX6_extract_130 (by decide) ?_
        refine v_cVE hC (y := y_X6_plus) (ci := 6) [.int 1, .int 2] [] (fun _ => none) (fun _ => []) hf (fun _ _ _ _ h => m_X6_plus h) rfl (fun _ => rfl) rfl rfl hR (Nat.le_of_ble_eq_true rfl) (Nat.le_of_ble_eq_true rfl) w_730 w_727 w_729 w_31 w_64 nm_X6_plus rfl (Nat.le_of_ble_eq_true rfl) dX6_extract_131 (fun _ σ29 _ _ hf => ?_)
        refine v_aload_n hC 0 dX6_extract_134 rfl ?_
        refine v_iconst (v := 1) hC dX6_extract_135 (by decide) ?_
        refine v_iconst (v := 1) hC dX6_extract_136 (by decide) ?_
        refine v_cVE hC (y := y_X6_raise) (ci := 6) [.int 1, .int 1] [] (fun _ => none) (fun _ => []) hf (fun _ _ _ _ h => m_X6_raise h) rfl (fun _ => rfl) rfl rfl hR (Nat.le_of_ble_eq_true rfl) (Nat.le_of_ble_eq_true rfl) w_726 w_723 w_725 w_30 w_64 nm_X6_raise rfl (Nat.le_of_ble_eq_true rfl) dX6_extract_137 (fun _ σ30 _ _ hf => ?_)
        refine v_at 140 rfl ?_
        refine v_aload_n hC 0 dX6_extract_140 rfl ?_
        refine v_iconst (v := 1) hC dX6_extract_141 (by decide) ?_
        refine v_cVE hC (y := y_X6_one) (ci := 6) [.int 1] [] (fun _ => none) (fun _ => []) hf (fun _ _ _ _ h => m_X6_one h) rfl (fun _ => rfl) rfl rfl hR (Nat.le_of_ble_eq_true rfl) (Nat.le_of_ble_eq_true rfl) w_793 w_790 w_792 w_41 w_64 nm_X6_one rfl (Nat.le_of_ble_eq_true rfl) dX6_extract_142 (fun _ σ31 _ _ hf => ?_)
        refine v_iconst (v := 0) hC dX6_extract_145 (by decide) ?_
        refine v_istore_n hC [(2, .int 0), (0, .ref a0), (1, .int i1)] dX6_extract_146 rfl hN (Nat.le_of_ble_eq_true rfl) rfl ?_
        refine v_at 147 rfl ?_
        refine v_sub [(0, .ref a0), (1, .int i1), (2, .int 0)] [1, 2, 0] rfl ?_
        refine v_lpE hf (E_X6_extract_L147 K a0 i1) (fun _ _ _ _ _ _ h hE => v_X6_extract_L147 hC hR hN _ _ _ _ _ _ _ _ _ h hE) (fun y37 σ38 _ _ hf => ?_)
        show V K _ _ σ38 178 [(0, .ref a0), (1, .int i1), (2, .int y37)] []
        refine v_aload_n hC 0 dX6_extract_178 rfl ?_
        refine v_iconst (v := 2) hC dX6_extract_179 (by decide) ?_
        refine v_iconst (v := 1) hC dX6_extract_180 (by decide) ?_
        refine v_cVE hC (y := y_X6_raise) (ci := 6) [.int 2, .int 1] [] (fun _ => none) (fun _ => []) hf (fun _ _ _ _ h => m_X6_raise h) rfl (fun _ => rfl) rfl rfl hR (Nat.le_of_ble_eq_true rfl) (Nat.le_of_ble_eq_true rfl) w_726 w_723 w_725 w_30 w_64 nm_X6_raise rfl (Nat.le_of_ble_eq_true rfl) dX6_extract_181 (fun _ σ39 _ _ hf => ?_)
        refine v_aload_n hC 0 dX6_extract_184 rfl ?_
        refine v_getR hC (host := "") hf fd_6_5 w_663 dX6_extract_185 (fun r40 hf => ?_)
        refine v_iconst (v := 2) hC dX6_extract_188 (by decide) ?_
        refine v_ldI hC hf dX6_extract_189 (fun x41 hf => ?_)
        refine v_at 190 rfl ?_
        refine v_jnE hf (fun z42 kr sr => V K (kr + ko) (sr + so) z42 204 [(0, .ref a0), (1, .int i1), (2, .int y37)] []) (fun z42 _ _ hf => ?_) (fun k42 hk42 hf => ?_)
        · refine v_aload_n hC 0 dX6_extract_204 rfl ?_
          refine v_getR hC (host := "") hf fd_6_5 w_663 dX6_extract_205 (fun r43 hf => ?_)
          refine v_iconst (v := 2) hC dX6_extract_208 (by decide) ?_
          refine v_ldI hC hf dX6_extract_209 (fun x44 hf => ?_)
          refine v_jnE hf (fun z45 kr sr => V K (kr + ko) (sr + so) z45 221 [(0, .ref a0), (1, .int i1)] []) (fun z45 _ _ hf => ?_) (fun k45 hk45 hf => ?_)
          · refine v_incL hC hf 1 (fun x46 => [(1, .int x46), (0, .ref a0)]) dX6_extract_221 rfl (by decide) hN (Nat.le_of_ble_eq_true rfl) (fun _ => rfl) (fun x46 hf => ?_)
            refine v_goto (tgt := 27) hC dX6_extract_224 (by decide) ?_
            exact v_sub [(0, .ref a0), (1, .int x46)] [1, 0] rfl (ih _ _ _ _ _ _ _ hf hE)
          · refine v_if_le hC hf dX6_extract_210 (tgt := 221) (by decide) (fun hf => ?_) (fun hf => ?_)
            · exact v_sub [(0, .ref a0), (1, .int i1)] [0, 1] rfl (hk45 _ _ _ hf)
            · refine v_at 213 rfl ?_
              refine v_aload_n hC 0 dX6_extract_213 rfl ?_
              refine v_getR hC (host := "") hf fd_6_4 w_662 dX6_extract_214 (fun r47 hf => ?_)
              refine v_ldc hC dX6_extract_217 w_755 ?_
              refine v_iload_n hC 2 dX6_extract_219 rfl ?_
              refine v_stI hC hf dX6_extract_220 (fun σ48 hf => ?_)
              refine v_at 221 rfl ?_
              exact v_sub [(0, .ref a0), (1, .int i1)] [0, 1] rfl (hk45 _ _ _ hf)
        · refine v_if_ne hC hf dX6_extract_190 (tgt := 204) (by decide) (fun hf => ?_) (fun hf => ?_)
          · exact v_sub [(0, .ref a0), (1, .int i1), (2, .int y37)] [0, 1, 2] rfl (hk42 _ _ _ hf)
          · refine v_at 193 rfl ?_
            refine v_iload_n hC 2 dX6_extract_193 rfl ?_
            refine v_if_le hC hf dX6_extract_194 (tgt := 204) (by decide) (fun hf => ?_) (fun hf => ?_)
            · exact v_sub [(0, .ref a0), (1, .int i1), (2, .int y37)] [0, 1, 2] rfl (hk42 _ _ _ hf)
            · refine v_at 197 rfl ?_
              refine v_aload_n hC 0 dX6_extract_197 rfl ?_
              refine v_getR hC (host := "") hf fd_6_5 w_663 dX6_extract_198 (fun r49 hf => ?_)
              refine v_iconst (v := 2) hC dX6_extract_201 (by decide) ?_
              refine v_iconst (v := 1) hC dX6_extract_202 (by decide) ?_
              refine v_stI hC hf dX6_extract_203 (fun σ50 hf => ?_)
              refine v_at 204 rfl ?_
              exact v_sub [(0, .ref a0), (1, .int i1), (2, .int y37)] [0, 1, 2] rfl (hk42 _ _ _ hf)
      · refine v_icmp_ge hC hf dX6_extract_43 (tgt := 61) (by decide) (fun hf => ?_) (fun hf => ?_)
        · refine v_iconst (v := 0) hC dX6_extract_61 (by decide) ?_
          refine v_at 62 rfl ?_
          exact v_sub [(0, .ref a0), (1, .int i1)] [0, 1] rfl (hk11 _ _ _ hf)
        · refine v_at 46 rfl ?_
          refine v_aload_n hC 0 dX6_extract_46 rfl ?_
          refine v_getR hC (host := "") hf fd_6_4 w_662 dX6_extract_47 (fun r51 hf => ?_)
          refine v_iconst (v := 0) hC dX6_extract_50 (by decide) ?_
          refine v_iconst (v := 2) hC dX6_extract_51 (by decide) ?_
          refine v_iload_n hC 1 dX6_extract_52 rfl ?_
          refine v_imul hC dX6_extract_53 ?_
          refine v_iadd hC dX6_extract_54 ?_
          refine v_iconst (v := 1) hC dX6_extract_55 (by decide) ?_
          refine v_at 56 rfl ?_
          refine v_iadd hC dX6_extract_56 ?_
          refine v_ldI hC hf dX6_extract_57 (fun x52 hf => ?_)
          refine v_goto (tgt := 62) hC dX6_extract_58 (by decide) ?_
          exact v_sub [(0, .ref a0), (1, .int i1)] [0, 1] rfl (hk11 _ _ _ hf)
set_option maxHeartbeats 4000000 in
set_option maxRecDepth 100000 in
theorem m_X6_extract {G : Gm} {l : Launch} {σ : St} {a0 : Nat} {r : Unit} {σf : St} {k s : Nat} (hf : f_X6_extract σ a0 = some (r, σf, k, s)) : (∃ fs : List Value, σ.1 a0 = some (.inr (.inl (6, fs)))) ∧ Ct G l y_X6_extract prog_8_method_37_code 3 none 2 49 [.ref a0] σ none σf k s := by
  unfold f_X6_extract at hf
  obtain ⟨hob, hf⟩ := ob_some hf
  refine ⟨hob, Ct.ofV pl_X6_extract (Nat.le_of_ble_eq_true rfl) ?_⟩
  intro K hR hN hnm hC hE
  show V K (k + 0) (s + 0) σ 0 [(0, .ref a0)] []
  refine v_aload_n hC 0 dX6_extract_0 rfl ?_
  refine v_getR hC (host := "") hf fd_6_5 w_663 dX6_extract_1 (fun r1 hf => ?_)
  refine v_iconst (v := 2) hC dX6_extract_4 (by decide) ?_
  refine v_iconst (v := 0) hC dX6_extract_5 (by decide) ?_
  refine v_stI hC hf dX6_extract_6 (fun σ2 hf => ?_)
  refine v_aload_n hC 0 dX6_extract_7 rfl ?_
  refine v_getR hC (host := "") hf fd_6_5 w_663 dX6_extract_8 (fun r3 hf => ?_)
  refine v_iconst (v := 3) hC dX6_extract_11 (by decide) ?_
  refine v_at 12 rfl ?_
  refine v_iconst (v := 0) hC dX6_extract_12 (by decide) ?_
  refine v_stI hC hf dX6_extract_13 (fun σ4 hf => ?_)
  refine v_aload_n hC 0 dX6_extract_14 rfl ?_
  refine v_getR hC (host := "") hf fd_6_5 w_663 dX6_extract_15 (fun r5 hf => ?_)
  refine v_iconst (v := 0) hC dX6_extract_18 (by decide) ?_
  refine v_ldI hC hf dX6_extract_19 (fun x6 hf => ?_)
  refine v_iconst (v := 1) hC dX6_extract_20 (by decide) ?_
  refine v_iadd hC dX6_extract_21 ?_
  refine v_at 22 rfl ?_
  refine v_iconst (v := 2) hC dX6_extract_22 (by decide) ?_
  refine v_idiv hC hf dX6_extract_23 (fun x7 hf => ?_)
  refine v_iconst (v := 1) hC dX6_extract_24 (by decide) ?_
  refine v_isub hC dX6_extract_25 ?_
  refine v_ltI hf (fun x8 hf => ?_)
  refine v_istore_n hC [(1, .int x8), (0, .ref a0)] dX6_extract_26 rfl hN (Nat.le_of_ble_eq_true rfl) rfl ?_
  refine v_at 27 rfl ?_
  refine v_sub [(0, .ref a0), (1, .int x8)] [1, 0] rfl ?_
  refine v_lpE hf (E_X6_extract_L27 K ) (fun _ _ _ _ _ _ h hE => v_X6_extract_L27 hC hR hN _ _ _ _ _ _ _ _ h hE) (fun y53 σ54 _ _ hf => ?_)
  show V K _ _ σ54 227 [] []
  exact v_retV hC hf hE dX6_extract_227
set_option maxHeartbeats 4000000 in
set_option maxRecDepth 100000 in
theorem m_X6_root {G : Gm} {l : Launch} {σ : St} {a0 : Nat} {i1 : Int32} {i2 : Int32} {i3 : Int32} {i4 : Int32} {r : Int32} {σf : St} {k s : Nat} (hf : f_X6_root σ a0 i1 i2 i3 i4 = some (r, σf, k, s)) : (∃ fs : List Value, σ.1 a0 = some (.inr (.inl (6, fs)))) ∧ Ct G l y_X6_root prog_8_method_36_code 12 (some .boolean) 3 71 [.ref a0, .int i1, .int i2, .int i3, .int i4] σ (some (.int r)) σf k s := by
  unfold f_X6_root at hf
  obtain ⟨hob, hf⟩ := ob_some hf
  refine ⟨hob, Ct.ofV pl_X6_root (Nat.le_of_ble_eq_true rfl) ?_⟩
  intro K hR hN hnm hC hE
  show V K (k + 0) (s + 0) σ 0 [(0, .ref a0), (1, .int i1), (2, .int i2), (3, .int i3), (4, .int i4)] []
  refine v_iload_n hC 1 dX6_root_0 rfl ?_
  refine v_cSP hC (y := y_X6_is) [.int i1] [] (fun r => some (.int r)) (fun r => .int r :: []) hf (fun _ h => m_X6_is h) rfl (fun _ => rfl) hR (Nat.le_of_ble_eq_true rfl) (Nat.le_of_ble_eq_true rfl) w_698 w_696 w_697 w_64 nm_X6_is rfl (Nat.le_of_ble_eq_true rfl) dX6_root_1 (fun x1 hf => ?_)
  refine v_if_eq hC hf dX6_root_4 (tgt := 42) (by decide) (fun hf => ?_) (fun hf => ?_)
  · refine v_iconst (v := 0) hC dX6_root_42 (by decide) ?_
    exact v_retZ hC hf hE dX6_root_43
  · refine v_at 7 rfl ?_
    refine v_iload_n hC 2 dX6_root_7 rfl ?_
    refine v_cSP hC (y := y_X6_is) [.int i2] [] (fun r => some (.int r)) (fun r => .int r :: []) hf (fun _ h => m_X6_is h) rfl (fun _ => rfl) hR (Nat.le_of_ble_eq_true rfl) (Nat.le_of_ble_eq_true rfl) w_698 w_696 w_697 w_64 nm_X6_is rfl (Nat.le_of_ble_eq_true rfl) dX6_root_8 (fun x2 hf => ?_)
    refine v_if_eq hC hf dX6_root_11 (tgt := 42) (by decide) (fun hf => ?_) (fun hf => ?_)
    · refine v_iconst (v := 0) hC dX6_root_42 (by decide) ?_
      exact v_retZ hC hf hE dX6_root_43
    · refine v_at 14 rfl ?_
      refine v_iload_n hC 3 dX6_root_14 rfl ?_
      refine v_cSP hC (y := y_X6_isPrecision) [.int i3] [] (fun r => some (.int r)) (fun r => .int r :: []) hf (fun _ h => m_X6_isPrecision h) rfl (fun _ => rfl) hR (Nat.le_of_ble_eq_true rfl) (Nat.le_of_ble_eq_true rfl) w_800 w_798 w_799 w_64 nm_X6_isPrecision rfl (Nat.le_of_ble_eq_true rfl) dX6_root_15 (fun x3 hf => ?_)
      refine v_if_eq hC hf dX6_root_18 (tgt := 42) (by decide) (fun hf => ?_) (fun hf => ?_)
      · refine v_iconst (v := 0) hC dX6_root_42 (by decide) ?_
        exact v_retZ hC hf hE dX6_root_43
      · refine v_at 21 rfl ?_
        refine v_iload hC 4 dX6_root_21 rfl ?_
        refine v_cSP hC (y := y_X6_isRounding) [.int i4] [] (fun r => some (.int r)) (fun r => .int r :: []) hf (fun _ h => m_X6_isRounding h) rfl (fun _ => rfl) hR (Nat.le_of_ble_eq_true rfl) (Nat.le_of_ble_eq_true rfl) w_766 w_764 w_765 w_64 nm_X6_isRounding rfl (Nat.le_of_ble_eq_true rfl) dX6_root_23 (fun x4 hf => ?_)
        refine v_if_eq hC hf dX6_root_26 (tgt := 42) (by decide) (fun hf => ?_) (fun hf => ?_)
        · refine v_iconst (v := 0) hC dX6_root_42 (by decide) ?_
          exact v_retZ hC hf hE dX6_root_43
        · refine v_at 29 rfl ?_
          refine v_iload_n hC 3 dX6_root_29 rfl ?_
          refine v_if_eq hC hf dX6_root_30 (tgt := 42) (by decide) (fun hf => ?_) (fun hf => ?_)
          · refine v_iconst (v := 0) hC dX6_root_42 (by decide) ?_
            exact v_retZ hC hf hE dX6_root_43
          · refine v_at 33 rfl ?_
            refine v_aload_n hC 0 dX6_root_33 rfl ?_
            refine v_getR hC (host := "") hf fd_6_2 w_660 dX6_root_34 (fun r5 hf => ?_)
            refine v_iload_n hC 2 dX6_root_37 rfl ?_
            refine v_ldI hC hf dX6_root_38 (fun x6 hf => ?_)
            refine v_if_ge hC hf dX6_root_39 (tgt := 44) (by decide) (fun hf => ?_) (fun hf => ?_)
            · refine v_aload_n hC 0 dX6_root_44 rfl ?_
              refine v_getR hC (host := "") hf fd_6_3 w_661 dX6_root_45 (fun r7 hf => ?_)
              refine v_iload_n hC 2 dX6_root_48 rfl ?_
              refine v_ldI hC hf dX6_root_49 (fun x8 hf => ?_)
              refine v_iconst (v := 2) hC dX6_root_50 (by decide) ?_
              refine v_idiv hC hf dX6_root_51 (fun x9 hf => ?_)
              refine v_istore hC [(5, .int x9), (0, .ref a0), (1, .int i1), (2, .int i2), (3, .int i3), (4, .int i4)] dX6_root_52 hN (Nat.le_of_ble_eq_true rfl) rfl ?_
              refine v_aload_n hC 1 dX6_root_54 rfl ?_
              refine v_at 55 rfl ?_
              refine v_iconst (v := 0) hC dX6_root_55 (by decide) ?_
              refine v_iload_n hC 3 dX6_root_56 rfl ?_
              refine v_cVE hC (y := y_X6_load) (ci := 6) [.int 0, .int i2] [] (fun _ => none) (fun _ => []) hf (fun _ _ _ _ h => m_X6_load h) rfl (fun _ => rfl) rfl rfl hR (Nat.le_of_ble_eq_true rfl) (Nat.le_of_ble_eq_true rfl) w_713 w_710 w_712 w_28 w_64 nm_X6_load rfl (Nat.le_of_ble_eq_true rfl) dX6_root_57 (fun _ σ10 _ _ hf => ?_)
              refine v_aload_n hC 1 dX6_root_60 rfl ?_
              refine v_getR hC (host := "") hf fd_6_5 w_663 dX6_root_61 (fun r11 hf => ?_)
              refine v_iconst (v := 0) hC dX6_root_64 (by decide) ?_
              refine v_ldI hC hf dX6_root_65 (fun x12 hf => ?_)
              refine v_if_ne hC hf dX6_root_66 (tgt := 80) (by decide) (fun hf => ?_) (fun hf => ?_)
              · refine v_iload_n hC 4 dX6_root_80 rfl ?_
                refine v_i2l hC dX6_root_81 ?_
                refine v_aload_n hC 1 dX6_root_82 rfl ?_
                refine v_getR hC (host := "") hf fd_6_1 w_659 dX6_root_83 (fun r13 hf => ?_)
                refine v_iload_n hC 3 dX6_root_86 rfl ?_
                refine v_ldI hC hf dX6_root_87 (fun x14 hf => ?_)
                refine v_i2l hC dX6_root_88 ?_
                refine v_lconst (v := 1) hC dX6_root_89 (by decide) ?_
                refine v_at 90 rfl ?_
                refine v_lsub hC dX6_root_90 ?_
                refine v_aload_n hC 1 dX6_root_91 rfl ?_
                refine v_getR hC (host := "") hf fd_6_3 w_661 dX6_root_92 (fun r15 hf => ?_)
                refine v_iload_n hC 3 dX6_root_95 rfl ?_
                refine v_ldI hC hf dX6_root_96 (fun x16 hf => ?_)
                refine v_i2l hC dX6_root_97 ?_
                refine v_lsub hC dX6_root_98 ?_
                refine v_cSP hC (y := y_X6_half) [.long ((((x14 : Int32).toInt64) - 1) - ((x16 : Int32).toInt64))] [.long ((i3 : Int32).toInt64)] (fun r => some (.long r)) (fun r => .long r :: [.long ((i3 : Int32).toInt64)]) hf (fun _ h => m_X6_half h) rfl (fun _ => rfl) hR (Nat.le_of_ble_eq_true rfl) (Nat.le_of_ble_eq_true rfl) w_835 w_833 w_834 w_64 nm_X6_half rfl (Nat.le_of_ble_eq_true rfl) dX6_root_99 (fun l17 hf => ?_)
                refine v_at 102 rfl ?_
                refine v_lsub hC dX6_root_102 ?_
                refine v_ltL hf (fun l18 hf => ?_)
                refine v_lstore hC [(6, .long l18), (5, .int x9), (0, .ref a0), (1, .int i1), (2, .int i2), (3, .int i3), (4, .int i4)] dX6_root_103 hN (Nat.le_of_ble_eq_true rfl) rfl ?_
                refine v_ldc2 hC dX6_root_105 w_836 ?_
                refine v_lload hC 0 dX6_root_108 rfl ?_
                refine v_lmul hC dX6_root_110 ?_
                refine v_aload_n hC 2 dX6_root_111 rfl ?_
                refine v_getR hC (host := "") hf fd_6_3 w_661 dX6_root_112 (fun r19 hf => ?_)
                refine v_iload_n hC 4 dX6_root_115 rfl ?_
                refine v_at 116 rfl ?_
                refine v_ldI hC hf dX6_root_116 (fun x20 hf => ?_)
                refine v_i2l hC dX6_root_117 ?_
                refine v_lsub hC dX6_root_118 ?_
                refine v_ltL hf (fun l21 hf => ?_)
                refine v_lstore hC [(8, .long l21), (6, .long l18), (5, .int x9), (0, .ref a0), (1, .int i1), (2, .int i2), (3, .int i3), (4, .int i4)] dX6_root_119 hN (Nat.le_of_ble_eq_true rfl) rfl ?_
                refine v_iconst (v := 0) hC dX6_root_121 (by decide) ?_
                refine v_istore hC [(10, .int 0), (8, .long l21), (6, .long l18), (5, .int x9), (0, .ref a0), (1, .int i1), (2, .int i2), (3, .int i3), (4, .int i4)] dX6_root_122 hN (Nat.le_of_ble_eq_true rfl) rfl ?_
                refine v_lload hC 1 dX6_root_124 rfl ?_
                refine v_lconst (v := 0) hC dX6_root_126 (by decide) ?_
                refine v_at 127 rfl ?_
                refine v_jnE hf (fun z22 kr sr => V K (kr + 0) (sr + 0) z22.2 164 [(0, .ref a0), (1, .int i1), (3, .int i3), (4, .int i4), (5, .int x9), (6, .long l18), (10, .int z22.1)] []) (fun z22 _ _ hf => ?_) (fun k22 hk22 hf => ?_)
                · refine v_aload_n hC 0 dX6_root_164 rfl ?_
                  refine v_cVE hC (y := y_X6_extract) (ci := 6) [] [] (fun _ => none) (fun _ => []) hf (fun _ _ _ _ h => m_X6_extract h) rfl (fun _ => rfl) rfl rfl hR (Nat.le_of_ble_eq_true rfl) (Nat.le_of_ble_eq_true rfl) w_840 w_837 w_839 w_48 w_64 nm_X6_extract rfl (Nat.le_of_ble_eq_true rfl) dX6_root_165 (fun _ σ23 _ _ hf => ?_)
                  refine v_iload hC 6 dX6_root_168 rfl ?_
                  refine v_jnE hf (fun z24 kr sr => V K (kr + 0) (sr + 0) σ23 187 [(0, .ref a0), (1, .int i1), (3, .int i3), (4, .int i4), (5, .int x9), (6, .long l18)] [.int z24]) (fun z24 _ _ hf => ?_) (fun k24 hk24 hf => ?_)
                  · refine v_istore hC [(10, .int z24), (0, .ref a0), (1, .int i1), (3, .int i3), (4, .int i4), (5, .int x9), (6, .long l18)] dX6_root_187 hN (Nat.le_of_ble_eq_true rfl) rfl ?_
                    refine v_aload_n hC 1 dX6_root_189 rfl ?_
                    refine v_getR hC (host := "") hf fd_6_4 w_662 dX6_root_190 (fun r25 hf => ?_)
                    refine v_ldc hC dX6_root_193 w_755 ?_
                    refine v_ldI hC hf dX6_root_195 (fun x26 hf => ?_)
                    refine v_istore hC [(11, .int x26), (10, .int z24), (0, .ref a0), (1, .int i1), (3, .int i3), (4, .int i4), (5, .int x9), (6, .long l18)] dX6_root_196 hN (Nat.le_of_ble_eq_true rfl) rfl ?_
                    refine v_aload_n hC 2 dX6_root_198 rfl ?_
                    refine v_iconst (v := 2) hC dX6_root_199 (by decide) ?_
                    refine v_at 200 rfl ?_
                    refine v_lconst (v := 1) hC dX6_root_200 (by decide) ?_
                    refine v_cVE hC (y := y_X6_lower) (ci := 6) [.int 2, .long 1] [] (fun _ => none) (fun _ => []) hf (fun _ _ _ _ h => m_X6_lower h) rfl (fun _ => rfl) rfl rfl hR (Nat.le_of_ble_eq_true rfl) (Nat.le_of_ble_eq_true rfl) w_808 w_805 w_807 w_43 w_64 nm_X6_lower rfl (Nat.le_of_ble_eq_true rfl) dX6_root_201 (fun _ σ27 _ _ hf => ?_)
                    refine v_aload_n hC 2 dX6_root_204 rfl ?_
                    refine v_iload hC 0 dX6_root_205 rfl ?_
                    refine v_iconst (v := 5) hC dX6_root_207 (by decide) ?_
                    refine v_jnE hf (fun z28 kr sr => V K (kr + 0) (sr + 0) σ27 251 [(0, .ref a0), (1, .int i1), (3, .int i3), (4, .int i4), (5, .int x9), (6, .long l18)] [.int z28, .ref a0]) (fun z28 _ _ hf => ?_) (fun k28 hk28 hf => ?_)
                    · refine v_put hC hf fd_6_6 w_664 rfl rfl dX6_root_251 (fun σ29 hf => ?_)
                      refine v_lload hC 5 dX6_root_254 rfl ?_
                      refine v_lconst (v := 1) hC dX6_root_256 (by decide) ?_
                      refine v_lsub hC dX6_root_257 ?_
                      refine v_ltL hf (fun l30 hf => ?_)
                      refine v_lstore hC [(6, .long l30), (0, .ref a0), (1, .int i1), (3, .int i3), (4, .int i4), (5, .int x9)] dX6_root_258 hN (Nat.le_of_ble_eq_true rfl) rfl ?_
                      refine v_aload_n hC 1 dX6_root_260 rfl ?_
                      refine v_getI hC (host := "") hf fd_6_6 w_664 dX6_root_261 (fun x31 hf => ?_)
                      refine v_if_le hC hf dX6_root_264 (tgt := 280) (by decide) (fun hf => ?_) (fun hf => ?_)
                      · refine v_aload_n hC 1 dX6_root_280 rfl ?_
                        refine v_iload_n hC 2 dX6_root_281 rfl ?_
                        refine v_iconst (v := 1) hC dX6_root_282 (by decide) ?_
                        refine v_lload hC 0 dX6_root_283 rfl ?_
                        refine v_iload hC 5 dX6_root_285 rfl ?_
                        refine v_i2l hC dX6_root_287 ?_
                        refine v_iload_n hC 3 dX6_root_288 rfl ?_
                        refine v_cVE hC (y := y_X6_settle) (ci := 6) [.int i1, .int 1, .long l30, .long ((x9 : Int32).toInt64), .int i3] [] (fun r => some (.int r)) (fun r => .int r :: []) hf (fun _ _ _ _ h => m_X6_settle h) rfl (fun _ => rfl) rfl rfl hR (Nat.le_of_ble_eq_true rfl) (Nat.le_of_ble_eq_true rfl) w_816 w_813 w_815 w_45 w_64 nm_X6_settle rfl (Nat.le_of_ble_eq_true rfl) dX6_root_289 (fun x32 σ33 _ _ hf => ?_)
                        refine v_at 292 rfl ?_
                        exact v_retZ hC hf hE dX6_root_292
                      · refine v_at 267 rfl ?_
                        refine v_aload_n hC 1 dX6_root_267 rfl ?_
                        refine v_iload_n hC 2 dX6_root_268 rfl ?_
                        refine v_iconst (v := 2) hC dX6_root_269 (by decide) ?_
                        refine v_iconst (v := 1) hC dX6_root_270 (by decide) ?_
                        refine v_lload hC 0 dX6_root_271 rfl ?_
                        refine v_iload hC 4 dX6_root_273 rfl ?_
                        refine v_iload_n hC 3 dX6_root_275 rfl ?_
                        refine v_cVE hC (y := y_X6_finishTo) (ci := 6) [.int i1, .int 2, .int 1, .long l30, .int i4, .int i3] [] (fun r => some (.int r)) (fun r => .int r :: []) hf (fun _ _ _ _ h => m_X6_finishTo h) rfl (fun _ => rfl) rfl rfl hR (Nat.le_of_ble_eq_true rfl) (Nat.le_of_ble_eq_true rfl) w_812 w_809 w_811 w_44 w_64 nm_X6_finishTo rfl (Nat.le_of_ble_eq_true rfl) dX6_root_276 (fun x34 σ35 _ _ hf => ?_)
                        refine v_at 279 rfl ?_
                        exact v_retZ hC hf hE dX6_root_279
                    · refine v_jnE hf (fun z36 kr sr => V K (kr + 0) (sr + 0) σ27 222 [(0, .ref a0), (1, .int i1), (3, .int i3), (4, .int i4), (5, .int x9), (6, .long l18)] [.ref a0]) (fun z36 _ _ hf => ?_) (fun k36 hk36 hf => ?_)
                      · refine v_iconst (v := 3) hC dX6_root_222 (by decide) ?_
                        refine v_goto (tgt := 251) hC dX6_root_223 (by decide) ?_
                        exact v_sub [(0, .ref a0), (1, .int i1), (3, .int i3), (4, .int i4), (5, .int x9), (6, .long l18)] [0, 1, 2, 3, 4, 5] rfl (hk28 _ _ _ hf)
                      · refine v_icmp_gt hC hf dX6_root_208 (tgt := 222) (by decide) (fun hf => ?_) (fun hf => ?_)
                        · exact v_sub [(0, .ref a0), (1, .int i1), (3, .int i3), (4, .int i4), (5, .int x9), (6, .long l18)] [2, 3, 4, 5, 6, 7] rfl (hk36 _ _ _ hf)
                        · refine v_at 211 rfl ?_
                          refine v_iload hC 0 dX6_root_211 rfl ?_
                          refine v_iconst (v := 5) hC dX6_root_213 (by decide) ?_
                          refine v_jnE hf (fun z37 kr sr => V K (kr + 0) (sr + 0) σ27 226 [(0, .ref a0), (1, .int i1), (3, .int i3), (4, .int i4), (5, .int x9), (6, .long l18), (10, .int z24), (11, .int x26)] [.ref a0]) (fun z37 _ _ hf => ?_) (fun k37 hk37 hf => ?_)
                          · refine v_iload hC 7 dX6_root_226 rfl ?_
                            refine v_iconst (v := 5) hC dX6_root_228 (by decide) ?_
                            refine v_icmp_ne hC hf dX6_root_229 (tgt := 236) (by decide) (fun hf => ?_) (fun hf => ?_)
                            · refine v_iload hC 7 dX6_root_236 rfl ?_
                              refine v_jnE hf (fun z38 kr sr => V K (kr + 0) (sr + 0) σ27 246 [(0, .ref a0), (1, .int i1), (3, .int i3), (4, .int i4), (5, .int x9), (6, .long l18)] [.ref a0]) (fun z38 _ _ hf => ?_) (fun k38 hk38 hf => ?_)
                              · refine v_iconst (v := 1) hC dX6_root_246 (by decide) ?_
                                refine v_goto (tgt := 251) hC dX6_root_247 (by decide) ?_
                                exact v_sub [(0, .ref a0), (1, .int i1), (3, .int i3), (4, .int i4), (5, .int x9), (6, .long l18)] [0, 1, 2, 3, 4, 5] rfl (hk28 _ _ _ hf)
                              · refine v_if_gt hC hf dX6_root_238 (tgt := 246) (by decide) (fun hf => ?_) (fun hf => ?_)
                                · exact v_sub [(0, .ref a0), (1, .int i1), (3, .int i3), (4, .int i4), (5, .int x9), (6, .long l18)] [0, 1, 2, 3, 4, 5] rfl (hk38 _ _ _ hf)
                                · refine v_at 241 rfl ?_
                                  refine v_iload hC 6 dX6_root_241 rfl ?_
                                  refine v_if_eq hC hf dX6_root_243 (tgt := 250) (by decide) (fun hf => ?_) (fun hf => ?_)
                                  · refine v_iconst (v := 0) hC dX6_root_250 (by decide) ?_
                                    refine v_at 251 rfl ?_
                                    exact v_sub [(0, .ref a0), (1, .int i1), (3, .int i3), (4, .int i4), (5, .int x9), (6, .long l18)] [0, 1, 2, 3, 4, 5] rfl (hk28 _ _ _ hf)
                                  · refine v_at 246 rfl ?_
                                    exact v_sub [(0, .ref a0), (1, .int i1), (3, .int i3), (4, .int i4), (5, .int x9), (6, .long l18)] [0, 1, 2, 3, 4, 5] rfl (hk38 _ _ _ hf)
                            · refine v_at 232 rfl ?_
                              refine v_iconst (v := 2) hC dX6_root_232 (by decide) ?_
                              refine v_goto (tgt := 251) hC dX6_root_233 (by decide) ?_
                              exact v_sub [(0, .ref a0), (1, .int i1), (3, .int i3), (4, .int i4), (5, .int x9), (6, .long l18)] [0, 1, 2, 3, 4, 5] rfl (hk28 _ _ _ hf)
                          · refine v_icmp_ne hC hf dX6_root_214 (tgt := 226) (by decide) (fun hf => ?_) (fun hf => ?_)
                            · exact v_sub [(0, .ref a0), (1, .int i1), (3, .int i3), (4, .int i4), (5, .int x9), (6, .long l18), (10, .int z24), (11, .int x26)] [2, 3, 4, 5, 6, 7, 1, 0] rfl (hk37 _ _ _ hf)
                            · refine v_at 217 rfl ?_
                              refine v_iload hC 1 dX6_root_217 rfl ?_
                              refine v_if_eq hC hf dX6_root_219 (tgt := 226) (by decide) (fun hf => ?_) (fun hf => ?_)
                              · exact v_sub [(0, .ref a0), (1, .int i1), (3, .int i3), (4, .int i4), (5, .int x9), (6, .long l18), (10, .int z24), (11, .int x26)] [2, 3, 4, 5, 6, 7, 1, 0] rfl (hk37 _ _ _ hf)
                              · refine v_at 222 rfl ?_
                                exact v_sub [(0, .ref a0), (1, .int i1), (3, .int i3), (4, .int i4), (5, .int x9), (6, .long l18)] [2, 3, 4, 5, 6, 7] rfl (hk36 _ _ _ hf)
                  · refine v_jnE hf (fun z39 kr sr => V K (kr + 0) (sr + 0) σ23 182 [(0, .ref a0), (1, .int i1), (3, .int i3), (4, .int i4), (5, .int x9), (6, .long l18)] []) (fun z39 _ _ hf => ?_) (fun k39 hk39 hf => ?_)
                    · refine v_iconst (v := 1) hC dX6_root_182 (by decide) ?_
                      refine v_goto (tgt := 187) hC dX6_root_183 (by decide) ?_
                      exact v_sub [(0, .ref a0), (1, .int i1), (3, .int i3), (4, .int i4), (5, .int x9), (6, .long l18)] [0, 1, 2, 3, 4, 5] rfl (hk24 _ _ _ hf)
                    · refine v_if_ne hC hf dX6_root_170 (tgt := 182) (by decide) (fun hf => ?_) (fun hf => ?_)
                      · exact v_sub [(0, .ref a0), (1, .int i1), (3, .int i3), (4, .int i4), (5, .int x9), (6, .long l18)] [0, 1, 2, 3, 4, 5] rfl (hk39 _ _ _ hf)
                      · refine v_at 173 rfl ?_
                        refine v_aload_n hC 0 dX6_root_173 rfl ?_
                        refine v_getR hC (host := "") hf fd_6_5 w_663 dX6_root_174 (fun r40 hf => ?_)
                        refine v_iconst (v := 3) hC dX6_root_177 (by decide) ?_
                        refine v_ldI hC hf dX6_root_178 (fun x41 hf => ?_)
                        refine v_if_le hC hf dX6_root_179 (tgt := 186) (by decide) (fun hf => ?_) (fun hf => ?_)
                        · refine v_iconst (v := 0) hC dX6_root_186 (by decide) ?_
                          refine v_at 187 rfl ?_
                          exact v_sub [(0, .ref a0), (1, .int i1), (3, .int i3), (4, .int i4), (5, .int x9), (6, .long l18)] [0, 1, 2, 3, 4, 5] rfl (hk24 _ _ _ hf)
                        · refine v_at 182 rfl ?_
                          exact v_sub [(0, .ref a0), (1, .int i1), (3, .int i3), (4, .int i4), (5, .int x9), (6, .long l18)] [0, 1, 2, 3, 4, 5] rfl (hk39 _ _ _ hf)
                · refine v_lcmp_lt hC hf dX6_root_127 dX6_root_128 (tgt := 142) (by decide) (fun hf => ?_) (fun hf => ?_)
                  · refine v_aload_n hC 4 dX6_root_142 rfl ?_
                    refine v_iconst (v := 0) hC dX6_root_143 (by decide) ?_
                    refine v_lload hC 1 dX6_root_144 rfl ?_
                    refine v_lneg hC dX6_root_146 ?_
                    refine v_cVE hC (y := y_X6_lower) (ci := 6) [.int 0, .long (-l21)] [] (fun _ => none) (fun _ => []) hf (fun _ _ _ _ h => m_X6_lower h) rfl (fun _ => rfl) rfl rfl hR (Nat.le_of_ble_eq_true rfl) (Nat.le_of_ble_eq_true rfl) w_808 w_805 w_807 w_43 w_64 nm_X6_lower rfl (Nat.le_of_ble_eq_true rfl) dX6_root_147 (fun _ σ42 _ _ hf => ?_)
                    refine v_aload_n hC 4 dX6_root_150 rfl ?_
                    refine v_getI hC (host := "") hf fd_6_6 w_664 dX6_root_151 (fun x43 hf => ?_)
                    refine v_jnE hf (fun z44 kr sr => V K (kr + 0) (sr + 0) σ42 162 [(0, .ref a0), (1, .int i1), (3, .int i3), (4, .int i4), (5, .int x9), (6, .long l18)] [.int z44]) (fun z44 _ _ hf => ?_) (fun k44 hk44 hf => ?_)
                    · refine v_istore hC [(10, .int z44), (0, .ref a0), (1, .int i1), (3, .int i3), (4, .int i4), (5, .int x9), (6, .long l18)] dX6_root_162 hN (Nat.le_of_ble_eq_true rfl) rfl ?_
                      refine v_at 164 rfl ?_
                      exact v_sub [(0, .ref a0), (1, .int i1), (3, .int i3), (4, .int i4), (5, .int x9), (6, .long l18), (10, .int z44)] [1, 2, 3, 4, 5, 6, 0] rfl (hk22 _ _ _ hf)
                    · refine v_if_le hC hf dX6_root_154 (tgt := 161) (by decide) (fun hf => ?_) (fun hf => ?_)
                      · refine v_iconst (v := 0) hC dX6_root_161 (by decide) ?_
                        refine v_at 162 rfl ?_
                        exact v_sub [(0, .ref a0), (1, .int i1), (3, .int i3), (4, .int i4), (5, .int x9), (6, .long l18)] [4, 5, 7, 8, 3, 2] rfl (hk44 _ _ _ hf)
                      · refine v_at 157 rfl ?_
                        refine v_iconst (v := 1) hC dX6_root_157 (by decide) ?_
                        refine v_goto (tgt := 162) hC dX6_root_158 (by decide) ?_
                        exact v_sub [(0, .ref a0), (1, .int i1), (3, .int i3), (4, .int i4), (5, .int x9), (6, .long l18)] [4, 5, 7, 8, 3, 2] rfl (hk44 _ _ _ hf)
                  · refine v_at 131 rfl ?_
                    refine v_aload_n hC 4 dX6_root_131 rfl ?_
                    refine v_iconst (v := 0) hC dX6_root_132 (by decide) ?_
                    refine v_lload hC 1 dX6_root_133 rfl ?_
                    refine v_l2i hC dX6_root_135 ?_
                    refine v_cVE hC (y := y_X6_raise) (ci := 6) [.int 0, .int ((l21 : Int64).toInt32)] [] (fun _ => none) (fun _ => []) hf (fun _ _ _ _ h => m_X6_raise h) rfl (fun _ => rfl) rfl rfl hR (Nat.le_of_ble_eq_true rfl) (Nat.le_of_ble_eq_true rfl) w_726 w_723 w_725 w_30 w_64 nm_X6_raise rfl (Nat.le_of_ble_eq_true rfl) dX6_root_136 (fun _ σ45 _ _ hf => ?_)
                    refine v_goto (tgt := 164) hC dX6_root_139 (by decide) ?_
                    exact v_sub [(0, .ref a0), (1, .int i1), (3, .int i3), (4, .int i4), (5, .int x9), (6, .long l18), (10, .int 0)] [4, 5, 7, 8, 3, 2, 0] rfl (hk22 _ _ _ hf)
              · refine v_at 69 rfl ?_
                refine v_aload_n hC 1 dX6_root_69 rfl ?_
                refine v_iload_n hC 2 dX6_root_70 rfl ?_
                refine v_iconst (v := 0) hC dX6_root_71 (by decide) ?_
                refine v_iconst (v := 0) hC dX6_root_72 (by decide) ?_
                refine v_iload hC 0 dX6_root_73 rfl ?_
                refine v_i2l hC dX6_root_75 ?_
                refine v_cVE hC (y := y_X6_store) (ci := 6) [.int i1, .int 0, .int 0, .long ((x9 : Int32).toInt64)] [] (fun r => some (.int r)) (fun r => .int r :: []) hf (fun _ _ _ _ h => m_X6_store h) rfl (fun _ => rfl) rfl rfl hR (Nat.le_of_ble_eq_true rfl) (Nat.le_of_ble_eq_true rfl) w_703 w_700 w_702 w_27 w_64 nm_X6_store rfl (Nat.le_of_ble_eq_true rfl) dX6_root_76 (fun x46 σ47 _ _ hf => ?_)
                exact v_retZ hC hf hE dX6_root_79
            · refine v_at 42 rfl ?_
              refine v_iconst (v := 0) hC dX6_root_42 (by decide) ?_
              exact v_retZ hC hf hE dX6_root_43
set_option maxHeartbeats 4000000 in
set_option maxRecDepth 100000 in
theorem m_X6_rescale {G : Gm} {l : Launch} {σ : St} {a0 : Nat} {i1 : Int32} {i2 : Int32} {i3 : Int32} {i4 : Int32} {r : Int32} {σf : St} {k s : Nat} (hf : f_X6_rescale σ a0 i1 i2 i3 i4 = some (r, σf, k, s)) : (∃ fs : List Value, σ.1 a0 = some (.inr (.inl (6, fs)))) ∧ Ct G l y_X6_rescale prog_8_method_39_code 7 (some .boolean) 2 52 [.ref a0, .int i1, .int i2, .int i3, .int i4] σ (some (.int r)) σf k s := by
  unfold f_X6_rescale at hf
  obtain ⟨hob, hf⟩ := ob_some hf
  refine ⟨hob, Ct.ofV pl_X6_rescale (Nat.le_of_ble_eq_true rfl) ?_⟩
  intro K hR hN hnm hC hE
  show V K (k + 0) (s + 0) σ 0 [(0, .ref a0), (1, .int i1), (2, .int i2), (3, .int i3), (4, .int i4)] []
  refine v_iload_n hC 1 dX6_rescale_0 rfl ?_
  refine v_cSP hC (y := y_X6_is) [.int i1] [] (fun r => some (.int r)) (fun r => .int r :: []) hf (fun _ h => m_X6_is h) rfl (fun _ => rfl) hR (Nat.le_of_ble_eq_true rfl) (Nat.le_of_ble_eq_true rfl) w_698 w_696 w_697 w_64 nm_X6_is rfl (Nat.le_of_ble_eq_true rfl) dX6_rescale_1 (fun x1 hf => ?_)
  refine v_if_eq hC hf dX6_rescale_4 (tgt := 22) (by decide) (fun hf => ?_) (fun hf => ?_)
  · refine v_iconst (v := 0) hC dX6_rescale_22 (by decide) ?_
    exact v_retZ hC hf hE dX6_rescale_23
  · refine v_at 7 rfl ?_
    refine v_iload_n hC 2 dX6_rescale_7 rfl ?_
    refine v_cSP hC (y := y_X6_is) [.int i2] [] (fun r => some (.int r)) (fun r => .int r :: []) hf (fun _ h => m_X6_is h) rfl (fun _ => rfl) hR (Nat.le_of_ble_eq_true rfl) (Nat.le_of_ble_eq_true rfl) w_698 w_696 w_697 w_64 nm_X6_is rfl (Nat.le_of_ble_eq_true rfl) dX6_rescale_8 (fun x2 hf => ?_)
    refine v_if_eq hC hf dX6_rescale_11 (tgt := 22) (by decide) (fun hf => ?_) (fun hf => ?_)
    · refine v_iconst (v := 0) hC dX6_rescale_22 (by decide) ?_
      exact v_retZ hC hf hE dX6_rescale_23
    · refine v_at 14 rfl ?_
      refine v_iload hC 4 dX6_rescale_14 rfl ?_
      refine v_cSP hC (y := y_X6_isRounding) [.int i4] [] (fun r => some (.int r)) (fun r => .int r :: []) hf (fun _ h => m_X6_isRounding h) rfl (fun _ => rfl) hR (Nat.le_of_ble_eq_true rfl) (Nat.le_of_ble_eq_true rfl) w_766 w_764 w_765 w_64 nm_X6_isRounding rfl (Nat.le_of_ble_eq_true rfl) dX6_rescale_16 (fun x3 hf => ?_)
      refine v_if_ne hC hf dX6_rescale_19 (tgt := 24) (by decide) (fun hf => ?_) (fun hf => ?_)
      · refine v_aload_n hC 0 dX6_rescale_24 rfl ?_
        refine v_iconst (v := 0) hC dX6_rescale_25 (by decide) ?_
        refine v_iload_n hC 2 dX6_rescale_26 rfl ?_
        refine v_cVE hC (y := y_X6_load) (ci := 6) [.int 0, .int i2] [] (fun _ => none) (fun _ => []) hf (fun _ _ _ _ h => m_X6_load h) rfl (fun _ => rfl) rfl rfl hR (Nat.le_of_ble_eq_true rfl) (Nat.le_of_ble_eq_true rfl) w_713 w_710 w_712 w_28 w_64 nm_X6_load rfl (Nat.le_of_ble_eq_true rfl) dX6_rescale_27 (fun _ σ4 _ _ hf => ?_)
        refine v_iload_n hC 3 dX6_rescale_30 rfl ?_
        refine v_i2l hC dX6_rescale_31 ?_
        refine v_aload_n hC 0 dX6_rescale_32 rfl ?_
        refine v_getR hC (host := "") hf fd_6_3 w_661 dX6_rescale_33 (fun r5 hf => ?_)
        refine v_at 36 rfl ?_
        refine v_iload_n hC 2 dX6_rescale_36 rfl ?_
        refine v_ldI hC hf dX6_rescale_37 (fun x6 hf => ?_)
        refine v_i2l hC dX6_rescale_38 ?_
        refine v_lsub hC dX6_rescale_39 ?_
        refine v_ltL hf (fun l7 hf => ?_)
        refine v_lstore hC [(5, .long l7), (0, .ref a0), (1, .int i1), (2, .int i2), (3, .int i3), (4, .int i4)] dX6_rescale_40 hN (Nat.le_of_ble_eq_true rfl) rfl ?_
        refine v_aload_n hC 1 dX6_rescale_42 rfl ?_
        refine v_iconst (v := 0) hC dX6_rescale_43 (by decide) ?_
        refine v_put hC hf fd_6_6 w_664 rfl rfl dX6_rescale_44 (fun σ8 hf => ?_)
        refine v_at 47 rfl ?_
        refine v_aload_n hC 1 dX6_rescale_47 rfl ?_
        refine v_getR hC (host := "") hf fd_6_5 w_663 dX6_rescale_48 (fun r9 hf => ?_)
        refine v_iconst (v := 0) hC dX6_rescale_51 (by decide) ?_
        refine v_ldI hC hf dX6_rescale_52 (fun x10 hf => ?_)
        refine v_jnE hf (fun z11 kr sr => V K (kr + 0) (sr + 0) σ8 75 [(0, .ref a0), (1, .int i1), (2, .int i2), (3, .int i3), (4, .int i4), (5, .long l7)] []) (fun z11 _ _ hf => ?_) (fun k11 hk11 hf => ?_)
        · refine v_lload hC 5 dX6_rescale_75 rfl ?_
          refine v_lconst (v := 0) hC dX6_rescale_77 (by decide) ?_
          refine v_jnE hf (fun z12 kr sr => V K (kr + 0) (sr + 0) z12 110 [(0, .ref a0), (1, .int i1), (2, .int i2), (3, .int i3), (4, .int i4)] []) (fun z12 _ _ hf => ?_) (fun k12 hk12 hf => ?_)
          · refine v_aload_n hC 0 dX6_rescale_110 rfl ?_
            refine v_iload_n hC 1 dX6_rescale_111 rfl ?_
            refine v_iconst (v := 0) hC dX6_rescale_112 (by decide) ?_
            refine v_aload_n hC 0 dX6_rescale_113 rfl ?_
            refine v_getR hC (host := "") hf fd_6_2 w_660 dX6_rescale_114 (fun r13 hf => ?_)
            refine v_iload_n hC 2 dX6_rescale_117 rfl ?_
            refine v_ldI hC hf dX6_rescale_118 (fun x14 hf => ?_)
            refine v_iload_n hC 3 dX6_rescale_119 rfl ?_
            refine v_at 120 rfl ?_
            refine v_i2l hC dX6_rescale_120 ?_
            refine v_iload hC 4 dX6_rescale_121 rfl ?_
            refine v_cVE hC (y := y_X6_finish) (ci := 6) [.int i1, .int 0, .int x14, .long ((i3 : Int32).toInt64), .int i4] [] (fun r => some (.int r)) (fun r => .int r :: []) hf (fun _ _ _ _ h => m_X6_finish h) rfl (fun _ => rfl) rfl rfl hR (Nat.le_of_ble_eq_true rfl) (Nat.le_of_ble_eq_true rfl) w_785 w_782 w_784 w_39 w_64 nm_X6_finish rfl (Nat.le_of_ble_eq_true rfl) dX6_rescale_123 (fun x15 σ16 _ _ hf => ?_)
            exact v_retZ hC hf hE dX6_rescale_126
          · refine v_jnE hf (fun z17 kr sr => V K (kr + 0) (sr + 0) σ8 102 [(0, .ref a0), (1, .int i1), (2, .int i2), (3, .int i3), (4, .int i4), (5, .long l7)] []) (fun z17 _ _ hf => ?_) (fun k17 hk17 hf => ?_)
            · refine v_aload_n hC 0 dX6_rescale_102 rfl ?_
              refine v_iconst (v := 0) hC dX6_rescale_103 (by decide) ?_
              refine v_lload hC 5 dX6_rescale_104 rfl ?_
              refine v_lneg hC dX6_rescale_106 ?_
              refine v_cVE hC (y := y_X6_lower) (ci := 6) [.int 0, .long (-l7)] [] (fun _ => none) (fun _ => []) hf (fun _ _ _ _ h => m_X6_lower h) rfl (fun _ => rfl) rfl rfl hR (Nat.le_of_ble_eq_true rfl) (Nat.le_of_ble_eq_true rfl) w_808 w_805 w_807 w_43 w_64 nm_X6_lower rfl (Nat.le_of_ble_eq_true rfl) dX6_rescale_107 (fun _ σ18 _ _ hf => ?_)
              refine v_at 110 rfl ?_
              exact v_sub [(0, .ref a0), (1, .int i1), (2, .int i2), (3, .int i3), (4, .int i4)] [0, 1, 2, 3, 4] rfl (hk12 _ _ _ hf)
            · refine v_lcmp_le hC hf dX6_rescale_78 dX6_rescale_79 (tgt := 102) (by decide) (fun hf => ?_) (fun hf => ?_)
              · exact v_sub [(0, .ref a0), (1, .int i1), (2, .int i2), (3, .int i3), (4, .int i4), (5, .long l7)] [0, 1, 2, 3, 4, 5] rfl (hk17 _ _ _ hf)
              · refine v_at 82 rfl ?_
                refine v_aload_n hC 0 dX6_rescale_82 rfl ?_
                refine v_getR hC (host := "") hf fd_6_5 w_663 dX6_rescale_83 (fun r19 hf => ?_)
                refine v_iconst (v := 0) hC dX6_rescale_86 (by decide) ?_
                refine v_ldI hC hf dX6_rescale_87 (fun x20 hf => ?_)
                refine v_if_le hC hf dX6_rescale_88 (tgt := 102) (by decide) (fun hf => ?_) (fun hf => ?_)
                · exact v_sub [(0, .ref a0), (1, .int i1), (2, .int i2), (3, .int i3), (4, .int i4), (5, .long l7)] [0, 1, 2, 3, 4, 5] rfl (hk17 _ _ _ hf)
                · refine v_at 91 rfl ?_
                  refine v_aload_n hC 0 dX6_rescale_91 rfl ?_
                  refine v_iconst (v := 0) hC dX6_rescale_92 (by decide) ?_
                  refine v_lload hC 5 dX6_rescale_93 rfl ?_
                  refine v_l2i hC dX6_rescale_95 ?_
                  refine v_cVE hC (y := y_X6_raise) (ci := 6) [.int 0, .int ((l7 : Int64).toInt32)] [] (fun _ => none) (fun _ => []) hf (fun _ _ _ _ h => m_X6_raise h) rfl (fun _ => rfl) rfl rfl hR (Nat.le_of_ble_eq_true rfl) (Nat.le_of_ble_eq_true rfl) w_726 w_723 w_725 w_30 w_64 nm_X6_raise rfl (Nat.le_of_ble_eq_true rfl) dX6_rescale_96 (fun _ σ21 _ _ hf => ?_)
                  refine v_goto (tgt := 110) hC dX6_rescale_99 (by decide) ?_
                  exact v_sub [(0, .ref a0), (1, .int i1), (2, .int i2), (3, .int i3), (4, .int i4)] [0, 1, 2, 3, 4] rfl (hk12 _ _ _ hf)
        · refine v_if_le hC hf dX6_rescale_53 (tgt := 75) (by decide) (fun hf => ?_) (fun hf => ?_)
          · exact v_sub [(0, .ref a0), (1, .int i1), (2, .int i2), (3, .int i3), (4, .int i4), (5, .long l7)] [1, 2, 3, 4, 5, 0] rfl (hk11 _ _ _ hf)
          · refine v_at 56 rfl ?_
            refine v_aload_n hC 1 dX6_rescale_56 rfl ?_
            refine v_getR hC (host := "") hf fd_6_5 w_663 dX6_rescale_57 (fun r22 hf => ?_)
            refine v_iconst (v := 0) hC dX6_rescale_60 (by decide) ?_
            refine v_ldI hC hf dX6_rescale_61 (fun x23 hf => ?_)
            refine v_i2l hC dX6_rescale_62 ?_
            refine v_lload hC 0 dX6_rescale_63 rfl ?_
            refine v_ladd hC dX6_rescale_65 ?_
            refine v_ldc2 hC dX6_rescale_66 w_767 ?_
            refine v_at 69 rfl ?_
            refine v_lcmp_le hC hf dX6_rescale_69 dX6_rescale_70 (tgt := 75) (by decide) (fun hf => ?_) (fun hf => ?_)
            · exact v_sub [(0, .ref a0), (1, .int i1), (2, .int i2), (3, .int i3), (4, .int i4), (5, .long l7)] [1, 2, 3, 4, 5, 0] rfl (hk11 _ _ _ hf)
            · refine v_at 73 rfl ?_
              refine v_iconst (v := 0) hC dX6_rescale_73 (by decide) ?_
              exact v_retZ hC hf hE dX6_rescale_74
      · refine v_at 22 rfl ?_
        refine v_iconst (v := 0) hC dX6_rescale_22 (by decide) ?_
        exact v_retZ hC hf hE dX6_rescale_23
set_option maxHeartbeats 4000000 in
set_option maxRecDepth 100000 in
theorem m_X6_round {G : Gm} {l : Launch} {σ : St} {a0 : Nat} {i1 : Int32} {i2 : Int32} {i3 : Int32} {i4 : Int32} {r : Int32} {σf : St} {k s : Nat} (hf : f_X6_round σ a0 i1 i2 i3 i4 = some (r, σf, k, s)) : (∃ fs : List Value, σ.1 a0 = some (.inr (.inl (6, fs)))) ∧ Ct G l y_X6_round prog_8_method_40_code 6 (some .boolean) 2 56 [.ref a0, .int i1, .int i2, .int i3, .int i4] σ (some (.int r)) σf k s := by
  unfold f_X6_round at hf
  obtain ⟨hob, hf⟩ := ob_some hf
  refine ⟨hob, Ct.ofV pl_X6_round (Nat.le_of_ble_eq_true rfl) ?_⟩
  intro K hR hN hnm hC hE
  show V K (k + 0) (s + 0) σ 0 [(0, .ref a0), (1, .int i1), (2, .int i2), (3, .int i3), (4, .int i4)] []
  refine v_iload_n hC 1 dX6_round_0 rfl ?_
  refine v_cSP hC (y := y_X6_is) [.int i1] [] (fun r => some (.int r)) (fun r => .int r :: []) hf (fun _ h => m_X6_is h) rfl (fun _ => rfl) hR (Nat.le_of_ble_eq_true rfl) (Nat.le_of_ble_eq_true rfl) w_698 w_696 w_697 w_64 nm_X6_is rfl (Nat.le_of_ble_eq_true rfl) dX6_round_1 (fun x1 hf => ?_)
  refine v_if_eq hC hf dX6_round_4 (tgt := 29) (by decide) (fun hf => ?_) (fun hf => ?_)
  · refine v_iconst (v := 0) hC dX6_round_29 (by decide) ?_
    exact v_retZ hC hf hE dX6_round_30
  · refine v_at 7 rfl ?_
    refine v_iload_n hC 2 dX6_round_7 rfl ?_
    refine v_cSP hC (y := y_X6_is) [.int i2] [] (fun r => some (.int r)) (fun r => .int r :: []) hf (fun _ h => m_X6_is h) rfl (fun _ => rfl) hR (Nat.le_of_ble_eq_true rfl) (Nat.le_of_ble_eq_true rfl) w_698 w_696 w_697 w_64 nm_X6_is rfl (Nat.le_of_ble_eq_true rfl) dX6_round_8 (fun x2 hf => ?_)
    refine v_if_eq hC hf dX6_round_11 (tgt := 29) (by decide) (fun hf => ?_) (fun hf => ?_)
    · refine v_iconst (v := 0) hC dX6_round_29 (by decide) ?_
      exact v_retZ hC hf hE dX6_round_30
    · refine v_at 14 rfl ?_
      refine v_iload_n hC 3 dX6_round_14 rfl ?_
      refine v_cSP hC (y := y_X6_isPrecision) [.int i3] [] (fun r => some (.int r)) (fun r => .int r :: []) hf (fun _ h => m_X6_isPrecision h) rfl (fun _ => rfl) hR (Nat.le_of_ble_eq_true rfl) (Nat.le_of_ble_eq_true rfl) w_800 w_798 w_799 w_64 nm_X6_isPrecision rfl (Nat.le_of_ble_eq_true rfl) dX6_round_15 (fun x3 hf => ?_)
      refine v_if_eq hC hf dX6_round_18 (tgt := 29) (by decide) (fun hf => ?_) (fun hf => ?_)
      · refine v_iconst (v := 0) hC dX6_round_29 (by decide) ?_
        exact v_retZ hC hf hE dX6_round_30
      · refine v_at 21 rfl ?_
        refine v_iload hC 4 dX6_round_21 rfl ?_
        refine v_cSP hC (y := y_X6_isRounding) [.int i4] [] (fun r => some (.int r)) (fun r => .int r :: []) hf (fun _ h => m_X6_isRounding h) rfl (fun _ => rfl) hR (Nat.le_of_ble_eq_true rfl) (Nat.le_of_ble_eq_true rfl) w_766 w_764 w_765 w_64 nm_X6_isRounding rfl (Nat.le_of_ble_eq_true rfl) dX6_round_23 (fun x4 hf => ?_)
        refine v_if_ne hC hf dX6_round_26 (tgt := 31) (by decide) (fun hf => ?_) (fun hf => ?_)
        · refine v_aload_n hC 0 dX6_round_31 rfl ?_
          refine v_iconst (v := 0) hC dX6_round_32 (by decide) ?_
          refine v_iload_n hC 2 dX6_round_33 rfl ?_
          refine v_cVE hC (y := y_X6_load) (ci := 6) [.int 0, .int i2] [] (fun _ => none) (fun _ => []) hf (fun _ _ _ _ h => m_X6_load h) rfl (fun _ => rfl) rfl rfl hR (Nat.le_of_ble_eq_true rfl) (Nat.le_of_ble_eq_true rfl) w_713 w_710 w_712 w_28 w_64 nm_X6_load rfl (Nat.le_of_ble_eq_true rfl) dX6_round_34 (fun _ σ5 _ _ hf => ?_)
          refine v_iload_n hC 3 dX6_round_37 rfl ?_
          refine v_jnE hf (fun z6 kr sr => V K (kr + 0) (sr + 0) σ5 51 [(0, .ref a0), (1, .int i1), (2, .int i2)] []) (fun z6 _ _ hf => ?_) (fun k6 hk6 hf => ?_)
          · refine v_aload_n hC 0 dX6_round_51 rfl ?_
            refine v_iload_n hC 1 dX6_round_52 rfl ?_
            refine v_iconst (v := 0) hC dX6_round_53 (by decide) ?_
            refine v_aload_n hC 0 dX6_round_54 rfl ?_
            refine v_getR hC (host := "") hf fd_6_2 w_660 dX6_round_55 (fun r7 hf => ?_)
            refine v_iload_n hC 2 dX6_round_58 rfl ?_
            refine v_ldI hC hf dX6_round_59 (fun x8 hf => ?_)
            refine v_aload_n hC 0 dX6_round_60 rfl ?_
            refine v_at 61 rfl ?_
            refine v_getR hC (host := "") hf fd_6_3 w_661 dX6_round_61 (fun r9 hf => ?_)
            refine v_iload_n hC 2 dX6_round_64 rfl ?_
            refine v_ldI hC hf dX6_round_65 (fun x10 hf => ?_)
            refine v_i2l hC dX6_round_66 ?_
            refine v_cVE hC (y := y_X6_store) (ci := 6) [.int i1, .int 0, .int x8, .long ((x10 : Int32).toInt64)] [] (fun r => some (.int r)) (fun r => .int r :: []) hf (fun _ _ _ _ h => m_X6_store h) rfl (fun _ => rfl) rfl rfl hR (Nat.le_of_ble_eq_true rfl) (Nat.le_of_ble_eq_true rfl) w_703 w_700 w_702 w_27 w_64 nm_X6_store rfl (Nat.le_of_ble_eq_true rfl) dX6_round_67 (fun x11 σ12 _ _ hf => ?_)
            exact v_retZ hC hf hE dX6_round_70
          · refine v_if_eq hC hf dX6_round_38 (tgt := 51) (by decide) (fun hf => ?_) (fun hf => ?_)
            · exact v_sub [(0, .ref a0), (1, .int i1), (2, .int i2)] [0, 1, 2] rfl (hk6 _ _ _ hf)
            · refine v_at 41 rfl ?_
              refine v_aload_n hC 0 dX6_round_41 rfl ?_
              refine v_getR hC (host := "") hf fd_6_5 w_663 dX6_round_42 (fun r13 hf => ?_)
              refine v_iconst (v := 0) hC dX6_round_45 (by decide) ?_
              refine v_ldI hC hf dX6_round_46 (fun x14 hf => ?_)
              refine v_iload_n hC 3 dX6_round_47 rfl ?_
              refine v_icmp_gt hC hf dX6_round_48 (tgt := 71) (by decide) (fun hf => ?_) (fun hf => ?_)
              · refine v_aload_n hC 0 dX6_round_71 rfl ?_
                refine v_getR hC (host := "") hf fd_6_5 w_663 dX6_round_72 (fun r15 hf => ?_)
                refine v_iconst (v := 0) hC dX6_round_75 (by decide) ?_
                refine v_ldI hC hf dX6_round_76 (fun x16 hf => ?_)
                refine v_iload_n hC 3 dX6_round_77 rfl ?_
                refine v_isub hC dX6_round_78 ?_
                refine v_ltI hf (fun x17 hf => ?_)
                refine v_istore hC [(5, .int x17), (0, .ref a0), (1, .int i1), (2, .int i2), (3, .int i3), (4, .int i4)] dX6_round_79 hN (Nat.le_of_ble_eq_true rfl) rfl ?_
                refine v_aload_n hC 1 dX6_round_81 rfl ?_
                refine v_at 82 rfl ?_
                refine v_iconst (v := 0) hC dX6_round_82 (by decide) ?_
                refine v_iload hC 0 dX6_round_83 rfl ?_
                refine v_i2l hC dX6_round_85 ?_
                refine v_cVE hC (y := y_X6_lower) (ci := 6) [.int 0, .long ((x17 : Int32).toInt64)] [] (fun _ => none) (fun _ => []) hf (fun _ _ _ _ h => m_X6_lower h) rfl (fun _ => rfl) rfl rfl hR (Nat.le_of_ble_eq_true rfl) (Nat.le_of_ble_eq_true rfl) w_808 w_805 w_807 w_43 w_64 nm_X6_lower rfl (Nat.le_of_ble_eq_true rfl) dX6_round_86 (fun _ σ18 _ _ hf => ?_)
                refine v_aload_n hC 1 dX6_round_89 rfl ?_
                refine v_iload_n hC 2 dX6_round_90 rfl ?_
                refine v_iconst (v := 0) hC dX6_round_91 (by decide) ?_
                refine v_aload_n hC 1 dX6_round_92 rfl ?_
                refine v_at 93 rfl ?_
                refine v_getR hC (host := "") hf fd_6_2 w_660 dX6_round_93 (fun r19 hf => ?_)
                refine v_iload_n hC 3 dX6_round_96 rfl ?_
                refine v_ldI hC hf dX6_round_97 (fun x20 hf => ?_)
                refine v_aload_n hC 1 dX6_round_98 rfl ?_
                refine v_getR hC (host := "") hf fd_6_3 w_661 dX6_round_99 (fun r21 hf => ?_)
                refine v_iload_n hC 3 dX6_round_102 rfl ?_
                refine v_ldI hC hf dX6_round_103 (fun x22 hf => ?_)
                refine v_i2l hC dX6_round_104 ?_
                refine v_at 105 rfl ?_
                refine v_iload hC 0 dX6_round_105 rfl ?_
                refine v_i2l hC dX6_round_107 ?_
                refine v_lsub hC dX6_round_108 ?_
                refine v_iload hC 5 dX6_round_109 rfl ?_
                refine v_iload_n hC 4 dX6_round_111 rfl ?_
                refine v_cVE hC (y := y_X6_finishTo) (ci := 6) [.int i1, .int 0, .int x20, .long (((x22 : Int32).toInt64) - ((x17 : Int32).toInt64)), .int i4, .int i3] [] (fun r => some (.int r)) (fun r => .int r :: []) hf (fun _ _ _ _ h => m_X6_finishTo h) rfl (fun _ => rfl) rfl rfl hR (Nat.le_of_ble_eq_true rfl) (Nat.le_of_ble_eq_true rfl) w_812 w_809 w_811 w_44 w_64 nm_X6_finishTo rfl (Nat.le_of_ble_eq_true rfl) dX6_round_112 (fun x23 σ24 _ _ hf => ?_)
                exact v_retZ hC hf hE dX6_round_115
              · refine v_at 51 rfl ?_
                exact v_sub [(0, .ref a0), (1, .int i1), (2, .int i2)] [0, 1, 2] rfl (hk6 _ _ _ hf)
        · refine v_at 29 rfl ?_
          refine v_iconst (v := 0) hC dX6_round_29 (by decide) ?_
          exact v_retZ hC hf hE dX6_round_30
set_option maxHeartbeats 4000000 in
set_option maxRecDepth 100000 in
theorem m_X6_strip {G : Gm} {l : Launch} {σ : St} {a0 : Nat} {i1 : Int32} {i2 : Int32} {r : Int32} {σf : St} {k s : Nat} (hf : f_X6_strip σ a0 i1 i2 = some (r, σf, k, s)) : (∃ fs : List Value, σ.1 a0 = some (.inr (.inl (6, fs)))) ∧ Ct G l y_X6_strip prog_8_method_41_code 4 (some .boolean) 1 27 [.ref a0, .int i1, .int i2] σ (some (.int r)) σf k s := by
  unfold f_X6_strip at hf
  obtain ⟨hob, hf⟩ := ob_some hf
  refine ⟨hob, Ct.ofV pl_X6_strip (Nat.le_of_ble_eq_true rfl) ?_⟩
  intro K hR hN hnm hC hE
  show V K (k + 0) (s + 0) σ 0 [(0, .ref a0), (1, .int i1), (2, .int i2)] []
  refine v_iload_n hC 1 dX6_strip_0 rfl ?_
  refine v_cSP hC (y := y_X6_is) [.int i1] [] (fun r => some (.int r)) (fun r => .int r :: []) hf (fun _ h => m_X6_is h) rfl (fun _ => rfl) hR (Nat.le_of_ble_eq_true rfl) (Nat.le_of_ble_eq_true rfl) w_698 w_696 w_697 w_64 nm_X6_is rfl (Nat.le_of_ble_eq_true rfl) dX6_strip_1 (fun x1 hf => ?_)
  refine v_if_eq hC hf dX6_strip_4 (tgt := 14) (by decide) (fun hf => ?_) (fun hf => ?_)
  · refine v_iconst (v := 0) hC dX6_strip_14 (by decide) ?_
    exact v_retZ hC hf hE dX6_strip_15
  · refine v_at 7 rfl ?_
    refine v_iload_n hC 2 dX6_strip_7 rfl ?_
    refine v_cSP hC (y := y_X6_is) [.int i2] [] (fun r => some (.int r)) (fun r => .int r :: []) hf (fun _ h => m_X6_is h) rfl (fun _ => rfl) hR (Nat.le_of_ble_eq_true rfl) (Nat.le_of_ble_eq_true rfl) w_698 w_696 w_697 w_64 nm_X6_is rfl (Nat.le_of_ble_eq_true rfl) dX6_strip_8 (fun x2 hf => ?_)
    refine v_if_ne hC hf dX6_strip_11 (tgt := 16) (by decide) (fun hf => ?_) (fun hf => ?_)
    · refine v_aload_n hC 0 dX6_strip_16 rfl ?_
      refine v_iconst (v := 0) hC dX6_strip_17 (by decide) ?_
      refine v_iload_n hC 2 dX6_strip_18 rfl ?_
      refine v_cVE hC (y := y_X6_load) (ci := 6) [.int 0, .int i2] [] (fun _ => none) (fun _ => []) hf (fun _ _ _ _ h => m_X6_load h) rfl (fun _ => rfl) rfl rfl hR (Nat.le_of_ble_eq_true rfl) (Nat.le_of_ble_eq_true rfl) w_713 w_710 w_712 w_28 w_64 nm_X6_load rfl (Nat.le_of_ble_eq_true rfl) dX6_strip_19 (fun _ σ3 _ _ hf => ?_)
      refine v_aload_n hC 0 dX6_strip_22 rfl ?_
      refine v_iconst (v := 0) hC dX6_strip_23 (by decide) ?_
      refine v_cVP hC (y := y_X6_zeros) (ci := 6) [.int 0] [] (fun r => some (.int r)) (fun r => .int r :: []) hf (fun _ h => m_X6_zeros h) rfl (fun _ => rfl) rfl rfl hR (Nat.le_of_ble_eq_true rfl) (Nat.le_of_ble_eq_true rfl) w_820 w_817 w_819 w_46 w_64 nm_X6_zeros rfl (Nat.le_of_ble_eq_true rfl) dX6_strip_24 (fun x4 hf => ?_)
      refine v_istore_n hC [(3, .int x4), (0, .ref a0), (1, .int i1), (2, .int i2)] dX6_strip_27 rfl hN (Nat.le_of_ble_eq_true rfl) rfl ?_
      refine v_at 28 rfl ?_
      refine v_aload_n hC 1 dX6_strip_28 rfl ?_
      refine v_iconst (v := 0) hC dX6_strip_29 (by decide) ?_
      refine v_iload_n hC 0 dX6_strip_30 rfl ?_
      refine v_i2l hC dX6_strip_31 ?_
      refine v_cVE hC (y := y_X6_lower) (ci := 6) [.int 0, .long ((x4 : Int32).toInt64)] [] (fun _ => none) (fun _ => []) hf (fun _ _ _ _ h => m_X6_lower h) rfl (fun _ => rfl) rfl rfl hR (Nat.le_of_ble_eq_true rfl) (Nat.le_of_ble_eq_true rfl) w_808 w_805 w_807 w_43 w_64 nm_X6_lower rfl (Nat.le_of_ble_eq_true rfl) dX6_strip_32 (fun _ σ5 _ _ hf => ?_)
      refine v_aload_n hC 1 dX6_strip_35 rfl ?_
      refine v_iload_n hC 2 dX6_strip_36 rfl ?_
      refine v_iconst (v := 0) hC dX6_strip_37 (by decide) ?_
      refine v_at 38 rfl ?_
      refine v_aload_n hC 1 dX6_strip_38 rfl ?_
      refine v_getR hC (host := "") hf fd_6_2 w_660 dX6_strip_39 (fun r6 hf => ?_)
      refine v_iload_n hC 3 dX6_strip_42 rfl ?_
      refine v_ldI hC hf dX6_strip_43 (fun x7 hf => ?_)
      refine v_aload_n hC 1 dX6_strip_44 rfl ?_
      refine v_getR hC (host := "") hf fd_6_5 w_663 dX6_strip_45 (fun r8 hf => ?_)
      refine v_iconst (v := 0) hC dX6_strip_48 (by decide) ?_
      refine v_ldI hC hf dX6_strip_49 (fun x9 hf => ?_)
      refine v_at 50 rfl ?_
      refine v_jnE hf (fun z10 kr sr => V K (kr + 0) (sr + 0) σ5 67 [] [.long z10, .int x7, .int 0, .int i1, .ref a0]) (fun z10 _ _ hf => ?_) (fun k10 hk10 hf => ?_)
      · refine v_cVE hC (y := y_X6_store) (ci := 6) [.int i1, .int 0, .int x7, .long z10] [] (fun r => some (.int r)) (fun r => .int r :: []) hf (fun _ _ _ _ h => m_X6_store h) rfl (fun _ => rfl) rfl rfl hR (Nat.le_of_ble_eq_true rfl) (Nat.le_of_ble_eq_true rfl) w_703 w_700 w_702 w_27 w_64 nm_X6_store rfl (Nat.le_of_ble_eq_true rfl) dX6_strip_67 (fun x11 σ12 _ _ hf => ?_)
        exact v_retZ hC hf hE dX6_strip_70
      · refine v_if_ne hC hf dX6_strip_50 (tgt := 57) (by decide) (fun hf => ?_) (fun hf => ?_)
        · refine v_aload_n hC 1 dX6_strip_57 rfl ?_
          refine v_getR hC (host := "") hf fd_6_3 w_661 dX6_strip_58 (fun r13 hf => ?_)
          refine v_iload_n hC 3 dX6_strip_61 rfl ?_
          refine v_ldI hC hf dX6_strip_62 (fun x14 hf => ?_)
          refine v_i2l hC dX6_strip_63 ?_
          refine v_iload_n hC 0 dX6_strip_64 rfl ?_
          refine v_i2l hC dX6_strip_65 ?_
          refine v_lsub hC dX6_strip_66 ?_
          refine v_at 67 rfl ?_
          exact v_sub [] [] rfl (hk10 _ _ _ hf)
        · refine v_at 53 rfl ?_
          refine v_lconst (v := 0) hC dX6_strip_53 (by decide) ?_
          refine v_goto (tgt := 67) hC dX6_strip_54 (by decide) ?_
          exact v_sub [] [] rfl (hk10 _ _ _ hf)
    · refine v_at 14 rfl ?_
      refine v_iconst (v := 0) hC dX6_strip_14 (by decide) ?_
      exact v_retZ hC hf hE dX6_strip_15
set_option maxHeartbeats 4000000 in
set_option maxRecDepth 100000 in
theorem m_X6_move {G : Gm} {l : Launch} {σ : St} {a0 : Nat} {i1 : Int32} {i2 : Int32} {i3 : Int32} {r : Int32} {σf : St} {k s : Nat} (hf : f_X6_move σ a0 i1 i2 i3 = some (r, σf, k, s)) : (∃ fs : List Value, σ.1 a0 = some (.inr (.inl (6, fs)))) ∧ Ct G l y_X6_move prog_8_method_42_code 4 (some .boolean) 1 26 [.ref a0, .int i1, .int i2, .int i3] σ (some (.int r)) σf k s := by
  unfold f_X6_move at hf
  obtain ⟨hob, hf⟩ := ob_some hf
  refine ⟨hob, Ct.ofV pl_X6_move (Nat.le_of_ble_eq_true rfl) ?_⟩
  intro K hR hN hnm hC hE
  show V K (k + 0) (s + 0) σ 0 [(0, .ref a0), (1, .int i1), (2, .int i2), (3, .int i3)] []
  refine v_iload_n hC 1 dX6_move_0 rfl ?_
  refine v_cSP hC (y := y_X6_is) [.int i1] [] (fun r => some (.int r)) (fun r => .int r :: []) hf (fun _ h => m_X6_is h) rfl (fun _ => rfl) hR (Nat.le_of_ble_eq_true rfl) (Nat.le_of_ble_eq_true rfl) w_698 w_696 w_697 w_64 nm_X6_is rfl (Nat.le_of_ble_eq_true rfl) dX6_move_1 (fun x1 hf => ?_)
  refine v_if_eq hC hf dX6_move_4 (tgt := 14) (by decide) (fun hf => ?_) (fun hf => ?_)
  · refine v_iconst (v := 0) hC dX6_move_14 (by decide) ?_
    exact v_retZ hC hf hE dX6_move_15
  · refine v_at 7 rfl ?_
    refine v_iload_n hC 2 dX6_move_7 rfl ?_
    refine v_cSP hC (y := y_X6_is) [.int i2] [] (fun r => some (.int r)) (fun r => .int r :: []) hf (fun _ h => m_X6_is h) rfl (fun _ => rfl) hR (Nat.le_of_ble_eq_true rfl) (Nat.le_of_ble_eq_true rfl) w_698 w_696 w_697 w_64 nm_X6_is rfl (Nat.le_of_ble_eq_true rfl) dX6_move_8 (fun x2 hf => ?_)
    refine v_if_ne hC hf dX6_move_11 (tgt := 16) (by decide) (fun hf => ?_) (fun hf => ?_)
    · refine v_aload_n hC 0 dX6_move_16 rfl ?_
      refine v_iconst (v := 0) hC dX6_move_17 (by decide) ?_
      refine v_iload_n hC 2 dX6_move_18 rfl ?_
      refine v_cVE hC (y := y_X6_load) (ci := 6) [.int 0, .int i2] [] (fun _ => none) (fun _ => []) hf (fun _ _ _ _ h => m_X6_load h) rfl (fun _ => rfl) rfl rfl hR (Nat.le_of_ble_eq_true rfl) (Nat.le_of_ble_eq_true rfl) w_713 w_710 w_712 w_28 w_64 nm_X6_load rfl (Nat.le_of_ble_eq_true rfl) dX6_move_19 (fun _ σ3 _ _ hf => ?_)
      refine v_aload_n hC 0 dX6_move_22 rfl ?_
      refine v_iload_n hC 1 dX6_move_23 rfl ?_
      refine v_iconst (v := 0) hC dX6_move_24 (by decide) ?_
      refine v_aload_n hC 0 dX6_move_25 rfl ?_
      refine v_at 26 rfl ?_
      refine v_getR hC (host := "") hf fd_6_2 w_660 dX6_move_26 (fun r4 hf => ?_)
      refine v_iload_n hC 2 dX6_move_29 rfl ?_
      refine v_ldI hC hf dX6_move_30 (fun x5 hf => ?_)
      refine v_aload_n hC 0 dX6_move_31 rfl ?_
      refine v_getR hC (host := "") hf fd_6_3 w_661 dX6_move_32 (fun r6 hf => ?_)
      refine v_iload_n hC 2 dX6_move_35 rfl ?_
      refine v_ldI hC hf dX6_move_36 (fun x7 hf => ?_)
      refine v_i2l hC dX6_move_37 ?_
      refine v_at 38 rfl ?_
      refine v_iload_n hC 3 dX6_move_38 rfl ?_
      refine v_i2l hC dX6_move_39 ?_
      refine v_lsub hC dX6_move_40 ?_
      refine v_cVE hC (y := y_X6_store) (ci := 6) [.int i1, .int 0, .int x5, .long (((x7 : Int32).toInt64) - ((i3 : Int32).toInt64))] [] (fun r => some (.int r)) (fun r => .int r :: []) hf (fun _ _ _ _ h => m_X6_store h) rfl (fun _ => rfl) rfl rfl hR (Nat.le_of_ble_eq_true rfl) (Nat.le_of_ble_eq_true rfl) w_703 w_700 w_702 w_27 w_64 nm_X6_store rfl (Nat.le_of_ble_eq_true rfl) dX6_move_41 (fun x8 σ9 _ _ hf => ?_)
      exact v_retZ hC hf hE dX6_move_44
    · refine v_at 14 rfl ?_
      refine v_iconst (v := 0) hC dX6_move_14 (by decide) ?_
      exact v_retZ hC hf hE dX6_move_15
def E_X6_compare_L125 (K : Cq) (kr sr : Nat) (σ : St) (a0 : Nat) (i1 : Int32) (y : Int32) : Prop := V K kr sr σ 257 [(0, .ref a0), (1, .int i1), (7, .int y)] []
set_option maxHeartbeats 4000000 in
set_option maxRecDepth 100000 in
theorem v_X6_compare_L125 {K : Cq} {k0 s0 : Nat} (hC : Cx K prog_8_method_43_code "TensMillModel") (hR : kR K = rmF 1 20 k0 s0) (hN : kn K = 11) {kr sr : Nat} : ∀ (n : Nat) (σ : St) (a0 : Nat) (i1 : Int32) (i2 : Int32) (i7 : Int32) (i8 : Int32) (y : Int32), f_X6_compare_L125 n σ a0 i1 i2 i7 i8 = some y → E_X6_compare_L125 K kr sr σ a0 i1 y → V K kr sr σ 125 [(0, .ref a0), (1, .int i1), (2, .int i2), (7, .int i7), (8, .int i8)] [] := by
  intro n
  induction n with
  | zero =>
    intro σ a0 i1 i2 i7 i8 y hf hE
    cases hf
  | succ n ih =>
    intro σ a0 i1 i2 i7 i8 y hf hE
    replace hf : b_X6_compare_L125 (f_X6_compare_L125 n) σ a0 i1 i2 i7 i8 = some y := hf
    unfold b_X6_compare_L125 at hf
    refine v_iload hC 3 dX6_compare_125 rfl ?_
    refine v_if_ne hC hf dX6_compare_127 (tgt := 257) (by decide) (fun hf => ?_) (fun hf => ?_)
    · exact v_sub [(0, .ref a0), (1, .int i1), (7, .int i7)] [0, 1, 3] rfl (v_exP (E := E_X6_compare_L125 K _ _ _ a0 i1) hf hE)
    · refine v_at 130 rfl ?_
      refine v_iload hC 4 dX6_compare_130 rfl ?_
      refine v_aload_n hC 0 dX6_compare_132 rfl ?_
      refine v_getR hC (host := "") hf fd_6_1 w_659 dX6_compare_133 (fun r21 hf => ?_)
      refine v_iload_n hC 1 dX6_compare_136 rfl ?_
      refine v_ldI hC hf dX6_compare_137 (fun x22 hf => ?_)
      refine v_jnP hf (fun z23 => V K kr sr σ 152 [(0, .ref a0), (1, .int i1), (2, .int i2), (8, .int i8)] []) (fun z23 hf => ?_) (fun k23 hk23 hf => ?_)
      · refine v_iload hC 3 dX6_compare_152 rfl ?_
        refine v_aload_n hC 0 dX6_compare_154 rfl ?_
        refine v_getR hC (host := "") hf fd_6_1 w_659 dX6_compare_155 (fun r24 hf => ?_)
        refine v_iload_n hC 1 dX6_compare_158 rfl ?_
        refine v_ldI hC hf dX6_compare_159 (fun x25 hf => ?_)
        refine v_jnP hf (fun z26 => V K kr sr σ 187 [(0, .ref a0), (1, .int i1), (2, .int i2), (8, .int i8)] [.int z26]) (fun z26 hf => ?_) (fun k26 hk26 hf => ?_)
        · refine v_istore hC [(9, .int z26), (0, .ref a0), (1, .int i1), (2, .int i2), (8, .int i8)] dX6_compare_187 hN (Nat.le_of_ble_eq_true rfl) rfl ?_
          refine v_iload hC 4 dX6_compare_189 rfl ?_
          refine v_aload_n hC 1 dX6_compare_191 rfl ?_
          refine v_getR hC (host := "") hf fd_6_1 w_659 dX6_compare_192 (fun r27 hf => ?_)
          refine v_iload_n hC 3 dX6_compare_195 rfl ?_
          refine v_ldI hC hf dX6_compare_196 (fun x28 hf => ?_)
          refine v_jnP hf (fun z29 => V K kr sr σ 224 [(0, .ref a0), (1, .int i1), (2, .int i2), (8, .int i8), (9, .int z26)] [.int z29]) (fun z29 hf => ?_) (fun k29 hk29 hf => ?_)
          · refine v_istore hC [(10, .int z29), (0, .ref a0), (1, .int i1), (2, .int i2), (8, .int i8), (9, .int z26)] dX6_compare_224 hN (Nat.le_of_ble_eq_true rfl) rfl ?_
            refine v_iload hC 5 dX6_compare_226 rfl ?_
            refine v_iload hC 0 dX6_compare_228 rfl ?_
            refine v_jnP hf (fun z30 => V K kr sr σ 249 [(0, .ref a0), (1, .int i1), (2, .int i2), (8, .int i8)] [.int z30]) (fun z30 hf => ?_) (fun k30 hk30 hf => ?_)
            · refine v_istore hC [(7, .int z30), (0, .ref a0), (1, .int i1), (2, .int i2), (8, .int i8)] dX6_compare_249 hN (Nat.le_of_ble_eq_true rfl) rfl ?_
              refine v_incL hC hf 4 (fun x31 => [(8, .int x31), (7, .int z30), (0, .ref a0), (1, .int i1), (2, .int i2)]) dX6_compare_251 rfl (by decide) hN (Nat.le_of_ble_eq_true rfl) (fun _ => rfl) (fun x31 hf => ?_)
              refine v_goto (tgt := 125) hC dX6_compare_254 (by decide) ?_
              exact v_sub [(0, .ref a0), (1, .int i1), (2, .int i2), (7, .int z30), (8, .int x31)] [2, 3, 4, 1, 0] rfl (ih _ _ _ _ _ _ _ hf hE)
            · refine v_icmp_ge hC hf dX6_compare_230 (tgt := 237) (by decide) (fun hf => ?_) (fun hf => ?_)
              · refine v_iload hC 5 dX6_compare_237 rfl ?_
                refine v_iload hC 0 dX6_compare_239 rfl ?_
                refine v_icmp_le hC hf dX6_compare_241 (tgt := 248) (by decide) (fun hf => ?_) (fun hf => ?_)
                · refine v_iconst (v := 0) hC dX6_compare_248 (by decide) ?_
                  refine v_at 249 rfl ?_
                  exact v_sub [(0, .ref a0), (1, .int i1), (2, .int i2), (8, .int i8)] [1, 2, 3, 4] rfl (hk30 _ hf)
                · refine v_at 244 rfl ?_
                  refine v_iconst (v := 1) hC dX6_compare_244 (by decide) ?_
                  refine v_goto (tgt := 249) hC dX6_compare_245 (by decide) ?_
                  exact v_sub [(0, .ref a0), (1, .int i1), (2, .int i2), (8, .int i8)] [1, 2, 3, 4] rfl (hk30 _ hf)
              · refine v_at 233 rfl ?_
                refine v_iconst (v := (-1)) hC dX6_compare_233 (by decide) ?_
                refine v_goto (tgt := 249) hC dX6_compare_234 (by decide) ?_
                exact v_sub [(0, .ref a0), (1, .int i1), (2, .int i2), (8, .int i8)] [1, 2, 3, 4] rfl (hk30 _ hf)
          · refine v_icmp_gt hC hf dX6_compare_197 (tgt := 223) (by decide) (fun hf => ?_) (fun hf => ?_)
            · refine v_iconst (v := 0) hC dX6_compare_223 (by decide) ?_
              refine v_at 224 rfl ?_
              exact v_sub [(0, .ref a0), (1, .int i1), (2, .int i2), (8, .int i8), (9, .int z26)] [1, 2, 3, 4, 0] rfl (hk29 _ hf)
            · refine v_at 200 rfl ?_
              refine v_aload_n hC 1 dX6_compare_200 rfl ?_
              refine v_getR hC (host := "") hf fd_6_0 w_658 dX6_compare_201 (fun r32 hf => ?_)
              refine v_sipush (v := 4096) hC dX6_compare_204 (by decide) ?_
              refine v_iload_n hC 3 dX6_compare_207 rfl ?_
              refine v_imul hC dX6_compare_208 ?_
              refine v_aload_n hC 1 dX6_compare_209 rfl ?_
              refine v_getR hC (host := "") hf fd_6_1 w_659 dX6_compare_210 (fun r33 hf => ?_)
              refine v_iload_n hC 3 dX6_compare_213 rfl ?_
              refine v_at 214 rfl ?_
              refine v_ldI hC hf dX6_compare_214 (fun x34 hf => ?_)
              refine v_iadd hC dX6_compare_215 ?_
              refine v_iload hC 4 dX6_compare_216 rfl ?_
              refine v_isub hC dX6_compare_218 ?_
              refine v_ldI hC hf dX6_compare_219 (fun x35 hf => ?_)
              refine v_goto (tgt := 224) hC dX6_compare_220 (by decide) ?_
              exact v_sub [(0, .ref a0), (1, .int i1), (2, .int i2), (8, .int i8), (9, .int z26)] [1, 2, 3, 4, 0] rfl (hk29 _ hf)
        · refine v_icmp_gt hC hf dX6_compare_160 (tgt := 186) (by decide) (fun hf => ?_) (fun hf => ?_)
          · refine v_iconst (v := 0) hC dX6_compare_186 (by decide) ?_
            refine v_at 187 rfl ?_
            exact v_sub [(0, .ref a0), (1, .int i1), (2, .int i2), (8, .int i8)] [0, 1, 2, 3] rfl (hk26 _ hf)
          · refine v_at 163 rfl ?_
            refine v_aload_n hC 0 dX6_compare_163 rfl ?_
            refine v_getR hC (host := "") hf fd_6_0 w_658 dX6_compare_164 (fun r36 hf => ?_)
            refine v_sipush (v := 4096) hC dX6_compare_167 (by decide) ?_
            refine v_iload_n hC 1 dX6_compare_170 rfl ?_
            refine v_imul hC dX6_compare_171 ?_
            refine v_aload_n hC 0 dX6_compare_172 rfl ?_
            refine v_getR hC (host := "") hf fd_6_1 w_659 dX6_compare_173 (fun r37 hf => ?_)
            refine v_iload_n hC 1 dX6_compare_176 rfl ?_
            refine v_at 177 rfl ?_
            refine v_ldI hC hf dX6_compare_177 (fun x38 hf => ?_)
            refine v_iadd hC dX6_compare_178 ?_
            refine v_iload hC 3 dX6_compare_179 rfl ?_
            refine v_isub hC dX6_compare_181 ?_
            refine v_ldI hC hf dX6_compare_182 (fun x39 hf => ?_)
            refine v_goto (tgt := 187) hC dX6_compare_183 (by decide) ?_
            exact v_sub [(0, .ref a0), (1, .int i1), (2, .int i2), (8, .int i8)] [0, 1, 2, 3] rfl (hk26 _ hf)
      · refine v_icmp_le hC hf dX6_compare_138 (tgt := 152) (by decide) (fun hf => ?_) (fun hf => ?_)
        · exact v_sub [(0, .ref a0), (1, .int i1), (2, .int i2), (8, .int i8)] [0, 1, 2, 4] rfl (hk23 _ hf)
        · refine v_at 141 rfl ?_
          refine v_iload hC 4 dX6_compare_141 rfl ?_
          refine v_aload_n hC 0 dX6_compare_143 rfl ?_
          refine v_getR hC (host := "") hf fd_6_1 w_659 dX6_compare_144 (fun r40 hf => ?_)
          refine v_iload_n hC 2 dX6_compare_147 rfl ?_
          refine v_ldI hC hf dX6_compare_148 (fun x41 hf => ?_)
          refine v_icmp_gt hC hf dX6_compare_149 (tgt := 257) (by decide) (fun hf => ?_) (fun hf => ?_)
          · exact v_sub [(0, .ref a0), (1, .int i1), (7, .int i7)] [0, 1, 3] rfl (v_exP (E := E_X6_compare_L125 K _ _ _ a0 i1) hf hE)
          · refine v_at 152 rfl ?_
            exact v_sub [(0, .ref a0), (1, .int i1), (2, .int i2), (8, .int i8)] [0, 1, 2, 4] rfl (hk23 _ hf)
set_option maxHeartbeats 4000000 in
set_option maxRecDepth 100000 in
theorem m_X6_compare {G : Gm} {l : Launch} {σ : St} {a0 : Nat} {i1 : Int32} {i2 : Int32} {r : Int32} (hf : f_X6_compare σ a0 i1 i2 = some r) : (∃ fs : List Value, σ.1 a0 = some (.inr (.inl (6, fs)))) ∧ Ct G l y_X6_compare prog_8_method_43_code 11 (some .int) 1 20 [.ref a0, .int i1, .int i2] σ (some (.int r)) σ 0 0 := by
  unfold f_X6_compare at hf
  obtain ⟨hob, hf⟩ := ob_some hf
  refine ⟨hob, Ct.ofV pl_X6_compare (Nat.le_of_ble_eq_true rfl) ?_⟩
  intro K hR hN hnm hC hE
  show V K 0 0 σ 0 [(0, .ref a0), (1, .int i1), (2, .int i2)] []
  refine v_iload_n hC 1 dX6_compare_0 rfl ?_
  refine v_cSP hC (y := y_X6_is) [.int i1] [] (fun r => some (.int r)) (fun r => .int r :: []) hf (fun _ h => m_X6_is h) rfl (fun _ => rfl) hR (Nat.le_of_ble_eq_true rfl) (Nat.le_of_ble_eq_true rfl) w_698 w_696 w_697 w_64 nm_X6_is rfl (Nat.le_of_ble_eq_true rfl) dX6_compare_1 (fun x1 hf => ?_)
  refine v_jnP hf (fun z2 => V K 0 0 σ 14 [] []) (fun z2 hf => ?_) (fun k2 hk2 hf => ?_)
  · refine v_bipush (v := (-2)) hC dX6_compare_14 (by decide) ?_
    exact v_retIP hC hf hE dX6_compare_16
  · refine v_if_eq hC hf dX6_compare_4 (tgt := 14) (by decide) (fun hf => ?_) (fun hf => ?_)
    · exact v_sub [] [] rfl (hk2 _ hf)
    · refine v_at 7 rfl ?_
      refine v_iload_n hC 2 dX6_compare_7 rfl ?_
      refine v_cSP hC (y := y_X6_is) [.int i2] [] (fun r => some (.int r)) (fun r => .int r :: []) hf (fun _ h => m_X6_is h) rfl (fun _ => rfl) hR (Nat.le_of_ble_eq_true rfl) (Nat.le_of_ble_eq_true rfl) w_698 w_696 w_697 w_64 nm_X6_is rfl (Nat.le_of_ble_eq_true rfl) dX6_compare_8 (fun x3 hf => ?_)
      refine v_if_ne hC hf dX6_compare_11 (tgt := 17) (by decide) (fun hf => ?_) (fun hf => ?_)
      · refine v_aload_n hC 0 dX6_compare_17 rfl ?_
        refine v_getR hC (host := "") hf fd_6_2 w_660 dX6_compare_18 (fun r4 hf => ?_)
        refine v_iload_n hC 1 dX6_compare_21 rfl ?_
        refine v_ldI hC hf dX6_compare_22 (fun x5 hf => ?_)
        refine v_aload_n hC 0 dX6_compare_23 rfl ?_
        refine v_getR hC (host := "") hf fd_6_2 w_660 dX6_compare_24 (fun r6 hf => ?_)
        refine v_iload_n hC 2 dX6_compare_27 rfl ?_
        refine v_ldI hC hf dX6_compare_28 (fun x7 hf => ?_)
        refine v_at 29 rfl ?_
        refine v_icmp_eq hC hf dX6_compare_29 (tgt := 53) (by decide) (fun hf => ?_) (fun hf => ?_)
        · refine v_aload_n hC 0 dX6_compare_53 rfl ?_
          refine v_getR hC (host := "") hf fd_6_2 w_660 dX6_compare_54 (fun r8 hf => ?_)
          refine v_iload_n hC 1 dX6_compare_57 rfl ?_
          refine v_ldI hC hf dX6_compare_58 (fun x9 hf => ?_)
          refine v_if_ne hC hf dX6_compare_59 (tgt := 64) (by decide) (fun hf => ?_) (fun hf => ?_)
          · refine v_aload_n hC 0 dX6_compare_64 rfl ?_
            refine v_getR hC (host := "") hf fd_6_1 w_659 dX6_compare_65 (fun r10 hf => ?_)
            refine v_iload_n hC 1 dX6_compare_68 rfl ?_
            refine v_ldI hC hf dX6_compare_69 (fun x11 hf => ?_)
            refine v_i2l hC dX6_compare_70 ?_
            refine v_aload_n hC 0 dX6_compare_71 rfl ?_
            refine v_getR hC (host := "") hf fd_6_3 w_661 dX6_compare_72 (fun r12 hf => ?_)
            refine v_iload_n hC 1 dX6_compare_75 rfl ?_
            refine v_at 76 rfl ?_
            refine v_ldI hC hf dX6_compare_76 (fun x13 hf => ?_)
            refine v_i2l hC dX6_compare_77 ?_
            refine v_lsub hC dX6_compare_78 ?_
            refine v_ltL hf (fun l14 hf => ?_)
            refine v_lstore_n hC [(3, .long l14), (0, .ref a0), (1, .int i1), (2, .int i2)] dX6_compare_79 rfl hN (Nat.le_of_ble_eq_true rfl) rfl ?_
            refine v_aload_n hC 1 dX6_compare_80 rfl ?_
            refine v_getR hC (host := "") hf fd_6_1 w_659 dX6_compare_81 (fun r15 hf => ?_)
            refine v_iload_n hC 3 dX6_compare_84 rfl ?_
            refine v_ldI hC hf dX6_compare_85 (fun x16 hf => ?_)
            refine v_at 86 rfl ?_
            refine v_i2l hC dX6_compare_86 ?_
            refine v_aload_n hC 1 dX6_compare_87 rfl ?_
            refine v_getR hC (host := "") hf fd_6_3 w_661 dX6_compare_88 (fun r17 hf => ?_)
            refine v_iload_n hC 3 dX6_compare_91 rfl ?_
            refine v_ldI hC hf dX6_compare_92 (fun x18 hf => ?_)
            refine v_i2l hC dX6_compare_93 ?_
            refine v_lsub hC dX6_compare_94 ?_
            refine v_ltL hf (fun l19 hf => ?_)
            refine v_lstore hC [(5, .long l19), (3, .long l14), (0, .ref a0), (1, .int i1), (2, .int i2)] dX6_compare_95 hN (Nat.le_of_ble_eq_true rfl) rfl ?_
            refine v_at 97 rfl ?_
            refine v_lload_n hC 1 dX6_compare_97 rfl ?_
            refine v_lload hC 0 dX6_compare_98 rfl ?_
            refine v_jnP hf (fun z20 => V K 0 0 σ 120 [(0, .ref a0), (1, .int i1), (2, .int i2)] [.int z20]) (fun z20 hf => ?_) (fun k20 hk20 hf => ?_)
            · refine v_istore hC [(7, .int z20), (0, .ref a0), (1, .int i1), (2, .int i2)] dX6_compare_120 hN (Nat.le_of_ble_eq_true rfl) rfl ?_
              refine v_iconst (v := 1) hC dX6_compare_122 (by decide) ?_
              refine v_istore hC [(8, .int 1), (7, .int z20), (0, .ref a0), (1, .int i1), (2, .int i2)] dX6_compare_123 hN (Nat.le_of_ble_eq_true rfl) rfl ?_
              refine v_at 125 rfl ?_
              refine v_sub [(0, .ref a0), (1, .int i1), (2, .int i2), (7, .int z20), (8, .int 1)] [2, 3, 4, 1, 0] rfl ?_
              refine v_lpP hf (E_X6_compare_L125 K _ _ σ a0 i1) (fun _ h hE => v_X6_compare_L125 hC hR hN _ _ _ _ _ _ _ _ h hE) (fun y42 hf => ?_)
              show V K _ _ σ 257 [(0, .ref a0), (1, .int i1), (7, .int y42)] []
              refine v_aload_n hC 0 dX6_compare_257 rfl ?_
              refine v_getR hC (host := "") hf fd_6_2 w_660 dX6_compare_258 (fun r43 hf => ?_)
              refine v_iload_n hC 1 dX6_compare_261 rfl ?_
              refine v_ldI hC hf dX6_compare_262 (fun x44 hf => ?_)
              refine v_iload hC 2 dX6_compare_263 rfl ?_
              refine v_imul hC dX6_compare_265 ?_
              exact v_retIP hC hf hE dX6_compare_266
            · refine v_lcmp_ge hC hf dX6_compare_100 dX6_compare_101 (tgt := 108) (by decide) (fun hf => ?_) (fun hf => ?_)
              · refine v_lload_n hC 1 dX6_compare_108 rfl ?_
                refine v_lload hC 0 dX6_compare_109 rfl ?_
                refine v_lcmp_le hC hf dX6_compare_111 dX6_compare_112 (tgt := 119) (by decide) (fun hf => ?_) (fun hf => ?_)
                · refine v_iconst (v := 0) hC dX6_compare_119 (by decide) ?_
                  refine v_at 120 rfl ?_
                  exact v_sub [(0, .ref a0), (1, .int i1), (2, .int i2)] [2, 3, 4] rfl (hk20 _ hf)
                · refine v_at 115 rfl ?_
                  refine v_iconst (v := 1) hC dX6_compare_115 (by decide) ?_
                  refine v_goto (tgt := 120) hC dX6_compare_116 (by decide) ?_
                  exact v_sub [(0, .ref a0), (1, .int i1), (2, .int i2)] [2, 3, 4] rfl (hk20 _ hf)
              · refine v_at 104 rfl ?_
                refine v_iconst (v := (-1)) hC dX6_compare_104 (by decide) ?_
                refine v_goto (tgt := 120) hC dX6_compare_105 (by decide) ?_
                exact v_sub [(0, .ref a0), (1, .int i1), (2, .int i2)] [2, 3, 4] rfl (hk20 _ hf)
          · refine v_at 62 rfl ?_
            refine v_iconst (v := 0) hC dX6_compare_62 (by decide) ?_
            exact v_retIP hC hf hE dX6_compare_63
        · refine v_at 32 rfl ?_
          refine v_aload_n hC 0 dX6_compare_32 rfl ?_
          refine v_getR hC (host := "") hf fd_6_2 w_660 dX6_compare_33 (fun r45 hf => ?_)
          refine v_iload_n hC 1 dX6_compare_36 rfl ?_
          refine v_ldI hC hf dX6_compare_37 (fun x46 hf => ?_)
          refine v_aload_n hC 0 dX6_compare_38 rfl ?_
          refine v_getR hC (host := "") hf fd_6_2 w_660 dX6_compare_39 (fun r47 hf => ?_)
          refine v_iload_n hC 2 dX6_compare_42 rfl ?_
          refine v_ldI hC hf dX6_compare_43 (fun x48 hf => ?_)
          refine v_at 44 rfl ?_
          refine v_icmp_ge hC hf dX6_compare_44 (tgt := 51) (by decide) (fun hf => ?_) (fun hf => ?_)
          · refine v_iconst (v := 1) hC dX6_compare_51 (by decide) ?_
            exact v_retIP hC hf hE dX6_compare_52
          · refine v_at 47 rfl ?_
            refine v_iconst (v := (-1)) hC dX6_compare_47 (by decide) ?_
            refine v_goto (tgt := 52) hC dX6_compare_48 (by decide) ?_
            exact v_retIP hC hf hE dX6_compare_52
      · refine v_at 14 rfl ?_
        exact v_sub [] [] rfl (hk2 _ hf)
