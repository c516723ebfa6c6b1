def E_X2_order_L35 (K : Cq) (kr sr : Nat) (σ : St) (a0 : Nat) (a1 : Nat) (y : (Int32) ⊕ (Unit)) : Prop := match y with
  | .inl z => V K kr sr σ 54 [(0, .ref a0), (1, .ref a1), (2, .int z)] []
  | .inr z => V K kr sr σ 81 [] []
set_option maxHeartbeats 4000000 in
set_option maxRecDepth 100000 in
theorem v_X2_order_L35 {K : Cq} {k0 s0 : Nat} (hC : Cx K prog_4_method_17_code "TensMill$Natural") (hR : kR K = rmF 0 0 k0 s0) (hN : kn K = 3) {kr sr : Nat} : ∀ (n : Nat) (σ : St) (a0 : Nat) (a1 : Nat) (i2 : Int32) (y : (Int32) ⊕ (Unit)), f_X2_order_L35 n σ a0 a1 i2 = some y → E_X2_order_L35 K kr sr σ a0 a1 y → V K kr sr σ 35 [(0, .ref a0), (1, .ref a1), (2, .int i2)] [] := by
  intro n
  induction n with
  | zero =>
    intro σ a0 a1 i2 y hf hE
    cases hf
  | succ n ih =>
    intro σ a0 a1 i2 y hf hE
    replace hf : b_X2_order_L35 (f_X2_order_L35 n) σ a0 a1 i2 = some y := hf
    unfold b_X2_order_L35 at hf
    refine v_iload_n hC 2 dX2_order_35 rfl ?_
    refine v_if_lt hC hf dX2_order_36 (tgt := 81) (by decide) (fun hf => ?_) (fun hf => ?_)
    · exact v_sub [] [] rfl (v_exP (E := E_X2_order_L35 K _ _ _ a0 a1) hf hE)
    · refine v_at 39 rfl ?_
      refine v_aload_n hC 0 dX2_order_39 rfl ?_
      refine v_getR hC (host := "") hf fd_2_0 w_85 dX2_order_40 (fun r5 hf => ?_)
      refine v_iload_n hC 2 dX2_order_43 rfl ?_
      refine v_ldI hC hf dX2_order_44 (fun x6 hf => ?_)
      refine v_aload_n hC 1 dX2_order_45 rfl ?_
      refine v_getR hC (host := "") hf fd_2_0 w_85 dX2_order_46 (fun r7 hf => ?_)
      refine v_iload_n hC 2 dX2_order_49 rfl ?_
      refine v_ldI hC hf dX2_order_50 (fun x8 hf => ?_)
      refine v_at 51 rfl ?_
      refine v_icmp_eq hC hf dX2_order_51 (tgt := 75) (by decide) (fun hf => ?_) (fun hf => ?_)
      · refine v_incL hC hf 2 (fun x9 => [(2, .int x9), (0, .ref a0), (1, .ref a1)]) dX2_order_75 rfl (by decide) hN (Nat.le_of_ble_eq_true rfl) (fun _ => rfl) (fun x9 hf => ?_)
        refine v_goto (tgt := 35) hC dX2_order_78 (by decide) ?_
        exact v_sub [(0, .ref a0), (1, .ref a1), (2, .int x9)] [1, 2, 0] rfl (ih _ _ _ _ _ hf hE)
      · refine v_at 54 rfl ?_
        exact v_sub [(0, .ref a0), (1, .ref a1), (2, .int i2)] [0, 1, 2] rfl (v_exP (E := E_X2_order_L35 K _ _ _ a0 a1) hf hE)
set_option maxHeartbeats 4000000 in
set_option maxRecDepth 100000 in
theorem m_X2_order {G : Gm} {l : Launch} {σ : St} {a0 : Nat} {a1 : Nat} {r : Int32} (hf : f_X2_order σ a0 a1 = some r) : Ct G l y_X2_order prog_4_method_17_code 3 (some .int) 0 0 [.ref a0, .ref a1] σ (some (.int r)) σ 0 0 := by
  unfold f_X2_order at hf
  refine Ct.ofV pl_X2_order (Nat.le_of_ble_eq_true rfl) ?_
  intro K hR hN hnm hC hE
  show V K 0 0 σ 0 [(0, .ref a0), (1, .ref a1)] []
  refine v_aload_n hC 0 dX2_order_0 rfl ?_
  refine v_getI hC (host := "") hf fd_2_1 w_86 dX2_order_1 (fun x1 hf => ?_)
  refine v_aload_n hC 1 dX2_order_4 rfl ?_
  refine v_getI hC (host := "") hf fd_2_1 w_86 dX2_order_5 (fun x2 hf => ?_)
  refine v_icmp_eq hC hf dX2_order_8 (tgt := 28) (by decide) (fun hf => ?_) (fun hf => ?_)
  · refine v_aload_n hC 0 dX2_order_28 rfl ?_
    refine v_getI hC (host := "") hf fd_2_1 w_86 dX2_order_29 (fun x3 hf => ?_)
    refine v_iconst (v := 1) hC dX2_order_32 (by decide) ?_
    refine v_isub hC dX2_order_33 ?_
    refine v_ltI hf (fun x4 hf => ?_)
    refine v_istore_n hC [(2, .int x4), (0, .ref a0), (1, .ref a1)] dX2_order_34 rfl hN (Nat.le_of_ble_eq_true rfl) rfl ?_
    refine v_at 35 rfl ?_
    refine v_sub [(0, .ref a0), (1, .ref a1), (2, .int x4)] [1, 2, 0] rfl ?_
    refine v_lpP hf (E_X2_order_L35 K _ _ σ a0 a1) (fun _ h hE => v_X2_order_L35 hC hR hN _ _ _ _ _ _ h hE) (fun y10 hf => ?_)
    rcases y10 with z11 | z16
    · show V K _ _ σ 54 [(0, .ref a0), (1, .ref a1), (2, .int z11)] []
      refine v_aload_n hC 0 dX2_order_54 rfl ?_
      refine v_getR hC (host := "") hf fd_2_0 w_85 dX2_order_55 (fun r12 hf => ?_)
      refine v_iload_n hC 2 dX2_order_58 rfl ?_
      refine v_ldI hC hf dX2_order_59 (fun x13 hf => ?_)
      refine v_aload_n hC 1 dX2_order_60 rfl ?_
      refine v_getR hC (host := "") hf fd_2_0 w_85 dX2_order_61 (fun r14 hf => ?_)
      refine v_iload_n hC 2 dX2_order_64 rfl ?_
      refine v_ldI hC hf dX2_order_65 (fun x15 hf => ?_)
      refine v_at 66 rfl ?_
      refine v_icmp_le hC hf dX2_order_66 (tgt := 73) (by decide) (fun hf => ?_) (fun hf => ?_)
      · refine v_iconst (v := (-1)) hC dX2_order_73 (by decide) ?_
        exact v_retIP hC hf hE dX2_order_74
      · refine v_at 69 rfl ?_
        refine v_iconst (v := 1) hC dX2_order_69 (by decide) ?_
        refine v_goto (tgt := 74) hC dX2_order_70 (by decide) ?_
        exact v_retIP hC hf hE dX2_order_74
    · show V K _ _ σ 81 [] []
      refine v_iconst (v := 0) hC dX2_order_81 (by decide) ?_
      exact v_retIP hC hf hE dX2_order_82
  · refine v_at 11 rfl ?_
    refine v_aload_n hC 0 dX2_order_11 rfl ?_
    refine v_getI hC (host := "") hf fd_2_1 w_86 dX2_order_12 (fun x17 hf => ?_)
    refine v_aload_n hC 1 dX2_order_15 rfl ?_
    refine v_getI hC (host := "") hf fd_2_1 w_86 dX2_order_16 (fun x18 hf => ?_)
    refine v_icmp_le hC hf dX2_order_19 (tgt := 26) (by decide) (fun hf => ?_) (fun hf => ?_)
    · refine v_iconst (v := (-1)) hC dX2_order_26 (by decide) ?_
      exact v_retIP hC hf hE dX2_order_27
    · refine v_at 22 rfl ?_
      refine v_iconst (v := 1) hC dX2_order_22 (by decide) ?_
      refine v_goto (tgt := 27) hC dX2_order_23 (by decide) ?_
      exact v_retIP hC hf hE dX2_order_27
def E_X2_becomeSum_L25 (K : Cq) (a0 : Nat) (i3 : Int32) (y : Int32) (σ : St) (kr sr : Nat) : Prop := V K kr sr σ 127 [(0, .ref a0), (3, .int i3), (4, .int y)] []
set_option maxHeartbeats 4000000 in
set_option maxRecDepth 100000 in
theorem v_X2_becomeSum_L25 {K : Cq} {k0 s0 : Nat} (hC : Cx K prog_4_method_18_code "TensMill$Natural") (hR : kR K = rmF 3 69 k0 s0) (hN : kn K = 7) {ko so : Nat} : ∀ (n : Nat) (σ : St) (a0 : Nat) (a1 : Nat) (a2 : Nat) (i3 : Int32) (i4 : Int32) (i5 : Int32) (y : Int32) (σf : St) (kr sr : Nat), f_X2_becomeSum_L25 n σ a0 a1 a2 i3 i4 i5 = some (y, σf, kr, sr) → E_X2_becomeSum_L25 K a0 i3 y σf ko so → V K (kr + ko) (sr + so) σ 25 [(0, .ref a0), (1, .ref a1), (2, .ref a2), (3, .int i3), (4, .int i4), (5, .int i5)] [] := by
  intro n
  induction n with
  | zero =>
    intro σ a0 a1 a2 i3 i4 i5 y σf kr sr hf hE
    cases hf
  | succ n ih =>
    intro σ a0 a1 a2 i3 i4 i5 y σf kr sr hf hE
    replace hf : b_X2_becomeSum_L25 (f_X2_becomeSum_L25 n) σ a0 a1 a2 i3 i4 i5 = some (y, σf, kr, sr) := hf
    unfold b_X2_becomeSum_L25 at hf
    refine v_iload hC 5 dX2_becomeSum_25 rfl ?_
    refine v_iload_n hC 3 dX2_becomeSum_27 rfl ?_
    refine v_icmp_ge hC hf dX2_becomeSum_28 (tgt := 127) (by decide) (fun hf => ?_) (fun hf => ?_)
    · obtain ⟨hX, e1, e2⟩ := v_exE (E := E_X2_becomeSum_L25 K a0 i3) hf hE
      rw [e1, e2]
      exact v_sub [(0, .ref a0), (3, .int i3), (4, .int i4)] [0, 3, 4] rfl hX
    · refine v_at 31 rfl ?_
      refine v_iload hC 4 dX2_becomeSum_31 rfl ?_
      refine v_istore hC [(6, .int i4), (0, .ref a0), (1, .ref a1), (2, .ref a2), (3, .int i3), (4, .int i4), (5, .int i5)] dX2_becomeSum_33 hN (Nat.le_of_ble_eq_true rfl) rfl ?_
      refine v_iload hC 0 dX2_becomeSum_35 rfl ?_
      refine v_iload hC 6 dX2_becomeSum_37 rfl ?_
      refine v_aload_n hC 2 dX2_becomeSum_39 rfl ?_
      refine v_getI hC (host := "") hf fd_2_1 w_86 dX2_becomeSum_40 (fun x5 hf => ?_)
      refine v_jnE hf (fun z6 kr sr => V K (kr + ko) (sr + so) σ 57 [(0, .ref a0), (1, .ref a1), (2, .ref a2), (3, .int i3), (5, .int i5)] [.int z6, .int i4]) (fun z6 _ _ hf => ?_) (fun k6 hk6 hf => ?_)
      · refine v_iadd hC dX2_becomeSum_57 ?_
        refine v_ltI hf (fun x7 hf => ?_)
        refine v_istore hC [(6, .int x7), (0, .ref a0), (1, .ref a1), (2, .ref a2), (3, .int i3), (5, .int i5)] dX2_becomeSum_58 hN (Nat.le_of_ble_eq_true rfl) rfl ?_
        refine v_iload hC 0 dX2_becomeSum_60 rfl ?_
        refine v_iload hC 5 dX2_becomeSum_62 rfl ?_
        refine v_aload_n hC 3 dX2_becomeSum_64 rfl ?_
        refine v_getI hC (host := "") hf fd_2_1 w_86 dX2_becomeSum_65 (fun x8 hf => ?_)
        refine v_jnE hf (fun z9 kr sr => V K (kr + ko) (sr + so) σ 82 [(0, .ref a0), (1, .ref a1), (2, .ref a2), (3, .int i3), (5, .int i5)] [.int z9, .int x7]) (fun z9 _ _ hf => ?_) (fun k9 hk9 hf => ?_)
        · refine v_iadd hC dX2_becomeSum_82 ?_
          refine v_ltI hf (fun x10 hf => ?_)
          refine v_istore hC [(6, .int x10), (0, .ref a0), (1, .ref a1), (2, .ref a2), (3, .int i3), (5, .int i5)] dX2_becomeSum_83 hN (Nat.le_of_ble_eq_true rfl) rfl ?_
          refine v_iload hC 0 dX2_becomeSum_85 rfl ?_
          refine v_ldc hC dX2_becomeSum_87 w_312 ?_
          refine v_jnE hf (fun z11 kr sr => V K (kr + ko) (sr + so) σ 97 [(0, .ref a0), (1, .ref a1), (2, .ref a2), (3, .int i3), (5, .int i5), (6, .int x10)] [.int z11]) (fun z11 _ _ hf => ?_) (fun k11 hk11 hf => ?_)
          · refine v_istore hC [(4, .int z11), (0, .ref a0), (1, .ref a1), (2, .ref a2), (3, .int i3), (5, .int i5), (6, .int x10)] dX2_becomeSum_97 hN (Nat.le_of_ble_eq_true rfl) rfl ?_
            refine v_aload_n hC 1 dX2_becomeSum_99 rfl ?_
            refine v_getR hC (host := "") hf fd_2_0 w_85 dX2_becomeSum_100 (fun r12 hf => ?_)
            refine v_iload hC 5 dX2_becomeSum_103 rfl ?_
            refine v_iload hC 0 dX2_becomeSum_105 rfl ?_
            refine v_jnE hf (fun z13 kr sr => V K (kr + ko) (sr + so) σ 120 [(0, .ref a0), (1, .ref a1), (2, .ref a2), (3, .int i3), (4, .int z11), (5, .int i5)] [.int z13, .int i5, .ref r12]) (fun z13 _ _ hf => ?_) (fun k13 hk13 hf => ?_)
            · refine v_stI hC hf dX2_becomeSum_120 (fun σ14 hf => ?_)
              refine v_incL hC hf 5 (fun x15 => [(5, .int x15), (0, .ref a0), (1, .ref a1), (2, .ref a2), (3, .int i3), (4, .int z11)]) dX2_becomeSum_121 rfl (by decide) hN (Nat.le_of_ble_eq_true rfl) (fun _ => rfl) (fun x15 hf => ?_)
              refine v_goto (tgt := 25) hC dX2_becomeSum_124 (by decide) ?_
              exact v_sub [(0, .ref a0), (1, .ref a1), (2, .ref a2), (3, .int i3), (4, .int z11), (5, .int x15)] [1, 2, 3, 4, 5, 0] rfl (ih _ _ _ _ _ _ _ _ _ _ _ hf hE)
            · refine v_if_ne hC hf dX2_becomeSum_107 (tgt := 115) (by decide) (fun hf => ?_) (fun hf => ?_)
              · refine v_iload hC 6 dX2_becomeSum_115 rfl ?_
                refine v_ldc hC dX2_becomeSum_117 w_312 ?_
                refine v_isub hC dX2_becomeSum_119 ?_
                refine v_at 120 rfl ?_
                exact v_sub [(0, .ref a0), (1, .ref a1), (2, .ref a2), (3, .int i3), (4, .int z11), (5, .int i5)] [1, 2, 3, 4, 0, 5] rfl (hk13 _ _ _ hf)
              · refine v_at 110 rfl ?_
                refine v_iload hC 6 dX2_becomeSum_110 rfl ?_
                refine v_goto (tgt := 120) hC dX2_becomeSum_112 (by decide) ?_
                exact v_sub [(0, .ref a0), (1, .ref a1), (2, .ref a2), (3, .int i3), (4, .int z11), (5, .int i5)] [1, 2, 3, 4, 0, 5] rfl (hk13 _ _ _ hf)
          · refine v_icmp_lt hC hf dX2_becomeSum_89 (tgt := 96) (by decide) (fun hf => ?_) (fun hf => ?_)
            · refine v_iconst (v := 0) hC dX2_becomeSum_96 (by decide) ?_
              refine v_at 97 rfl ?_
              exact v_sub [(0, .ref a0), (1, .ref a1), (2, .ref a2), (3, .int i3), (5, .int i5), (6, .int x10)] [1, 2, 3, 4, 5, 0] rfl (hk11 _ _ _ hf)
            · refine v_at 92 rfl ?_
              refine v_iconst (v := 1) hC dX2_becomeSum_92 (by decide) ?_
              refine v_goto (tgt := 97) hC dX2_becomeSum_93 (by decide) ?_
              exact v_sub [(0, .ref a0), (1, .ref a1), (2, .ref a2), (3, .int i3), (5, .int i5), (6, .int x10)] [1, 2, 3, 4, 5, 0] rfl (hk11 _ _ _ hf)
        · refine v_icmp_ge hC hf dX2_becomeSum_68 (tgt := 81) (by decide) (fun hf => ?_) (fun hf => ?_)
          · refine v_iconst (v := 0) hC dX2_becomeSum_81 (by decide) ?_
            refine v_at 82 rfl ?_
            exact v_sub [(0, .ref a0), (1, .ref a1), (2, .ref a2), (3, .int i3), (5, .int i5)] [1, 2, 3, 4, 5] rfl (hk9 _ _ _ hf)
          · refine v_at 71 rfl ?_
            refine v_aload_n hC 3 dX2_becomeSum_71 rfl ?_
            refine v_getR hC (host := "") hf fd_2_0 w_85 dX2_becomeSum_72 (fun r16 hf => ?_)
            refine v_iload hC 5 dX2_becomeSum_75 rfl ?_
            refine v_ldI hC hf dX2_becomeSum_77 (fun x17 hf => ?_)
            refine v_goto (tgt := 82) hC dX2_becomeSum_78 (by decide) ?_
            exact v_sub [(0, .ref a0), (1, .ref a1), (2, .ref a2), (3, .int i3), (5, .int i5)] [1, 2, 3, 4, 5] rfl (hk9 _ _ _ hf)
      · refine v_icmp_ge hC hf dX2_becomeSum_43 (tgt := 56) (by decide) (fun hf => ?_) (fun hf => ?_)
        · refine v_iconst (v := 0) hC dX2_becomeSum_56 (by decide) ?_
          refine v_at 57 rfl ?_
          exact v_sub [(0, .ref a0), (1, .ref a1), (2, .ref a2), (3, .int i3), (5, .int i5)] [1, 2, 3, 4, 6] rfl (hk6 _ _ _ hf)
        · refine v_at 46 rfl ?_
          refine v_aload_n hC 2 dX2_becomeSum_46 rfl ?_
          refine v_getR hC (host := "") hf fd_2_0 w_85 dX2_becomeSum_47 (fun r18 hf => ?_)
          refine v_iload hC 6 dX2_becomeSum_50 rfl ?_
          refine v_ldI hC hf dX2_becomeSum_52 (fun x19 hf => ?_)
          refine v_goto (tgt := 57) hC dX2_becomeSum_53 (by decide) ?_
          exact v_sub [(0, .ref a0), (1, .ref a1), (2, .ref a2), (3, .int i3), (5, .int i5)] [1, 2, 3, 4, 6] rfl (hk6 _ _ _ hf)
set_option maxHeartbeats 4000000 in
set_option maxRecDepth 100000 in
theorem m_X2_becomeSum {G : Gm} {l : Launch} {σ : St} {a0 : Nat} {a1 : Nat} {a2 : Nat} {r : Unit} {σf : St} {k s : Nat} (hf : f_X2_becomeSum σ a0 a1 a2 = some (r, σf, k, s)) : (∃ fs : List Value, σ.1 a0 = some (.inr (.inl (2, fs)))) ∧ Ct G l y_X2_becomeSum prog_4_method_18_code 7 none 3 69 [.ref a0, .ref a1, .ref a2] σ none σf k s := by
  unfold f_X2_becomeSum at hf
  obtain ⟨hob, hf⟩ := ob_some hf
  refine ⟨hob, Ct.ofV pl_X2_becomeSum (Nat.le_of_ble_eq_true rfl) ?_⟩
  intro K hR hN hnm hC hE
  show V K (k + 0) (s + 0) σ 0 [(0, .ref a0), (1, .ref a1), (2, .ref a2)] []
  refine v_aload_n hC 1 dX2_becomeSum_0 rfl ?_
  refine v_getI hC (host := "") hf fd_2_1 w_86 dX2_becomeSum_1 (fun x1 hf => ?_)
  refine v_aload_n hC 2 dX2_becomeSum_4 rfl ?_
  refine v_getI hC (host := "") hf fd_2_1 w_86 dX2_becomeSum_5 (fun x2 hf => ?_)
  refine v_cSP hC (y := y_J9_max_7cf53) [.int x1, .int x2] [] (fun r => some (.int r)) (fun r => .int r :: []) hf (fun _ h => m_J9_max_7cf53 h) rfl (fun _ => rfl) hR (Nat.le_of_ble_eq_true rfl) (Nat.le_of_ble_eq_true rfl) w_252 w_250 w_251 w_65 nm_J9_max_7cf53 rfl (Nat.le_of_ble_eq_true rfl) dX2_becomeSum_8 (fun x3 hf => ?_)
  refine v_istore_n hC [(3, .int x3), (0, .ref a0), (1, .ref a1), (2, .ref a2)] dX2_becomeSum_11 rfl hN (Nat.le_of_ble_eq_true rfl) rfl ?_
  refine v_aload_n hC 1 dX2_becomeSum_12 rfl ?_
  refine v_iload_n hC 0 dX2_becomeSum_13 rfl ?_
  refine v_at 14 rfl ?_
  refine v_iconst (v := 1) hC dX2_becomeSum_14 (by decide) ?_
  refine v_iadd hC dX2_becomeSum_15 ?_
  refine v_cVE hC (y := y_X2_makeRoom) (ci := 2) [.int (x3 + 1)] [] (fun _ => none) (fun _ => []) hf (fun _ _ _ _ h => m_X2_makeRoom h) rfl (fun _ => rfl) rfl rfl hR (Nat.le_of_ble_eq_true rfl) (Nat.le_of_ble_eq_true rfl) w_249 w_246 w_248 w_1 w_59 nm_X2_makeRoom rfl (Nat.le_of_ble_eq_true rfl) dX2_becomeSum_16 (fun _ σ4 _ _ hf => ?_)
  refine v_iconst (v := 0) hC dX2_becomeSum_19 (by decide) ?_
  refine v_istore hC [(4, .int 0), (3, .int x3), (0, .ref a0), (1, .ref a1), (2, .ref a2)] dX2_becomeSum_20 hN (Nat.le_of_ble_eq_true rfl) rfl ?_
  refine v_iconst (v := 0) hC dX2_becomeSum_22 (by decide) ?_
  refine v_istore hC [(5, .int 0), (4, .int 0), (3, .int x3), (0, .ref a0), (1, .ref a1), (2, .ref a2)] dX2_becomeSum_23 hN (Nat.le_of_ble_eq_true rfl) rfl ?_
  refine v_at 25 rfl ?_
  refine v_sub [(0, .ref a0), (1, .ref a1), (2, .ref a2), (3, .int x3), (4, .int 0), (5, .int 0)] [3, 4, 5, 2, 1, 0] rfl ?_
  refine v_lpE hf (E_X2_becomeSum_L25 K a0 x3) (fun _ _ _ _ _ _ h hE => v_X2_becomeSum_L25 hC hR hN _ _ _ _ _ _ _ _ _ _ _ _ h hE) (fun y20 σ21 _ _ hf => ?_)
  show V K _ _ σ21 127 [(0, .ref a0), (3, .int x3), (4, .int y20)] []
  refine v_aload_n hC 0 dX2_becomeSum_127 rfl ?_
  refine v_getR hC (host := "") hf fd_2_0 w_85 dX2_becomeSum_128 (fun r22 hf => ?_)
  refine v_iload_n hC 1 dX2_becomeSum_131 rfl ?_
  refine v_iload hC 2 dX2_becomeSum_132 rfl ?_
  refine v_stI hC hf dX2_becomeSum_134 (fun σ23 hf => ?_)
  refine v_aload_n hC 0 dX2_becomeSum_135 rfl ?_
  refine v_iload_n hC 1 dX2_becomeSum_136 rfl ?_
  refine v_iconst (v := 1) hC dX2_becomeSum_137 (by decide) ?_
  refine v_at 138 rfl ?_
  refine v_iadd hC dX2_becomeSum_138 ?_
  refine v_put hC hf fd_2_1 w_86 rfl rfl dX2_becomeSum_139 (fun σ24 hf => ?_)
  refine v_aload_n hC 0 dX2_becomeSum_142 rfl ?_
  refine v_cVE hC (y := y_X2_trim) (ci := 2) [] [] (fun _ => none) (fun _ => []) hf (fun _ _ _ _ h => m_X2_trim h) rfl (fun _ => rfl) rfl rfl hR (Nat.le_of_ble_eq_true rfl) (Nat.le_of_ble_eq_true rfl) w_307 w_304 w_306 w_4 w_59 nm_X2_trim rfl (Nat.le_of_ble_eq_true rfl) dX2_becomeSum_143 (fun _ σ25 _ _ hf => ?_)
  exact v_retV hC hf hE dX2_becomeSum_146
def E_X2_subtract_L4 (K : Cq) (a0 : Nat) (y : Unit) (σ : St) (kr sr : Nat) : Prop := V K kr sr σ 90 [(0, .ref a0)] []
set_option maxHeartbeats 4000000 in
set_option maxRecDepth 100000 in
theorem v_X2_subtract_L4 {K : Cq} {k0 s0 : Nat} (hC : Cx K prog_4_method_19_code "TensMill$Natural") (hR : kR K = rmF 1 20 k0 s0) (hN : kn K = 5) {ko so : Nat} : ∀ (n : Nat) (σ : St) (a0 : Nat) (a1 : Nat) (i2 : Int32) (i3 : Int32) (y : Unit) (σf : St) (kr sr : Nat), f_X2_subtract_L4 n σ a0 a1 i2 i3 = some (y, σf, kr, sr) → E_X2_subtract_L4 K a0 y σf ko so → V K (kr + ko) (sr + so) σ 4 [(0, .ref a0), (1, .ref a1), (2, .int i2), (3, .int i3)] [] := by
  intro n
  induction n with
  | zero =>
    intro σ a0 a1 i2 i3 y σf kr sr hf hE
    cases hf
  | succ n ih =>
    intro σ a0 a1 i2 i3 y σf kr sr hf hE
    replace hf : b_X2_subtract_L4 (f_X2_subtract_L4 n) σ a0 a1 i2 i3 = some (y, σf, kr, sr) := hf
    unfold b_X2_subtract_L4 at hf
    refine v_iload_n hC 3 dX2_subtract_4 rfl ?_
    refine v_aload_n hC 0 dX2_subtract_5 rfl ?_
    refine v_getI hC (host := "") hf fd_2_1 w_86 dX2_subtract_6 (fun x1 hf => ?_)
    refine v_icmp_ge hC hf dX2_subtract_9 (tgt := 90) (by decide) (fun hf => ?_) (fun hf => ?_)
    · obtain ⟨hX, e1, e2⟩ := v_exE (E := E_X2_subtract_L4 K a0) hf hE
      rw [e1, e2]
      exact v_sub [(0, .ref a0)] [0] rfl hX
    · refine v_at 12 rfl ?_
      refine v_iload_n hC 3 dX2_subtract_12 rfl ?_
      refine v_aload_n hC 1 dX2_subtract_13 rfl ?_
      refine v_getI hC (host := "") hf fd_2_1 w_86 dX2_subtract_14 (fun x2 hf => ?_)
      refine v_jnE hf (fun z3 kr sr => V K (kr + ko) (sr + so) σ 24 [(0, .ref a0), (1, .ref a1), (2, .int i2), (3, .int i3)] []) (fun z3 _ _ hf => ?_) (fun k3 hk3 hf => ?_)
      · refine v_aload_n hC 0 dX2_subtract_24 rfl ?_
        refine v_getR hC (host := "") hf fd_2_0 w_85 dX2_subtract_25 (fun r4 hf => ?_)
        refine v_iload_n hC 3 dX2_subtract_28 rfl ?_
        refine v_ldI hC hf dX2_subtract_29 (fun x5 hf => ?_)
        refine v_iload_n hC 2 dX2_subtract_30 rfl ?_
        refine v_isub hC dX2_subtract_31 ?_
        refine v_iload_n hC 3 dX2_subtract_32 rfl ?_
        refine v_aload_n hC 1 dX2_subtract_33 rfl ?_
        refine v_at 34 rfl ?_
        refine v_getI hC (host := "") hf fd_2_1 w_86 dX2_subtract_34 (fun x6 hf => ?_)
        refine v_jnE hf (fun z7 kr sr => V K (kr + ko) (sr + so) σ 50 [(0, .ref a0), (1, .ref a1), (3, .int i3)] [.int z7, .int (x5 - i2)]) (fun z7 _ _ hf => ?_) (fun k7 hk7 hf => ?_)
        · refine v_isub hC dX2_subtract_50 ?_
          refine v_ltI hf (fun x8 hf => ?_)
          refine v_istore hC [(4, .int x8), (0, .ref a0), (1, .ref a1), (3, .int i3)] dX2_subtract_51 hN (Nat.le_of_ble_eq_true rfl) rfl ?_
          refine v_iload hC 0 dX2_subtract_53 rfl ?_
          refine v_jnE hf (fun z9 kr sr => V K (kr + ko) (sr + so) σ 63 [(0, .ref a0), (1, .ref a1), (3, .int i3), (4, .int x8)] [.int z9]) (fun z9 _ _ hf => ?_) (fun k9 hk9 hf => ?_)
          · refine v_istore_n hC [(2, .int z9), (0, .ref a0), (1, .ref a1), (3, .int i3), (4, .int x8)] dX2_subtract_63 rfl hN (Nat.le_of_ble_eq_true rfl) rfl ?_
            refine v_aload_n hC 1 dX2_subtract_64 rfl ?_
            refine v_getR hC (host := "") hf fd_2_0 w_85 dX2_subtract_65 (fun r10 hf => ?_)
            refine v_iload_n hC 3 dX2_subtract_68 rfl ?_
            refine v_iload_n hC 0 dX2_subtract_69 rfl ?_
            refine v_jnE hf (fun z11 kr sr => V K (kr + ko) (sr + so) σ 83 [(0, .ref a0), (1, .ref a1), (2, .int z9), (3, .int i3)] [.int z11, .int i3, .ref r10]) (fun z11 _ _ hf => ?_) (fun k11 hk11 hf => ?_)
            · refine v_stI hC hf dX2_subtract_83 (fun σ12 hf => ?_)
              refine v_incL hC hf 3 (fun x13 => [(3, .int x13), (0, .ref a0), (1, .ref a1), (2, .int z9)]) dX2_subtract_84 rfl (by decide) hN (Nat.le_of_ble_eq_true rfl) (fun _ => rfl) (fun x13 hf => ?_)
              refine v_goto (tgt := 4) hC dX2_subtract_87 (by decide) ?_
              exact v_sub [(0, .ref a0), (1, .ref a1), (2, .int z9), (3, .int x13)] [1, 2, 3, 0] rfl (ih _ _ _ _ _ _ _ _ _ hf hE)
            · refine v_if_ne hC hf dX2_subtract_70 (tgt := 78) (by decide) (fun hf => ?_) (fun hf => ?_)
              · refine v_iload hC 4 dX2_subtract_78 rfl ?_
                refine v_ldc hC dX2_subtract_80 w_312 ?_
                refine v_iadd hC dX2_subtract_82 ?_
                refine v_at 83 rfl ?_
                exact v_sub [(0, .ref a0), (1, .ref a1), (2, .int z9), (3, .int i3)] [1, 2, 0, 3] rfl (hk11 _ _ _ hf)
              · refine v_at 73 rfl ?_
                refine v_iload hC 4 dX2_subtract_73 rfl ?_
                refine v_goto (tgt := 83) hC dX2_subtract_75 (by decide) ?_
                exact v_sub [(0, .ref a0), (1, .ref a1), (2, .int z9), (3, .int i3)] [1, 2, 0, 3] rfl (hk11 _ _ _ hf)
          · refine v_if_ge hC hf dX2_subtract_55 (tgt := 62) (by decide) (fun hf => ?_) (fun hf => ?_)
            · refine v_iconst (v := 0) hC dX2_subtract_62 (by decide) ?_
              refine v_at 63 rfl ?_
              exact v_sub [(0, .ref a0), (1, .ref a1), (3, .int i3), (4, .int x8)] [1, 2, 3, 0] rfl (hk9 _ _ _ hf)
            · refine v_at 58 rfl ?_
              refine v_iconst (v := 1) hC dX2_subtract_58 (by decide) ?_
              refine v_goto (tgt := 63) hC dX2_subtract_59 (by decide) ?_
              exact v_sub [(0, .ref a0), (1, .ref a1), (3, .int i3), (4, .int x8)] [1, 2, 3, 0] rfl (hk9 _ _ _ hf)
        · refine v_icmp_ge hC hf dX2_subtract_37 (tgt := 49) (by decide) (fun hf => ?_) (fun hf => ?_)
          · refine v_iconst (v := 0) hC dX2_subtract_49 (by decide) ?_
            refine v_at 50 rfl ?_
            exact v_sub [(0, .ref a0), (1, .ref a1), (3, .int i3)] [0, 1, 3] rfl (hk7 _ _ _ hf)
          · refine v_at 40 rfl ?_
            refine v_aload_n hC 1 dX2_subtract_40 rfl ?_
            refine v_getR hC (host := "") hf fd_2_0 w_85 dX2_subtract_41 (fun r14 hf => ?_)
            refine v_iload_n hC 3 dX2_subtract_44 rfl ?_
            refine v_ldI hC hf dX2_subtract_45 (fun x15 hf => ?_)
            refine v_goto (tgt := 50) hC dX2_subtract_46 (by decide) ?_
            exact v_sub [(0, .ref a0), (1, .ref a1), (3, .int i3)] [0, 1, 3] rfl (hk7 _ _ _ hf)
      · refine v_icmp_lt hC hf dX2_subtract_17 (tgt := 24) (by decide) (fun hf => ?_) (fun hf => ?_)
        · exact v_sub [(0, .ref a0), (1, .ref a1), (2, .int i2), (3, .int i3)] [0, 1, 2, 3] rfl (hk3 _ _ _ hf)
        · refine v_at 20 rfl ?_
          refine v_iload_n hC 2 dX2_subtract_20 rfl ?_
          refine v_if_eq hC hf dX2_subtract_21 (tgt := 90) (by decide) (fun hf => ?_) (fun hf => ?_)
          · obtain ⟨hX, e1, e2⟩ := v_exE (E := E_X2_subtract_L4 K a0) hf hE
            rw [e1, e2]
            exact v_sub [(0, .ref a0)] [0] rfl hX
          · refine v_at 24 rfl ?_
            exact v_sub [(0, .ref a0), (1, .ref a1), (2, .int i2), (3, .int i3)] [0, 1, 2, 3] rfl (hk3 _ _ _ hf)
set_option maxHeartbeats 4000000 in
set_option maxRecDepth 100000 in
theorem m_X2_subtract {G : Gm} {l : Launch} {σ : St} {a0 : Nat} {a1 : Nat} {r : Unit} {σf : St} {k s : Nat} (hf : f_X2_subtract σ a0 a1 = some (r, σf, k, s)) : (∃ fs : List Value, σ.1 a0 = some (.inr (.inl (2, fs)))) ∧ Ct G l y_X2_subtract prog_4_method_19_code 5 none 1 20 [.ref a0, .ref a1] σ none σf k s := by
  unfold f_X2_subtract at hf
  obtain ⟨hob, hf⟩ := ob_some hf
  refine ⟨hob, Ct.ofV pl_X2_subtract (Nat.le_of_ble_eq_true rfl) ?_⟩
  intro K hR hN hnm hC hE
  show V K (k + 0) (s + 0) σ 0 [(0, .ref a0), (1, .ref a1)] []
  refine v_iconst (v := 0) hC dX2_subtract_0 (by decide) ?_
  refine v_istore_n hC [(2, .int 0), (0, .ref a0), (1, .ref a1)] dX2_subtract_1 rfl hN (Nat.le_of_ble_eq_true rfl) rfl ?_
  refine v_iconst (v := 0) hC dX2_subtract_2 (by decide) ?_
  refine v_istore_n hC [(3, .int 0), (2, .int 0), (0, .ref a0), (1, .ref a1)] dX2_subtract_3 rfl hN (Nat.le_of_ble_eq_true rfl) rfl ?_
  refine v_at 4 rfl ?_
  refine v_sub [(0, .ref a0), (1, .ref a1), (2, .int 0), (3, .int 0)] [2, 3, 1, 0] rfl ?_
  refine v_lpE hf (E_X2_subtract_L4 K a0) (fun _ _ _ _ _ _ h hE => v_X2_subtract_L4 hC hR hN _ _ _ _ _ _ _ _ _ _ h hE) (fun y16 σ17 _ _ hf => ?_)
  show V K _ _ σ17 90 [(0, .ref a0)] []
  refine v_aload_n hC 0 dX2_subtract_90 rfl ?_
  refine v_cVE hC (y := y_X2_trim) (ci := 2) [] [] (fun _ => none) (fun _ => []) hf (fun _ _ _ _ h => m_X2_trim h) rfl (fun _ => rfl) rfl rfl hR (Nat.le_of_ble_eq_true rfl) (Nat.le_of_ble_eq_true rfl) w_307 w_304 w_306 w_4 w_59 nm_X2_trim rfl (Nat.le_of_ble_eq_true rfl) dX2_subtract_91 (fun _ σ18 _ _ hf => ?_)
  exact v_retV hC hf hE dX2_subtract_94
def E_X2_addTimes_L12 (K : Cq) (i2 : Int32) (i5 : Int32) (a6 : Nat) (y : Int64) (σ : St) (kr sr : Nat) : Prop := V K kr sr σ 72 [(2, .int i2), (5, .int i5), (6, .ref a6), (7, .long y)] []
set_option maxHeartbeats 4000000 in
set_option maxRecDepth 100000 in
theorem v_X2_addTimes_L12 {K : Cq} {k0 s0 : Nat} (hC : Cx K prog_4_method_21_code "TensMill$Natural") (hR : kR K = rmF 0 0 k0 s0) (hN : kn K = 12) {ko so : Nat} : ∀ (n : Nat) (σ : St) (a1 : Nat) (i2 : Int32) (j3 : Int64) (i5 : Int32) (a6 : Nat) (j7 : Int64) (i9 : Int32) (y : Int64) (σf : St) (kr sr : Nat), f_X2_addTimes_L12 n σ a1 i2 j3 i5 a6 j7 i9 = some (y, σf, kr, sr) → E_X2_addTimes_L12 K i2 i5 a6 y σf ko so → V K (kr + ko) (sr + so) σ 12 [(1, .ref a1), (2, .int i2), (3, .long j3), (5, .int i5), (6, .ref a6), (7, .long j7), (9, .int i9)] [] := by
  intro n
  induction n with
  | zero =>
    intro σ a1 i2 j3 i5 a6 j7 i9 y σf kr sr hf hE
    cases hf
  | succ n ih =>
    intro σ a1 i2 j3 i5 a6 j7 i9 y σf kr sr hf hE
    replace hf : b_X2_addTimes_L12 (f_X2_addTimes_L12 n) σ a1 i2 j3 i5 a6 j7 i9 = some (y, σf, kr, sr) := hf
    unfold b_X2_addTimes_L12 at hf
    refine v_iload hC 6 dX2_addTimes_12 rfl ?_
    refine v_iload_n hC 1 dX2_addTimes_14 rfl ?_
    refine v_icmp_ge hC hf dX2_addTimes_15 (tgt := 72) (by decide) (fun hf => ?_) (fun hf => ?_)
    · obtain ⟨hX, e1, e2⟩ := v_exE (E := E_X2_addTimes_L12 K i2 i5 a6) hf hE
      rw [e1, e2]
      exact v_sub [(2, .int i2), (5, .int i5), (6, .ref a6), (7, .long j7)] [1, 3, 4, 5] rfl hX
    · refine v_at 18 rfl ?_
      refine v_aload_n hC 0 dX2_addTimes_18 rfl ?_
      refine v_iload hC 6 dX2_addTimes_19 rfl ?_
      refine v_ldI hC hf dX2_addTimes_21 (fun x2 hf => ?_)
      refine v_i2l hC dX2_addTimes_22 ?_
      refine v_lload_n hC 2 dX2_addTimes_23 rfl ?_
      refine v_lmul hC dX2_addTimes_24 ?_
      refine v_aload hC 4 dX2_addTimes_25 rfl ?_
      refine v_iload hC 6 dX2_addTimes_27 rfl ?_
      refine v_at 29 rfl ?_
      refine v_iload hC 3 dX2_addTimes_29 rfl ?_
      refine v_iadd hC dX2_addTimes_31 ?_
      refine v_ldI hC hf dX2_addTimes_32 (fun x3 hf => ?_)
      refine v_i2l hC dX2_addTimes_33 ?_
      refine v_ladd hC dX2_addTimes_34 ?_
      refine v_lload hC 5 dX2_addTimes_35 rfl ?_
      refine v_ladd hC dX2_addTimes_37 ?_
      refine v_ltL hf (fun l4 hf => ?_)
      refine v_lstore hC [(10, .long l4), (1, .ref a1), (2, .int i2), (3, .long j3), (5, .int i5), (6, .ref a6), (7, .long j7), (9, .int i9)] dX2_addTimes_38 hN (Nat.le_of_ble_eq_true rfl) rfl ?_
      refine v_at 40 rfl ?_
      refine v_lload hC 0 dX2_addTimes_40 rfl ?_
      refine v_ldc2 hC dX2_addTimes_42 w_218 ?_
      refine v_ldiv hC hf dX2_addTimes_45 (fun l5 hf => ?_)
      refine v_lstore hC [(7, .long l5), (10, .long l4), (1, .ref a1), (2, .int i2), (3, .long j3), (5, .int i5), (6, .ref a6), (9, .int i9)] dX2_addTimes_46 hN (Nat.le_of_ble_eq_true rfl) rfl ?_
      refine v_aload hC 6 dX2_addTimes_48 rfl ?_
      refine v_iload hC 7 dX2_addTimes_50 rfl ?_
      refine v_iload hC 5 dX2_addTimes_52 rfl ?_
      refine v_iadd hC dX2_addTimes_54 ?_
      refine v_at 55 rfl ?_
      refine v_lload hC 1 dX2_addTimes_55 rfl ?_
      refine v_lload hC 0 dX2_addTimes_57 rfl ?_
      refine v_ldc2 hC dX2_addTimes_59 w_218 ?_
      refine v_lmul hC dX2_addTimes_62 ?_
      refine v_lsub hC dX2_addTimes_63 ?_
      refine v_l2i hC dX2_addTimes_64 ?_
      refine v_stI hC hf dX2_addTimes_65 (fun σ6 hf => ?_)
      refine v_incL hC hf 7 (fun x7 => [(9, .int x7), (7, .long l5), (10, .long l4), (1, .ref a1), (2, .int i2), (3, .long j3), (5, .int i5), (6, .ref a6)]) dX2_addTimes_66 rfl (by decide) hN (Nat.le_of_ble_eq_true rfl) (fun _ => rfl) (fun x7 hf => ?_)
      refine v_at 69 rfl ?_
      refine v_goto (tgt := 12) hC dX2_addTimes_69 (by decide) ?_
      exact v_sub [(1, .ref a1), (2, .int i2), (3, .long j3), (5, .int i5), (6, .ref a6), (7, .long l5), (9, .int x7)] [3, 4, 5, 6, 7, 1, 0] rfl (ih _ _ _ _ _ _ _ _ _ _ _ _ hf hE)
set_option maxHeartbeats 4000000 in
set_option maxRecDepth 100000 in
theorem m_X2_addTimes {G : Gm} {l : Launch} {σ : St} {a0 : Nat} {a1 : Nat} {i2 : Int32} {j3 : Int64} {i5 : Int32} {r : Unit} {σf : St} {k s : Nat} (hf : f_X2_addTimes σ a0 a1 i2 j3 i5 = some (r, σf, k, s)) : (∃ fs : List Value, σ.1 a0 = some (.inr (.inl (2, fs)))) ∧ Ct G l y_X2_addTimes prog_4_method_21_code 12 none 0 0 [.ref a0, .ref a1, .int i2, .long j3, .int i5] σ none σf k s := by
  unfold f_X2_addTimes at hf
  obtain ⟨hob, hf⟩ := ob_some hf
  refine ⟨hob, Ct.ofV pl_X2_addTimes (Nat.le_of_ble_eq_true rfl) ?_⟩
  intro K hR hN hnm hC hE
  show V K (k + 0) (s + 0) σ 0 [(0, .ref a0), (1, .ref a1), (2, .int i2), (3, .long j3), (5, .int i5)] []
  refine v_aload_n hC 0 dX2_addTimes_0 rfl ?_
  refine v_getR hC (host := "") hf fd_2_0 w_85 dX2_addTimes_1 (fun r1 hf => ?_)
  refine v_astore hC [(6, .ref r1), (0, .ref a0), (1, .ref a1), (2, .int i2), (3, .long j3), (5, .int i5)] dX2_addTimes_4 hN (Nat.le_of_ble_eq_true rfl) rfl ?_
  refine v_lconst (v := 0) hC dX2_addTimes_6 (by decide) ?_
  refine v_lstore hC [(7, .long 0), (6, .ref r1), (0, .ref a0), (1, .ref a1), (2, .int i2), (3, .long j3), (5, .int i5)] dX2_addTimes_7 hN (Nat.le_of_ble_eq_true rfl) rfl ?_
  refine v_iconst (v := 0) hC dX2_addTimes_9 (by decide) ?_
  refine v_istore hC [(9, .int 0), (7, .long 0), (6, .ref r1), (0, .ref a0), (1, .ref a1), (2, .int i2), (3, .long j3), (5, .int i5)] dX2_addTimes_10 hN (Nat.le_of_ble_eq_true rfl) rfl ?_
  refine v_at 12 rfl ?_
  refine v_sub [(1, .ref a1), (2, .int i2), (3, .long j3), (5, .int i5), (6, .ref r1), (7, .long 0), (9, .int 0)] [4, 5, 6, 7, 2, 1, 0] rfl ?_
  refine v_lpE hf (E_X2_addTimes_L12 K i2 i5 r1) (fun _ _ _ _ _ _ h hE => v_X2_addTimes_L12 hC hR hN _ _ _ _ _ _ _ _ _ _ _ _ _ h hE) (fun y8 σ9 _ _ hf => ?_)
  show V K _ _ σ9 72 [(2, .int i2), (5, .int i5), (6, .ref r1), (7, .long y8)] []
  refine v_aload hC 2 dX2_addTimes_72 rfl ?_
  refine v_iload_n hC 0 dX2_addTimes_74 rfl ?_
  refine v_iload hC 1 dX2_addTimes_75 rfl ?_
  refine v_iadd hC dX2_addTimes_77 ?_
  refine v_lload hC 3 dX2_addTimes_78 rfl ?_
  refine v_l2i hC dX2_addTimes_80 ?_
  refine v_stI hC hf dX2_addTimes_81 (fun σ10 hf => ?_)
  exact v_retV hC hf hE dX2_addTimes_82
def E_X2_becomeProduct_L23 (K : Cq) (a0 : Nat) (i3 : Int32) (y : Unit) (σ : St) (kr sr : Nat) : Prop := V K kr sr σ 70 [(0, .ref a0), (3, .int i3)] []
set_option maxHeartbeats 4000000 in
set_option maxRecDepth 100000 in
theorem v_X2_becomeProduct_L23 {K : Cq} {k0 s0 : Nat} (hC : Cx K prog_4_method_20_code "TensMill$Natural") (hR : kR K = rmF 3 69 k0 s0) (hN : kn K = 5) {ko so : Nat} : ∀ (n : Nat) (σ : St) (a0 : Nat) (a1 : Nat) (a2 : Nat) (i3 : Int32) (i4 : Int32) (y : Unit) (σf : St) (kr sr : Nat), f_X2_becomeProduct_L23 n σ a0 a1 a2 i3 i4 = some (y, σf, kr, sr) → E_X2_becomeProduct_L23 K a0 i3 y σf ko so → V K (kr + ko) (sr + so) σ 23 [(0, .ref a0), (1, .ref a1), (2, .ref a2), (3, .int i3), (4, .int i4)] [] := by
  intro n
  induction n with
  | zero =>
    intro σ a0 a1 a2 i3 i4 y σf kr sr hf hE
    cases hf
  | succ n ih =>
    intro σ a0 a1 a2 i3 i4 y σf kr sr hf hE
    replace hf : b_X2_becomeProduct_L23 (f_X2_becomeProduct_L23 n) σ a0 a1 a2 i3 i4 = some (y, σf, kr, sr) := hf
    unfold b_X2_becomeProduct_L23 at hf
    refine v_iload hC 4 dX2_becomeProduct_23 rfl ?_
    refine v_aload_n hC 1 dX2_becomeProduct_25 rfl ?_
    refine v_getI hC (host := "") hf fd_2_1 w_86 dX2_becomeProduct_26 (fun x6 hf => ?_)
    refine v_icmp_ge hC hf dX2_becomeProduct_29 (tgt := 70) (by decide) (fun hf => ?_) (fun hf => ?_)
    · obtain ⟨hX, e1, e2⟩ := v_exE (E := E_X2_becomeProduct_L23 K a0 i3) hf hE
      rw [e1, e2]
      exact v_sub [(0, .ref a0), (3, .int i3)] [0, 3] rfl hX
    · refine v_at 32 rfl ?_
      refine v_aload_n hC 1 dX2_becomeProduct_32 rfl ?_
      refine v_getR hC (host := "") hf fd_2_0 w_85 dX2_becomeProduct_33 (fun r7 hf => ?_)
      refine v_iload hC 4 dX2_becomeProduct_36 rfl ?_
      refine v_ldI hC hf dX2_becomeProduct_38 (fun x8 hf => ?_)
      refine v_jnE hf (fun z9 kr sr => V K (kr + ko) (sr + so) z9 64 [(0, .ref a0), (1, .ref a1), (2, .ref a2), (3, .int i3), (4, .int i4)] []) (fun z9 _ _ hf => ?_) (fun k9 hk9 hf => ?_)
      · refine v_incL hC hf 4 (fun x10 => [(4, .int x10), (0, .ref a0), (1, .ref a1), (2, .ref a2), (3, .int i3)]) dX2_becomeProduct_64 rfl (by decide) hN (Nat.le_of_ble_eq_true rfl) (fun _ => rfl) (fun x10 hf => ?_)
        refine v_goto (tgt := 23) hC dX2_becomeProduct_67 (by decide) ?_
        exact v_sub [(0, .ref a0), (1, .ref a1), (2, .ref a2), (3, .int i3), (4, .int x10)] [1, 2, 3, 4, 0] rfl (ih _ _ _ _ _ _ _ _ _ _ hf hE)
      · refine v_if_eq hC hf dX2_becomeProduct_39 (tgt := 64) (by decide) (fun hf => ?_) (fun hf => ?_)
        · exact v_sub [(0, .ref a0), (1, .ref a1), (2, .ref a2), (3, .int i3), (4, .int i4)] [0, 1, 2, 3, 4] rfl (hk9 _ _ _ hf)
        · refine v_at 42 rfl ?_
          refine v_aload_n hC 0 dX2_becomeProduct_42 rfl ?_
          refine v_aload_n hC 2 dX2_becomeProduct_43 rfl ?_
          refine v_getR hC (host := "") hf fd_2_0 w_85 dX2_becomeProduct_44 (fun r11 hf => ?_)
          refine v_aload_n hC 2 dX2_becomeProduct_47 rfl ?_
          refine v_getI hC (host := "") hf fd_2_1 w_86 dX2_becomeProduct_48 (fun x12 hf => ?_)
          refine v_aload_n hC 1 dX2_becomeProduct_51 rfl ?_
          refine v_getR hC (host := "") hf fd_2_0 w_85 dX2_becomeProduct_52 (fun r13 hf => ?_)
          refine v_iload hC 4 dX2_becomeProduct_55 rfl ?_
          refine v_at 57 rfl ?_
          refine v_ldI hC hf dX2_becomeProduct_57 (fun x14 hf => ?_)
          refine v_i2l hC dX2_becomeProduct_58 ?_
          refine v_iload hC 4 dX2_becomeProduct_59 rfl ?_
          refine v_cVE hC (y := y_X2_addTimes) (ci := 2) [.ref r11, .int x12, .long ((x14 : Int32).toInt64), .int i4] [] (fun _ => none) (fun _ => []) hf (fun _ _ _ _ h => m_X2_addTimes h) rfl (fun _ => rfl) rfl rfl hR (Nat.le_of_ble_eq_true rfl) (Nat.le_of_ble_eq_true rfl) w_338 w_335 w_337 w_5 w_59 nm_X2_addTimes rfl (Nat.le_of_ble_eq_true rfl) dX2_becomeProduct_61 (fun _ σ15 _ _ hf => ?_)
          refine v_at 64 rfl ?_
          exact v_sub [(0, .ref a0), (1, .ref a1), (2, .ref a2), (3, .int i3), (4, .int i4)] [0, 1, 2, 3, 4] rfl (hk9 _ _ _ hf)
set_option maxHeartbeats 4000000 in
set_option maxRecDepth 100000 in
theorem m_X2_becomeProduct {G : Gm} {l : Launch} {σ : St} {a0 : Nat} {a1 : Nat} {a2 : Nat} {r : Unit} {σf : St} {k s : Nat} (hf : f_X2_becomeProduct σ a0 a1 a2 = some (r, σf, k, s)) : (∃ fs : List Value, σ.1 a0 = some (.inr (.inl (2, fs)))) ∧ Ct G l y_X2_becomeProduct prog_4_method_20_code 5 none 3 69 [.ref a0, .ref a1, .ref a2] σ none σf k s := by
  unfold f_X2_becomeProduct at hf
  obtain ⟨hob, hf⟩ := ob_some hf
  refine ⟨hob, Ct.ofV pl_X2_becomeProduct (Nat.le_of_ble_eq_true rfl) ?_⟩
  intro K hR hN hnm hC hE
  show V K (k + 0) (s + 0) σ 0 [(0, .ref a0), (1, .ref a1), (2, .ref a2)] []
  refine v_aload_n hC 1 dX2_becomeProduct_0 rfl ?_
  refine v_getI hC (host := "") hf fd_2_1 w_86 dX2_becomeProduct_1 (fun x1 hf => ?_)
  refine v_aload_n hC 2 dX2_becomeProduct_4 rfl ?_
  refine v_getI hC (host := "") hf fd_2_1 w_86 dX2_becomeProduct_5 (fun x2 hf => ?_)
  refine v_iadd hC dX2_becomeProduct_8 ?_
  refine v_ltI hf (fun x3 hf => ?_)
  refine v_istore_n hC [(3, .int x3), (0, .ref a0), (1, .ref a1), (2, .ref a2)] dX2_becomeProduct_9 rfl hN (Nat.le_of_ble_eq_true rfl) rfl ?_
  refine v_aload_n hC 1 dX2_becomeProduct_10 rfl ?_
  refine v_iload_n hC 0 dX2_becomeProduct_11 rfl ?_
  refine v_at 12 rfl ?_
  refine v_cVE hC (y := y_X2_makeRoom) (ci := 2) [.int x3] [] (fun _ => none) (fun _ => []) hf (fun _ _ _ _ h => m_X2_makeRoom h) rfl (fun _ => rfl) rfl rfl hR (Nat.le_of_ble_eq_true rfl) (Nat.le_of_ble_eq_true rfl) w_249 w_246 w_248 w_1 w_59 nm_X2_makeRoom rfl (Nat.le_of_ble_eq_true rfl) dX2_becomeProduct_12 (fun _ σ4 _ _ hf => ?_)
  refine v_aload_n hC 1 dX2_becomeProduct_15 rfl ?_
  refine v_iload_n hC 0 dX2_becomeProduct_16 rfl ?_
  refine v_cVE hC (y := y_X2_emptyLimbs) (ci := 2) [.int x3] [] (fun _ => none) (fun _ => []) hf (fun _ _ _ _ h => m_X2_emptyLimbs h) rfl (fun _ => rfl) rfl rfl hR (Nat.le_of_ble_eq_true rfl) (Nat.le_of_ble_eq_true rfl) w_303 w_300 w_302 w_3 w_59 nm_X2_emptyLimbs rfl (Nat.le_of_ble_eq_true rfl) dX2_becomeProduct_17 (fun _ σ5 _ _ hf => ?_)
  refine v_iconst (v := 0) hC dX2_becomeProduct_20 (by decide) ?_
  refine v_istore hC [(4, .int 0), (3, .int x3), (0, .ref a0), (1, .ref a1), (2, .ref a2)] dX2_becomeProduct_21 hN (Nat.le_of_ble_eq_true rfl) rfl ?_
  refine v_at 23 rfl ?_
  refine v_sub [(0, .ref a0), (1, .ref a1), (2, .ref a2), (3, .int x3), (4, .int 0)] [2, 3, 4, 1, 0] rfl ?_
  refine v_lpE hf (E_X2_becomeProduct_L23 K a0 x3) (fun _ _ _ _ _ _ h hE => v_X2_becomeProduct_L23 hC hR hN _ _ _ _ _ _ _ _ _ _ _ h hE) (fun y16 σ17 _ _ hf => ?_)
  show V K _ _ σ17 70 [(0, .ref a0), (3, .int x3)] []
  refine v_aload_n hC 0 dX2_becomeProduct_70 rfl ?_
  refine v_iload_n hC 1 dX2_becomeProduct_71 rfl ?_
  refine v_put hC hf fd_2_1 w_86 rfl rfl dX2_becomeProduct_72 (fun σ18 hf => ?_)
  refine v_aload_n hC 0 dX2_becomeProduct_75 rfl ?_
  refine v_cVE hC (y := y_X2_trim) (ci := 2) [] [] (fun _ => none) (fun _ => []) hf (fun _ _ _ _ h => m_X2_trim h) rfl (fun _ => rfl) rfl rfl hR (Nat.le_of_ble_eq_true rfl) (Nat.le_of_ble_eq_true rfl) w_307 w_304 w_306 w_4 w_59 nm_X2_trim rfl (Nat.le_of_ble_eq_true rfl) dX2_becomeProduct_76 (fun _ σ19 _ _ hf => ?_)
  exact v_retV hC hf hE dX2_becomeProduct_79
def E_X2_reduceByLimb_L23 (K : Cq) (a0 : Nat) (a1 : Nat) (y : Int64) (σ : St) (kr sr : Nat) : Prop := V K kr sr σ 76 [(0, .ref a0), (1, .ref a1), (3, .long y)] []
set_option maxHeartbeats 4000000 in
set_option maxRecDepth 100000 in
theorem v_X2_reduceByLimb_L23 {K : Cq} {k0 s0 : Nat} (hC : Cx K prog_4_method_23_code "TensMill$Natural") (hR : kR K = rmF 3 69 k0 s0) (hN : kn K = 10) {ko so : Nat} : ∀ (n : Nat) (σ : St) (a0 : Nat) (a1 : Nat) (i2 : Int32) (j3 : Int64) (i5 : Int32) (y : Int64) (σf : St) (kr sr : Nat), f_X2_reduceByLimb_L23 n σ a0 a1 i2 j3 i5 = some (y, σf, kr, sr) → E_X2_reduceByLimb_L23 K a0 a1 y σf ko so → V K (kr + ko) (sr + so) σ 23 [(0, .ref a0), (1, .ref a1), (2, .int i2), (3, .long j3), (5, .int i5)] [] := by
  intro n
  induction n with
  | zero =>
    intro σ a0 a1 i2 j3 i5 y σf kr sr hf hE
    cases hf
  | succ n ih =>
    intro σ a0 a1 i2 j3 i5 y σf kr sr hf hE
    replace hf : b_X2_reduceByLimb_L23 (f_X2_reduceByLimb_L23 n) σ a0 a1 i2 j3 i5 = some (y, σf, kr, sr) := hf
    unfold b_X2_reduceByLimb_L23 at hf
    refine v_iload hC 4 dX2_reduceByLimb_23 rfl ?_
    refine v_if_lt hC hf dX2_reduceByLimb_25 (tgt := 76) (by decide) (fun hf => ?_) (fun hf => ?_)
    · obtain ⟨hX, e1, e2⟩ := v_exE (E := E_X2_reduceByLimb_L23 K a0 a1) hf hE
      rw [e1, e2]
      exact v_sub [(0, .ref a0), (1, .ref a1), (3, .long j3)] [0, 1, 3] rfl hX
    · refine v_at 28 rfl ?_
      refine v_lload_n hC 3 dX2_reduceByLimb_28 rfl ?_
      refine v_ldc2 hC dX2_reduceByLimb_29 w_218 ?_
      refine v_lmul hC dX2_reduceByLimb_32 ?_
      refine v_aload_n hC 0 dX2_reduceByLimb_33 rfl ?_
      refine v_getR hC (host := "") hf fd_2_0 w_85 dX2_reduceByLimb_34 (fun r5 hf => ?_)
      refine v_iload hC 4 dX2_reduceByLimb_37 rfl ?_
      refine v_ldI hC hf dX2_reduceByLimb_39 (fun x6 hf => ?_)
      refine v_i2l hC dX2_reduceByLimb_40 ?_
      refine v_at 41 rfl ?_
      refine v_ladd hC dX2_reduceByLimb_41 ?_
      refine v_ltL hf (fun l7 hf => ?_)
      refine v_lstore hC [(6, .long l7), (0, .ref a0), (1, .ref a1), (2, .int i2), (3, .long j3), (5, .int i5)] dX2_reduceByLimb_42 hN (Nat.le_of_ble_eq_true rfl) rfl ?_
      refine v_lload hC 0 dX2_reduceByLimb_44 rfl ?_
      refine v_iload_n hC 3 dX2_reduceByLimb_46 rfl ?_
      refine v_i2l hC dX2_reduceByLimb_47 ?_
      refine v_ldiv hC hf dX2_reduceByLimb_48 (fun l8 hf => ?_)
      refine v_lstore hC [(8, .long l8), (6, .long l7), (0, .ref a0), (1, .ref a1), (2, .int i2), (3, .long j3), (5, .int i5)] dX2_reduceByLimb_49 hN (Nat.le_of_ble_eq_true rfl) rfl ?_
      refine v_aload_n hC 3 dX2_reduceByLimb_51 rfl ?_
      refine v_at 52 rfl ?_
      refine v_getR hC (host := "") hf fd_2_0 w_85 dX2_reduceByLimb_52 (fun r9 hf => ?_)
      refine v_iload hC 6 dX2_reduceByLimb_55 rfl ?_
      refine v_lload hC 0 dX2_reduceByLimb_57 rfl ?_
      refine v_l2i hC dX2_reduceByLimb_59 ?_
      refine v_stI hC hf dX2_reduceByLimb_60 (fun σ10 hf => ?_)
      refine v_lload hC 1 dX2_reduceByLimb_61 rfl ?_
      refine v_lload hC 0 dX2_reduceByLimb_63 rfl ?_
      refine v_iload_n hC 4 dX2_reduceByLimb_65 rfl ?_
      refine v_at 66 rfl ?_
      refine v_i2l hC dX2_reduceByLimb_66 ?_
      refine v_lmul hC dX2_reduceByLimb_67 ?_
      refine v_lsub hC dX2_reduceByLimb_68 ?_
      refine v_ltL hf (fun l11 hf => ?_)
      refine v_lstore_n hC [(3, .long l11), (8, .long l8), (6, .long l7), (0, .ref a0), (1, .ref a1), (2, .int i2), (5, .int i5)] dX2_reduceByLimb_69 rfl hN (Nat.le_of_ble_eq_true rfl) rfl ?_
      refine v_incL hC hf 6 (fun x12 => [(5, .int x12), (3, .long l11), (8, .long l8), (6, .long l7), (0, .ref a0), (1, .ref a1), (2, .int i2)]) dX2_reduceByLimb_70 rfl (by decide) hN (Nat.le_of_ble_eq_true rfl) (fun _ => rfl) (fun x12 hf => ?_)
      refine v_goto (tgt := 23) hC dX2_reduceByLimb_73 (by decide) ?_
      exact v_sub [(0, .ref a0), (1, .ref a1), (2, .int i2), (3, .long l11), (5, .int x12)] [4, 5, 6, 1, 0] rfl (ih _ _ _ _ _ _ _ _ _ _ hf hE)
set_option maxHeartbeats 4000000 in
set_option maxRecDepth 100000 in
theorem m_X2_reduceByLimb {G : Gm} {l : Launch} {σ : St} {a0 : Nat} {a1 : Nat} {i2 : Int32} {r : Unit} {σf : St} {k s : Nat} (hf : f_X2_reduceByLimb σ a0 a1 i2 = some (r, σf, k, s)) : (∃ fs : List Value, σ.1 a0 = some (.inr (.inl (2, fs)))) ∧ Ct G l y_X2_reduceByLimb prog_4_method_23_code 10 none 3 69 [.ref a0, .ref a1, .int i2] σ none σf k s := by
  unfold f_X2_reduceByLimb at hf
  obtain ⟨hob, hf⟩ := ob_some hf
  refine ⟨hob, Ct.ofV pl_X2_reduceByLimb (Nat.le_of_ble_eq_true rfl) ?_⟩
  intro K hR hN hnm hC hE
  show V K (k + 0) (s + 0) σ 0 [(0, .ref a0), (1, .ref a1), (2, .int i2)] []
  refine v_iload_n hC 2 dX2_reduceByLimb_0 rfl ?_
  refine v_if_ne hC hf dX2_reduceByLimb_1 (tgt := 5) (by decide) (fun hf => ?_) (fun hf => ?_)
  · refine v_aload_n hC 1 dX2_reduceByLimb_5 rfl ?_
    refine v_aload_n hC 0 dX2_reduceByLimb_6 rfl ?_
    refine v_getI hC (host := "") hf fd_2_1 w_86 dX2_reduceByLimb_7 (fun x1 hf => ?_)
    refine v_cVE hC (y := y_X2_makeRoom) (ci := 2) [.int x1] [] (fun _ => none) (fun _ => []) hf (fun _ _ _ _ h => m_X2_makeRoom h) rfl (fun _ => rfl) rfl rfl hR (Nat.le_of_ble_eq_true rfl) (Nat.le_of_ble_eq_true rfl) w_249 w_246 w_248 w_1 w_59 nm_X2_makeRoom rfl (Nat.le_of_ble_eq_true rfl) dX2_reduceByLimb_10 (fun _ σ2 _ _ hf => ?_)
    refine v_lconst (v := 0) hC dX2_reduceByLimb_13 (by decide) ?_
    refine v_lstore_n hC [(3, .long 0), (0, .ref a0), (1, .ref a1), (2, .int i2)] dX2_reduceByLimb_14 rfl hN (Nat.le_of_ble_eq_true rfl) rfl ?_
    refine v_aload_n hC 1 dX2_reduceByLimb_15 rfl ?_
    refine v_getI hC (host := "") hf fd_2_1 w_86 dX2_reduceByLimb_16 (fun x3 hf => ?_)
    refine v_at 19 rfl ?_
    refine v_iconst (v := 1) hC dX2_reduceByLimb_19 (by decide) ?_
    refine v_isub hC dX2_reduceByLimb_20 ?_
    refine v_ltI hf (fun x4 hf => ?_)
    refine v_istore hC [(5, .int x4), (3, .long 0), (0, .ref a0), (1, .ref a1), (2, .int i2)] dX2_reduceByLimb_21 hN (Nat.le_of_ble_eq_true rfl) rfl ?_
    refine v_at 23 rfl ?_
    refine v_sub [(0, .ref a0), (1, .ref a1), (2, .int i2), (3, .long 0), (5, .int x4)] [2, 3, 4, 1, 0] rfl ?_
    refine v_lpE hf (E_X2_reduceByLimb_L23 K a0 a1) (fun _ _ _ _ _ _ h hE => v_X2_reduceByLimb_L23 hC hR hN _ _ _ _ _ _ _ _ _ _ _ h hE) (fun y13 σ14 _ _ hf => ?_)
    show V K _ _ σ14 76 [(0, .ref a0), (1, .ref a1), (3, .long y13)] []
    refine v_aload_n hC 1 dX2_reduceByLimb_76 rfl ?_
    refine v_aload_n hC 0 dX2_reduceByLimb_77 rfl ?_
    refine v_getI hC (host := "") hf fd_2_1 w_86 dX2_reduceByLimb_78 (fun x15 hf => ?_)
    refine v_put hC hf fd_2_1 w_86 rfl rfl dX2_reduceByLimb_81 (fun σ16 hf => ?_)
    refine v_aload_n hC 1 dX2_reduceByLimb_84 rfl ?_
    refine v_cVE hC (y := y_X2_trim) (ci := 2) [] [] (fun _ => none) (fun _ => []) hf (fun _ _ _ _ h => m_X2_trim h) rfl (fun _ => rfl) rfl rfl hR (Nat.le_of_ble_eq_true rfl) (Nat.le_of_ble_eq_true rfl) w_307 w_304 w_306 w_4 w_59 nm_X2_trim rfl (Nat.le_of_ble_eq_true rfl) dX2_reduceByLimb_85 (fun _ σ17 _ _ hf => ?_)
    refine v_aload_n hC 0 dX2_reduceByLimb_88 rfl ?_
    refine v_getR hC (host := "") hf fd_2_0 w_85 dX2_reduceByLimb_89 (fun r18 hf => ?_)
    refine v_at 92 rfl ?_
    refine v_iconst (v := 0) hC dX2_reduceByLimb_92 (by decide) ?_
    refine v_lload_n hC 2 dX2_reduceByLimb_93 rfl ?_
    refine v_l2i hC dX2_reduceByLimb_94 ?_
    refine v_stI hC hf dX2_reduceByLimb_95 (fun σ19 hf => ?_)
    refine v_aload_n hC 0 dX2_reduceByLimb_96 rfl ?_
    refine v_iconst (v := 1) hC dX2_reduceByLimb_97 (by decide) ?_
    refine v_put hC hf fd_2_1 w_86 rfl rfl dX2_reduceByLimb_98 (fun σ20 hf => ?_)
    refine v_aload_n hC 0 dX2_reduceByLimb_101 rfl ?_
    refine v_at 102 rfl ?_
    refine v_cVE hC (y := y_X2_trim) (ci := 2) [] [] (fun _ => none) (fun _ => []) hf (fun _ _ _ _ h => m_X2_trim h) rfl (fun _ => rfl) rfl rfl hR (Nat.le_of_ble_eq_true rfl) (Nat.le_of_ble_eq_true rfl) w_307 w_304 w_306 w_4 w_59 nm_X2_trim rfl (Nat.le_of_ble_eq_true rfl) dX2_reduceByLimb_102 (fun _ σ21 _ _ hf => ?_)
    exact v_retV hC hf hE dX2_reduceByLimb_105
  · refine v_at 4 rfl ?_
    exact v_retV hC hf hE dX2_reduceByLimb_4
set_option maxHeartbeats 4000000 in
set_option maxRecDepth 100000 in
theorem m_J9_min_f86c9 {G : Gm} {l : Launch} {σ : St} {j0 : Int64} {j2 : Int64} {r : Int64} (hf : f_J9_min_f86c9 σ j0 j2 = some r) : Ct G l y_J9_min_f86c9 prog_11_method_70_code 4 (some .long) 0 0 [.long j0, .long j2] σ (some (.long r)) σ 0 0 := by
  unfold f_J9_min_f86c9 at hf
  refine Ct.ofV pl_J9_min_f86c9 (Nat.le_of_ble_eq_true rfl) ?_
  intro K hR hN hnm hC hE
  show V K 0 0 σ 0 [(0, .long j0), (2, .long j2)] []
  refine v_lload_n hC 0 dJ9_min_f86c9_0 rfl ?_
  refine v_lload_n hC 1 dJ9_min_f86c9_1 rfl ?_
  refine v_lcmp_gt hC hf dJ9_min_f86c9_2 dJ9_min_f86c9_3 (tgt := 10) (by decide) (fun hf => ?_) (fun hf => ?_)
  · refine v_lload_n hC 1 dJ9_min_f86c9_10 rfl ?_
    exact v_retLP hC hf hE dJ9_min_f86c9_11
  · refine v_at 6 rfl ?_
    refine v_lload_n hC 0 dJ9_min_f86c9_6 rfl ?_
    refine v_goto (tgt := 11) hC dJ9_min_f86c9_7 (by decide) ?_
    exact v_retLP hC hf hE dJ9_min_f86c9_11
set_option maxHeartbeats 4000000 in
set_option maxRecDepth 100000 in
theorem m_X2_refine {G : Gm} {l : Launch} {σ : St} {j0 : Int64} {j2 : Int64} {j4 : Int64} {j6 : Int64} {j8 : Int64} {r : Int32} (hf : f_X2_refine σ j0 j2 j4 j6 j8 = some r) : Ct G l y_X2_refine prog_4_method_25_code 16 (some .int) 1 23 [.long j0, .long j2, .long j4, .long j6, .long j8] σ (some (.int r)) σ 0 0 := by
  unfold f_X2_refine at hf
  refine Ct.ofV pl_X2_refine (Nat.le_of_ble_eq_true rfl) ?_
  intro K hR hN hnm hC hE
  show V K 0 0 σ 0 [(0, .long j0), (2, .long j2), (4, .long j4), (6, .long j6), (8, .long j8)] []
  refine v_lload_n hC 0 dX2_refine_0 rfl ?_
  refine v_lload hC 3 dX2_refine_1 rfl ?_
  refine v_lmul hC dX2_refine_3 ?_
  refine v_lload_n hC 1 dX2_refine_4 rfl ?_
  refine v_ldc2 hC dX2_refine_5 w_218 ?_
  refine v_lmul hC dX2_refine_8 ?_
  refine v_lsub hC dX2_refine_9 ?_
  refine v_lload hC 4 dX2_refine_10 rfl ?_
  refine v_at 12 rfl ?_
  refine v_lsub hC dX2_refine_12 ?_
  refine v_ltL hf (fun l1 hf => ?_)
  refine v_lstore hC [(10, .long l1), (0, .long j0), (2, .long j2), (4, .long j4), (6, .long j6), (8, .long j8)] dX2_refine_13 hN (Nat.le_of_ble_eq_true rfl) rfl ?_
  refine v_lload hC 3 dX2_refine_15 rfl ?_
  refine v_ldc2 hC dX2_refine_17 w_218 ?_
  refine v_lmul hC dX2_refine_20 ?_
  refine v_lload hC 4 dX2_refine_21 rfl ?_
  refine v_ladd hC dX2_refine_23 ?_
  refine v_ltL hf (fun l2 hf => ?_)
  refine v_lstore hC [(12, .long l2), (10, .long l1), (0, .long j0), (2, .long j2), (4, .long j4), (6, .long j6), (8, .long j8)] dX2_refine_24 hN (Nat.le_of_ble_eq_true rfl) rfl ?_
  refine v_at 26 rfl ?_
  refine v_lload_n hC 2 dX2_refine_26 rfl ?_
  refine v_lstore hC [(14, .long j0), (12, .long l2), (10, .long l1), (0, .long j0), (2, .long j2), (4, .long j4), (6, .long j6), (8, .long j8)] dX2_refine_27 hN (Nat.le_of_ble_eq_true rfl) rfl ?_
  refine v_lload hC 2 dX2_refine_29 rfl ?_
  refine v_lconst (v := 0) hC dX2_refine_31 (by decide) ?_
  refine v_jnP hf (fun z3 => V K 0 0 σ 58 [(14, .long z3)] []) (fun z3 hf => ?_) (fun k3 hk3 hf => ?_)
  · refine v_lload hC 0 dX2_refine_58 rfl ?_
    refine v_ldc2 hC dX2_refine_60 w_386 ?_
    refine v_cSP hC (y := y_J9_min_f86c9) [.long z3, .long 999999999] [] (fun r => some (.long r)) (fun r => .long r :: []) hf (fun _ h => m_J9_min_f86c9 h) rfl (fun _ => rfl) hR (Nat.le_of_ble_eq_true rfl) (Nat.le_of_ble_eq_true rfl) w_389 w_387 w_388 w_65 nm_J9_min_f86c9 rfl (Nat.le_of_ble_eq_true rfl) dX2_refine_63 (fun l4 hf => ?_)
    refine v_l2i hC dX2_refine_66 ?_
    exact v_retIP hC hf hE dX2_refine_67
  · refine v_lcmp_le hC hf dX2_refine_32 dX2_refine_33 (tgt := 58) (by decide) (fun hf => ?_) (fun hf => ?_)
    · exact v_sub [(14, .long j0)] [0] rfl (hk3 _ hf)
    · refine v_at 36 rfl ?_
      refine v_lload hC 1 dX2_refine_36 rfl ?_
      refine v_lconst (v := 0) hC dX2_refine_38 (by decide) ?_
      refine v_lcmp_le hC hf dX2_refine_39 dX2_refine_40 (tgt := 58) (by decide) (fun hf => ?_) (fun hf => ?_)
      · exact v_sub [(14, .long j0)] [0] rfl (hk3 _ hf)
      · refine v_at 43 rfl ?_
        refine v_lload hC 0 dX2_refine_43 rfl ?_
        refine v_lload hC 2 dX2_refine_45 rfl ?_
        refine v_lload hC 1 dX2_refine_47 rfl ?_
        refine v_ladd hC dX2_refine_49 ?_
        refine v_lconst (v := 1) hC dX2_refine_50 (by decide) ?_
        refine v_lsub hC dX2_refine_51 ?_
        refine v_lload hC 1 dX2_refine_52 rfl ?_
        refine v_ldiv hC hf dX2_refine_54 (fun l5 hf => ?_)
        refine v_at 55 rfl ?_
        refine v_lsub hC dX2_refine_55 ?_
        refine v_ltL hf (fun l6 hf => ?_)
        refine v_lstore hC [(14, .long l6), (12, .long l2), (10, .long l1), (0, .long j0), (2, .long j2), (4, .long j4), (6, .long j6), (8, .long j8)] dX2_refine_56 hN (Nat.le_of_ble_eq_true rfl) rfl ?_
        refine v_at 58 rfl ?_
        exact v_sub [(14, .long l6)] [0] rfl (hk3 _ hf)
set_option maxHeartbeats 4000000 in
set_option maxRecDepth 100000 in
theorem m_X2_guessLimb {G : Gm} {l : Launch} {σ : St} {a0 : Nat} {a1 : Nat} {i2 : Int32} {i3 : Int32} {r : Int32} (hf : f_X2_guessLimb σ a0 a1 i2 i3 = some r) : (∃ fs : List Value, σ.1 a0 = some (.inr (.inl (2, fs)))) ∧ Ct G l y_X2_guessLimb prog_4_method_24_code 8 (some .int) 2 58 [.ref a0, .ref a1, .int i2, .int i3] σ (some (.int r)) σ 0 0 := by
  unfold f_X2_guessLimb at hf
  obtain ⟨hob, hf⟩ := ob_some hf
  refine ⟨hob, Ct.ofV pl_X2_guessLimb (Nat.le_of_ble_eq_true rfl) ?_⟩
  intro K hR hN hnm hC hE
  show V K 0 0 σ 0 [(0, .ref a0), (1, .ref a1), (2, .int i2), (3, .int i3)] []
  refine v_aload_n hC 1 dX2_guessLimb_0 rfl ?_
  refine v_iload_n hC 2 dX2_guessLimb_1 rfl ?_
  refine v_iconst (v := 1) hC dX2_guessLimb_2 (by decide) ?_
  refine v_isub hC dX2_guessLimb_3 ?_
  refine v_ldI hC hf dX2_guessLimb_4 (fun x1 hf => ?_)
  refine v_i2l hC dX2_guessLimb_5 ?_
  refine v_ltL hf (fun l2 hf => ?_)
  refine v_lstore hC [(4, .long l2), (0, .ref a0), (1, .ref a1), (2, .int i2), (3, .int i3)] dX2_guessLimb_6 hN (Nat.le_of_ble_eq_true rfl) rfl ?_
  refine v_lload hC 0 dX2_guessLimb_8 rfl ?_
  refine v_at 10 rfl ?_
  refine v_lconst (v := 0) hC dX2_guessLimb_10 (by decide) ?_
  refine v_lcmp_ne hC hf dX2_guessLimb_11 dX2_guessLimb_12 (tgt := 17) (by decide) (fun hf => ?_) (fun hf => ?_)
  · refine v_aload_n hC 1 dX2_guessLimb_17 rfl ?_
    refine v_getR hC (host := "") hf fd_2_0 w_85 dX2_guessLimb_18 (fun r3 hf => ?_)
    refine v_iload_n hC 4 dX2_guessLimb_21 rfl ?_
    refine v_ldI hC hf dX2_guessLimb_22 (fun x4 hf => ?_)
    refine v_i2l hC dX2_guessLimb_23 ?_
    refine v_ldc2 hC dX2_guessLimb_24 w_218 ?_
    refine v_lmul hC dX2_guessLimb_27 ?_
    refine v_aload_n hC 1 dX2_guessLimb_28 rfl ?_
    refine v_at 29 rfl ?_
    refine v_getR hC (host := "") hf fd_2_0 w_85 dX2_guessLimb_29 (fun r5 hf => ?_)
    refine v_iload_n hC 4 dX2_guessLimb_32 rfl ?_
    refine v_iconst (v := 1) hC dX2_guessLimb_33 (by decide) ?_
    refine v_isub hC dX2_guessLimb_34 ?_
    refine v_ldI hC hf dX2_guessLimb_35 (fun x6 hf => ?_)
    refine v_i2l hC dX2_guessLimb_36 ?_
    refine v_ladd hC dX2_guessLimb_37 ?_
    refine v_ltL hf (fun l7 hf => ?_)
    refine v_lstore hC [(6, .long l7), (4, .long l2), (0, .ref a0), (1, .ref a1), (2, .int i2), (3, .int i3)] dX2_guessLimb_38 hN (Nat.le_of_ble_eq_true rfl) rfl ?_
    refine v_at 40 rfl ?_
    refine v_lload hC 0 dX2_guessLimb_40 rfl ?_
    refine v_lload hC 1 dX2_guessLimb_42 rfl ?_
    refine v_ldiv hC hf dX2_guessLimb_44 (fun l8 hf => ?_)
    refine v_lload hC 0 dX2_guessLimb_45 rfl ?_
    refine v_lload hC 1 dX2_guessLimb_47 rfl ?_
    refine v_lrem hC hf dX2_guessLimb_49 (fun l9 hf => ?_)
    refine v_lload hC 1 dX2_guessLimb_50 rfl ?_
    refine v_aload_n hC 3 dX2_guessLimb_52 rfl ?_
    refine v_at 53 rfl ?_
    refine v_iload_n hC 4 dX2_guessLimb_53 rfl ?_
    refine v_iconst (v := 2) hC dX2_guessLimb_54 (by decide) ?_
    refine v_isub hC dX2_guessLimb_55 ?_
    refine v_ldI hC hf dX2_guessLimb_56 (fun x10 hf => ?_)
    refine v_i2l hC dX2_guessLimb_57 ?_
    refine v_aload_n hC 2 dX2_guessLimb_58 rfl ?_
    refine v_getR hC (host := "") hf fd_2_0 w_85 dX2_guessLimb_59 (fun r11 hf => ?_)
    refine v_iload_n hC 5 dX2_guessLimb_62 rfl ?_
    refine v_at 63 rfl ?_
    refine v_iconst (v := 2) hC dX2_guessLimb_63 (by decide) ?_
    refine v_isub hC dX2_guessLimb_64 ?_
    refine v_ldI hC hf dX2_guessLimb_65 (fun x12 hf => ?_)
    refine v_i2l hC dX2_guessLimb_66 ?_
    refine v_cSP hC (y := y_X2_refine) [.long l8, .long l9, .long l2, .long ((x10 : Int32).toInt64), .long ((x12 : Int32).toInt64)] [] (fun r => some (.int r)) (fun r => .int r :: []) hf (fun _ h => m_X2_refine h) rfl (fun _ => rfl) hR (Nat.le_of_ble_eq_true rfl) (Nat.le_of_ble_eq_true rfl) w_385 w_383 w_384 w_59 nm_X2_refine rfl (Nat.le_of_ble_eq_true rfl) dX2_guessLimb_67 (fun x13 hf => ?_)
    exact v_retIP hC hf hE dX2_guessLimb_70
  · refine v_at 15 rfl ?_
    refine v_iconst (v := 0) hC dX2_guessLimb_15 (by decide) ?_
    exact v_retIP hC hf hE dX2_guessLimb_16
def E_X2_subtractTimes_L12 (K : Cq)  (y : Int64) (σ : St) (kr sr : Nat) : Prop := V K kr sr σ 94 [(8, .long y)] []
set_option maxHeartbeats 4000000 in
set_option maxRecDepth 100000 in
theorem v_X2_subtractTimes_L12 {K : Cq} {k0 s0 : Nat} (hC : Cx K prog_4_method_27_code "TensMill$Natural") (hR : kR K = rmF 0 0 k0 s0) (hN : kn K = 14) {ko so : Nat} : ∀ (n : Nat) (σ : St) (a1 : Nat) (i3 : Int32) (j4 : Int64) (i6 : Int32) (a7 : Nat) (j8 : Int64) (i10 : Int32) (y : Int64) (σf : St) (kr sr : Nat), f_X2_subtractTimes_L12 n σ a1 i3 j4 i6 a7 j8 i10 = some (y, σf, kr, sr) → E_X2_subtractTimes_L12 K  y σf ko so → V K (kr + ko) (sr + so) σ 12 [(1, .ref a1), (3, .int i3), (4, .long j4), (6, .int i6), (7, .ref a7), (8, .long j8), (10, .int i10)] [] := by
  intro n
  induction n with
  | zero =>
    intro σ a1 i3 j4 i6 a7 j8 i10 y σf kr sr hf hE
    cases hf
  | succ n ih =>
    intro σ a1 i3 j4 i6 a7 j8 i10 y σf kr sr hf hE
    replace hf : b_X2_subtractTimes_L12 (f_X2_subtractTimes_L12 n) σ a1 i3 j4 i6 a7 j8 i10 = some (y, σf, kr, sr) := hf
    unfold b_X2_subtractTimes_L12 at hf
    refine v_iload hC 6 dX2_subtractTimes_12 rfl ?_
    refine v_iload_n hC 1 dX2_subtractTimes_14 rfl ?_
    refine v_icmp_ge hC hf dX2_subtractTimes_15 (tgt := 94) (by decide) (fun hf => ?_) (fun hf => ?_)
    · obtain ⟨hX, e1, e2⟩ := v_exE (E := E_X2_subtractTimes_L12 K ) hf hE
      rw [e1, e2]
      exact v_sub [(8, .long j8)] [5] rfl hX
    · refine v_at 18 rfl ?_
      refine v_aload_n hC 0 dX2_subtractTimes_18 rfl ?_
      refine v_iload hC 6 dX2_subtractTimes_19 rfl ?_
      refine v_ldI hC hf dX2_subtractTimes_21 (fun x2 hf => ?_)
      refine v_i2l hC dX2_subtractTimes_22 ?_
      refine v_lload hC 2 dX2_subtractTimes_23 rfl ?_
      refine v_lmul hC dX2_subtractTimes_25 ?_
      refine v_lload hC 5 dX2_subtractTimes_26 rfl ?_
      refine v_ladd hC dX2_subtractTimes_28 ?_
      refine v_at 29 rfl ?_
      refine v_ltL hf (fun l3 hf => ?_)
      refine v_lstore hC [(11, .long l3), (1, .ref a1), (3, .int i3), (4, .long j4), (6, .int i6), (7, .ref a7), (8, .long j8), (10, .int i10)] dX2_subtractTimes_29 hN (Nat.le_of_ble_eq_true rfl) rfl ?_
      refine v_lload hC 0 dX2_subtractTimes_31 rfl ?_
      refine v_ldc2 hC dX2_subtractTimes_33 w_218 ?_
      refine v_ldiv hC hf dX2_subtractTimes_36 (fun l4 hf => ?_)
      refine v_lstore hC [(8, .long l4), (11, .long l3), (1, .ref a1), (3, .int i3), (4, .long j4), (6, .int i6), (7, .ref a7), (10, .int i10)] dX2_subtractTimes_37 hN (Nat.le_of_ble_eq_true rfl) rfl ?_
      refine v_aload hC 6 dX2_subtractTimes_39 rfl ?_
      refine v_iload hC 7 dX2_subtractTimes_41 rfl ?_
      refine v_iload hC 5 dX2_subtractTimes_43 rfl ?_
      refine v_at 45 rfl ?_
      refine v_iadd hC dX2_subtractTimes_45 ?_
      refine v_ldI hC hf dX2_subtractTimes_46 (fun x5 hf => ?_)
      refine v_lload hC 1 dX2_subtractTimes_47 rfl ?_
      refine v_lload hC 0 dX2_subtractTimes_49 rfl ?_
      refine v_ldc2 hC dX2_subtractTimes_51 w_218 ?_
      refine v_lmul hC dX2_subtractTimes_54 ?_
      refine v_lsub hC dX2_subtractTimes_55 ?_
      refine v_l2i hC dX2_subtractTimes_56 ?_
      refine v_at 57 rfl ?_
      refine v_isub hC dX2_subtractTimes_57 ?_
      refine v_ltI hf (fun x6 hf => ?_)
      refine v_istore hC [(13, .int x6), (8, .long l4), (11, .long l3), (1, .ref a1), (3, .int i3), (4, .long j4), (6, .int i6), (7, .ref a7), (10, .int i10)] dX2_subtractTimes_58 hN (Nat.le_of_ble_eq_true rfl) rfl ?_
      refine v_iload hC 0 dX2_subtractTimes_60 rfl ?_
      refine v_jnE hf (fun z7 kr sr => V K (kr + ko) (sr + so) σ 78 [(1, .ref a1), (3, .int i3), (4, .long j4), (6, .int i6), (7, .ref a7), (8, .long z7.1), (10, .int i10), (13, .int z7.2)] []) (fun z7 _ _ hf => ?_) (fun k7 hk7 hf => ?_)
      · refine v_aload hC 4 dX2_subtractTimes_78 rfl ?_
        refine v_iload hC 6 dX2_subtractTimes_80 rfl ?_
        refine v_iload hC 3 dX2_subtractTimes_82 rfl ?_
        refine v_iadd hC dX2_subtractTimes_84 ?_
        refine v_iload hC 7 dX2_subtractTimes_85 rfl ?_
        refine v_stI hC hf dX2_subtractTimes_87 (fun σ8 hf => ?_)
        refine v_incL hC hf 6 (fun x9 => [(10, .int x9), (1, .ref a1), (3, .int i3), (4, .long j4), (6, .int i6), (7, .ref a7), (8, .long z7.1), (13, .int z7.2)]) dX2_subtractTimes_88 rfl (by decide) hN (Nat.le_of_ble_eq_true rfl) (fun _ => rfl) (fun x9 hf => ?_)
        refine v_goto (tgt := 12) hC dX2_subtractTimes_91 (by decide) ?_
        exact v_sub [(1, .ref a1), (3, .int i3), (4, .long j4), (6, .int i6), (7, .ref a7), (8, .long z7.1), (10, .int x9)] [1, 2, 3, 4, 5, 6, 0] rfl (ih _ _ _ _ _ _ _ _ _ _ _ _ hf hE)
      · refine v_if_ge hC hf dX2_subtractTimes_62 (tgt := 78) (by decide) (fun hf => ?_) (fun hf => ?_)
        · exact v_sub [(1, .ref a1), (3, .int i3), (4, .long j4), (6, .int i6), (7, .ref a7), (8, .long l4), (10, .int i10), (13, .int x6)] [3, 4, 5, 6, 7, 1, 8, 0] rfl (hk7 _ _ _ hf)
        · refine v_at 65 rfl ?_
          refine v_iload hC 0 dX2_subtractTimes_65 rfl ?_
          refine v_ldc hC dX2_subtractTimes_67 w_312 ?_
          refine v_iadd hC dX2_subtractTimes_69 ?_
          refine v_ltI hf (fun x10 hf => ?_)
          refine v_istore hC [(13, .int x10), (8, .long l4), (11, .long l3), (1, .ref a1), (3, .int i3), (4, .long j4), (6, .int i6), (7, .ref a7), (10, .int i10)] dX2_subtractTimes_70 hN (Nat.le_of_ble_eq_true rfl) rfl ?_
          refine v_lload hC 1 dX2_subtractTimes_72 rfl ?_
          refine v_lconst (v := 1) hC dX2_subtractTimes_74 (by decide) ?_
          refine v_ladd hC dX2_subtractTimes_75 ?_
          refine v_ltL hf (fun l11 hf => ?_)
          refine v_lstore hC [(8, .long l11), (13, .int x10), (11, .long l3), (1, .ref a1), (3, .int i3), (4, .long j4), (6, .int i6), (7, .ref a7), (10, .int i10)] dX2_subtractTimes_76 hN (Nat.le_of_ble_eq_true rfl) rfl ?_
          refine v_at 78 rfl ?_
          exact v_sub [(1, .ref a1), (3, .int i3), (4, .long j4), (6, .int i6), (7, .ref a7), (8, .long l11), (10, .int i10), (13, .int x10)] [3, 4, 5, 6, 7, 0, 8, 1] rfl (hk7 _ _ _ hf)
set_option maxHeartbeats 4000000 in
set_option maxRecDepth 100000 in
theorem m_X2_subtractTimes {G : Gm} {l : Launch} {σ : St} {a0 : Nat} {a1 : Nat} {i2 : Int32} {i3 : Int32} {j4 : Int64} {i6 : Int32} {r : Int64} {σf : St} {k s : Nat} (hf : f_X2_subtractTimes σ a0 a1 i2 i3 j4 i6 = some (r, σf, k, s)) : (∃ fs : List Value, σ.1 a0 = some (.inr (.inl (2, fs)))) ∧ Ct G l y_X2_subtractTimes prog_4_method_27_code 14 (some .long) 0 0 [.ref a0, .ref a1, .int i2, .int i3, .long j4, .int i6] σ (some (.long r)) σf k s := by
  unfold f_X2_subtractTimes at hf
  obtain ⟨hob, hf⟩ := ob_some hf
  refine ⟨hob, Ct.ofV pl_X2_subtractTimes (Nat.le_of_ble_eq_true rfl) ?_⟩
  intro K hR hN hnm hC hE
  show V K (k + 0) (s + 0) σ 0 [(0, .ref a0), (1, .ref a1), (2, .int i2), (3, .int i3), (4, .long j4), (6, .int i6)] []
  refine v_aload_n hC 0 dX2_subtractTimes_0 rfl ?_
  refine v_getR hC (host := "") hf fd_2_0 w_85 dX2_subtractTimes_1 (fun r1 hf => ?_)
  refine v_astore hC [(7, .ref r1), (0, .ref a0), (1, .ref a1), (2, .int i2), (3, .int i3), (4, .long j4), (6, .int i6)] dX2_subtractTimes_4 hN (Nat.le_of_ble_eq_true rfl) rfl ?_
  refine v_lconst (v := 0) hC dX2_subtractTimes_6 (by decide) ?_
  refine v_lstore hC [(8, .long 0), (7, .ref r1), (0, .ref a0), (1, .ref a1), (2, .int i2), (3, .int i3), (4, .long j4), (6, .int i6)] dX2_subtractTimes_7 hN (Nat.le_of_ble_eq_true rfl) rfl ?_
  refine v_iload_n hC 4 dX2_subtractTimes_9 rfl ?_
  refine v_istore hC [(10, .int i2), (8, .long 0), (7, .ref r1), (0, .ref a0), (1, .ref a1), (2, .int i2), (3, .int i3), (4, .long j4), (6, .int i6)] dX2_subtractTimes_10 hN (Nat.le_of_ble_eq_true rfl) rfl ?_
  refine v_at 12 rfl ?_
  refine v_sub [(1, .ref a1), (3, .int i3), (4, .long j4), (6, .int i6), (7, .ref r1), (8, .long 0), (10, .int i2)] [4, 6, 7, 8, 2, 1, 0] rfl ?_
  refine v_lpE hf (E_X2_subtractTimes_L12 K ) (fun _ _ _ _ _ _ h hE => v_X2_subtractTimes_L12 hC hR hN _ _ _ _ _ _ _ _ _ _ _ _ _ h hE) (fun y12 σ13 _ _ hf => ?_)
  show V K _ _ σ13 94 [(8, .long y12)] []
  refine v_lload hC 0 dX2_subtractTimes_94 rfl ?_
  exact v_retL hC hf hE dX2_subtractTimes_96
def E_X2_addBack_L12 (K : Cq)  (y : Int64) (σ : St) (kr sr : Nat) : Prop := V K kr sr σ 70 [(6, .long y)] []
set_option maxHeartbeats 4000000 in
set_option maxRecDepth 100000 in
theorem v_X2_addBack_L12 {K : Cq} {k0 s0 : Nat} (hC : Cx K prog_4_method_28_code "TensMill$Natural") (hR : kR K = rmF 0 0 k0 s0) (hN : kn K = 11) {ko so : Nat} : ∀ (n : Nat) (σ : St) (a1 : Nat) (i3 : Int32) (i4 : Int32) (a5 : Nat) (j6 : Int64) (i8 : Int32) (y : Int64) (σf : St) (kr sr : Nat), f_X2_addBack_L12 n σ a1 i3 i4 a5 j6 i8 = some (y, σf, kr, sr) → E_X2_addBack_L12 K  y σf ko so → V K (kr + ko) (sr + so) σ 12 [(1, .ref a1), (3, .int i3), (4, .int i4), (5, .ref a5), (6, .long j6), (8, .int i8)] [] := by
  intro n
  induction n with
  | zero =>
    intro σ a1 i3 i4 a5 j6 i8 y σf kr sr hf hE
    cases hf
  | succ n ih =>
    intro σ a1 i3 i4 a5 j6 i8 y σf kr sr hf hE
    replace hf : b_X2_addBack_L12 (f_X2_addBack_L12 n) σ a1 i3 i4 a5 j6 i8 = some (y, σf, kr, sr) := hf
    unfold b_X2_addBack_L12 at hf
    refine v_iload hC 5 dX2_addBack_12 rfl ?_
    refine v_iload_n hC 1 dX2_addBack_14 rfl ?_
    refine v_icmp_ge hC hf dX2_addBack_15 (tgt := 70) (by decide) (fun hf => ?_) (fun hf => ?_)
    · obtain ⟨hX, e1, e2⟩ := v_exE (E := E_X2_addBack_L12 K ) hf hE
      rw [e1, e2]
      exact v_sub [(6, .long j6)] [4] rfl hX
    · refine v_at 18 rfl ?_
      refine v_aload hC 3 dX2_addBack_18 rfl ?_
      refine v_iload hC 5 dX2_addBack_20 rfl ?_
      refine v_iload hC 2 dX2_addBack_22 rfl ?_
      refine v_iadd hC dX2_addBack_24 ?_
      refine v_ldI hC hf dX2_addBack_25 (fun x2 hf => ?_)
      refine v_i2l hC dX2_addBack_26 ?_
      refine v_aload_n hC 0 dX2_addBack_27 rfl ?_
      refine v_iload hC 5 dX2_addBack_28 rfl ?_
      refine v_at 30 rfl ?_
      refine v_ldI hC hf dX2_addBack_30 (fun x3 hf => ?_)
      refine v_i2l hC dX2_addBack_31 ?_
      refine v_ladd hC dX2_addBack_32 ?_
      refine v_lload hC 4 dX2_addBack_33 rfl ?_
      refine v_ladd hC dX2_addBack_35 ?_
      refine v_ltL hf (fun l4 hf => ?_)
      refine v_lstore hC [(9, .long l4), (1, .ref a1), (3, .int i3), (4, .int i4), (5, .ref a5), (6, .long j6), (8, .int i8)] dX2_addBack_36 hN (Nat.le_of_ble_eq_true rfl) rfl ?_
      refine v_lload hC 0 dX2_addBack_38 rfl ?_
      refine v_ldc2 hC dX2_addBack_40 w_218 ?_
      refine v_at 43 rfl ?_
      refine v_ldiv hC hf dX2_addBack_43 (fun l5 hf => ?_)
      refine v_lstore hC [(6, .long l5), (9, .long l4), (1, .ref a1), (3, .int i3), (4, .int i4), (5, .ref a5), (8, .int i8)] dX2_addBack_44 hN (Nat.le_of_ble_eq_true rfl) rfl ?_
      refine v_aload hC 5 dX2_addBack_46 rfl ?_
      refine v_iload hC 6 dX2_addBack_48 rfl ?_
      refine v_iload hC 4 dX2_addBack_50 rfl ?_
      refine v_iadd hC dX2_addBack_52 ?_
      refine v_lload hC 1 dX2_addBack_53 rfl ?_
      refine v_lload hC 0 dX2_addBack_55 rfl ?_
      refine v_at 57 rfl ?_
      refine v_ldc2 hC dX2_addBack_57 w_218 ?_
      refine v_lmul hC dX2_addBack_60 ?_
      refine v_lsub hC dX2_addBack_61 ?_
      refine v_l2i hC dX2_addBack_62 ?_
      refine v_stI hC hf dX2_addBack_63 (fun σ6 hf => ?_)
      refine v_incL hC hf 6 (fun x7 => [(8, .int x7), (6, .long l5), (9, .long l4), (1, .ref a1), (3, .int i3), (4, .int i4), (5, .ref a5)]) dX2_addBack_64 rfl (by decide) hN (Nat.le_of_ble_eq_true rfl) (fun _ => rfl) (fun x7 hf => ?_)
      refine v_goto (tgt := 12) hC dX2_addBack_67 (by decide) ?_
      exact v_sub [(1, .ref a1), (3, .int i3), (4, .int i4), (5, .ref a5), (6, .long l5), (8, .int x7)] [3, 4, 5, 6, 1, 0] rfl (ih _ _ _ _ _ _ _ _ _ _ _ hf hE)
set_option maxHeartbeats 4000000 in
set_option maxRecDepth 100000 in
theorem m_X2_addBack {G : Gm} {l : Launch} {σ : St} {a0 : Nat} {a1 : Nat} {i2 : Int32} {i3 : Int32} {i4 : Int32} {r : Int64} {σf : St} {k s : Nat} (hf : f_X2_addBack σ a0 a1 i2 i3 i4 = some (r, σf, k, s)) : (∃ fs : List Value, σ.1 a0 = some (.inr (.inl (2, fs)))) ∧ Ct G l y_X2_addBack prog_4_method_28_code 11 (some .long) 0 0 [.ref a0, .ref a1, .int i2, .int i3, .int i4] σ (some (.long r)) σf k s := by
  unfold f_X2_addBack at hf
  obtain ⟨hob, hf⟩ := ob_some hf
  refine ⟨hob, Ct.ofV pl_X2_addBack (Nat.le_of_ble_eq_true rfl) ?_⟩
  intro K hR hN hnm hC hE
  show V K (k + 0) (s + 0) σ 0 [(0, .ref a0), (1, .ref a1), (2, .int i2), (3, .int i3), (4, .int i4)] []
  refine v_aload_n hC 0 dX2_addBack_0 rfl ?_
  refine v_getR hC (host := "") hf fd_2_0 w_85 dX2_addBack_1 (fun r1 hf => ?_)
  refine v_astore hC [(5, .ref r1), (0, .ref a0), (1, .ref a1), (2, .int i2), (3, .int i3), (4, .int i4)] dX2_addBack_4 hN (Nat.le_of_ble_eq_true rfl) rfl ?_
  refine v_lconst (v := 0) hC dX2_addBack_6 (by decide) ?_
  refine v_lstore hC [(6, .long 0), (5, .ref r1), (0, .ref a0), (1, .ref a1), (2, .int i2), (3, .int i3), (4, .int i4)] dX2_addBack_7 hN (Nat.le_of_ble_eq_true rfl) rfl ?_
  refine v_iload_n hC 4 dX2_addBack_9 rfl ?_
  refine v_istore hC [(8, .int i2), (6, .long 0), (5, .ref r1), (0, .ref a0), (1, .ref a1), (2, .int i2), (3, .int i3), (4, .int i4)] dX2_addBack_10 hN (Nat.le_of_ble_eq_true rfl) rfl ?_
  refine v_at 12 rfl ?_
  refine v_sub [(1, .ref a1), (3, .int i3), (4, .int i4), (5, .ref r1), (6, .long 0), (8, .int i2)] [4, 6, 7, 2, 1, 0] rfl ?_
  refine v_lpE hf (E_X2_addBack_L12 K ) (fun _ _ _ _ _ _ h hE => v_X2_addBack_L12 hC hR hN _ _ _ _ _ _ _ _ _ _ _ _ h hE) (fun y8 σ9 _ _ hf => ?_)
  show V K _ _ σ9 70 [(6, .long y8)] []
  refine v_lload hC 0 dX2_addBack_70 rfl ?_
  exact v_retL hC hf hE dX2_addBack_72
set_option maxHeartbeats 4000000 in
set_option maxRecDepth 100000 in
theorem m_X2_takeLimb {G : Gm} {l : Launch} {σ : St} {a0 : Nat} {a1 : Nat} {i2 : Int32} {i3 : Int32} {i4 : Int32} {r : Int32} {σf : St} {k s : Nat} (hf : f_X2_takeLimb σ a0 a1 i2 i3 i4 = some (r, σf, k, s)) : (∃ fs : List Value, σ.1 a0 = some (.inr (.inl (2, fs)))) ∧ Ct G l y_X2_takeLimb prog_4_method_26_code 8 (some .int) 1 33 [.ref a0, .ref a1, .int i2, .int i3, .int i4] σ (some (.int r)) σf k s := by
  unfold f_X2_takeLimb at hf
  obtain ⟨hob, hf⟩ := ob_some hf
  refine ⟨hob, Ct.ofV pl_X2_takeLimb (Nat.le_of_ble_eq_true rfl) ?_⟩
  intro K hR hN hnm hC hE
  show V K (k + 0) (s + 0) σ 0 [(0, .ref a0), (1, .ref a1), (2, .int i2), (3, .int i3), (4, .int i4)] []
  refine v_iload hC 4 dX2_takeLimb_0 rfl ?_
  refine v_istore hC [(5, .int i4), (0, .ref a0), (1, .ref a1), (2, .int i2), (3, .int i3), (4, .int i4)] dX2_takeLimb_2 hN (Nat.le_of_ble_eq_true rfl) rfl ?_
  refine v_aload_n hC 1 dX2_takeLimb_4 rfl ?_
  refine v_getR hC (host := "") hf fd_2_0 w_85 dX2_takeLimb_5 (fun r1 hf => ?_)
  refine v_iload_n hC 4 dX2_takeLimb_8 rfl ?_
  refine v_iload_n hC 3 dX2_takeLimb_9 rfl ?_
  refine v_iadd hC dX2_takeLimb_10 ?_
  refine v_ldI hC hf dX2_takeLimb_11 (fun x2 hf => ?_)
  refine v_at 12 rfl ?_
  refine v_i2l hC dX2_takeLimb_12 ?_
  refine v_aload_n hC 1 dX2_takeLimb_13 rfl ?_
  refine v_aload_n hC 2 dX2_takeLimb_14 rfl ?_
  refine v_iconst (v := 0) hC dX2_takeLimb_15 (by decide) ?_
  refine v_iload_n hC 3 dX2_takeLimb_16 rfl ?_
  refine v_iload hC 0 dX2_takeLimb_17 rfl ?_
  refine v_i2l hC dX2_takeLimb_19 ?_
  refine v_iload_n hC 4 dX2_takeLimb_20 rfl ?_
  refine v_at 21 rfl ?_
  refine v_cVE hC (y := y_X2_subtractTimes) (ci := 2) [.ref a1, .int 0, .int i2, .long ((i4 : Int32).toInt64), .int i3] [.long ((x2 : Int32).toInt64)] (fun r => some (.long r)) (fun r => .long r :: [.long ((x2 : Int32).toInt64)]) hf (fun _ _ _ _ h => m_X2_subtractTimes h) rfl (fun _ => rfl) rfl rfl hR (Nat.le_of_ble_eq_true rfl) (Nat.le_of_ble_eq_true rfl) w_397 w_394 w_396 w_11 w_59 nm_X2_subtractTimes rfl (Nat.le_of_ble_eq_true rfl) dX2_takeLimb_21 (fun l3 σ4 _ _ hf => ?_)
  refine v_lsub hC dX2_takeLimb_24 ?_
  refine v_ltL hf (fun l5 hf => ?_)
  refine v_lstore hC [(6, .long l5), (5, .int i4), (0, .ref a0), (1, .ref a1), (2, .int i2), (3, .int i3), (4, .int i4)] dX2_takeLimb_25 hN (Nat.le_of_ble_eq_true rfl) rfl ?_
  refine v_lload hC 0 dX2_takeLimb_27 rfl ?_
  refine v_lconst (v := 0) hC dX2_takeLimb_29 (by decide) ?_
  refine v_jnE hf (fun z6 kr sr => V K (kr + 0) (sr + 0) z6.2.2 50 [(0, .ref a0), (2, .int i2), (3, .int i3), (5, .int z6.1), (6, .long z6.2.1)] []) (fun z6 _ _ hf => ?_) (fun k6 hk6 hf => ?_)
  · refine v_aload_n hC 0 dX2_takeLimb_50 rfl ?_
    refine v_getR hC (host := "") hf fd_2_0 w_85 dX2_takeLimb_51 (fun r7 hf => ?_)
    refine v_iload_n hC 2 dX2_takeLimb_54 rfl ?_
    refine v_iload_n hC 1 dX2_takeLimb_55 rfl ?_
    refine v_iadd hC dX2_takeLimb_56 ?_
    refine v_lload hC 4 dX2_takeLimb_57 rfl ?_
    refine v_l2i hC dX2_takeLimb_59 ?_
    refine v_stI hC hf dX2_takeLimb_60 (fun σ8 hf => ?_)
    refine v_at 61 rfl ?_
    refine v_iload hC 3 dX2_takeLimb_61 rfl ?_
    exact v_retI hC hf hE dX2_takeLimb_63
  · refine v_lcmp_ge hC hf dX2_takeLimb_30 dX2_takeLimb_31 (tgt := 50) (by decide) (fun hf => ?_) (fun hf => ?_)
    · exact v_sub [(0, .ref a0), (2, .int i2), (3, .int i3), (5, .int i4), (6, .long l5)] [2, 4, 5, 1, 0] rfl (hk6 _ _ _ hf)
    · refine v_at 34 rfl ?_
      refine v_incL hC hf 1 (fun x9 => [(5, .int x9), (6, .long l5), (0, .ref a0), (1, .ref a1), (2, .int i2), (3, .int i3), (4, .int i4)]) dX2_takeLimb_34 rfl (by decide) hN (Nat.le_of_ble_eq_true rfl) (fun _ => rfl) (fun x9 hf => ?_)
      refine v_lload hC 1 dX2_takeLimb_37 rfl ?_
      refine v_aload_n hC 2 dX2_takeLimb_39 rfl ?_
      refine v_aload_n hC 3 dX2_takeLimb_40 rfl ?_
      refine v_iconst (v := 0) hC dX2_takeLimb_41 (by decide) ?_
      refine v_iload_n hC 4 dX2_takeLimb_42 rfl ?_
      refine v_iload_n hC 5 dX2_takeLimb_43 rfl ?_
      refine v_cVE hC (y := y_X2_addBack) (ci := 2) [.ref a1, .int 0, .int i2, .int i3] [.long l5] (fun r => some (.long r)) (fun r => .long r :: [.long l5]) hf (fun _ _ _ _ h => m_X2_addBack h) rfl (fun _ => rfl) rfl rfl hR (Nat.le_of_ble_eq_true rfl) (Nat.le_of_ble_eq_true rfl) w_401 w_398 w_400 w_12 w_59 nm_X2_addBack rfl (Nat.le_of_ble_eq_true rfl) dX2_takeLimb_44 (fun l10 σ11 _ _ hf => ?_)
      refine v_at 47 rfl ?_
      refine v_ladd hC dX2_takeLimb_47 ?_
      refine v_ltL hf (fun l12 hf => ?_)
      refine v_lstore hC [(6, .long l12), (5, .int x9), (0, .ref a0), (1, .ref a1), (2, .int i2), (3, .int i3), (4, .int i4)] dX2_takeLimb_48 hN (Nat.le_of_ble_eq_true rfl) rfl ?_
      refine v_at 50 rfl ?_
      exact v_sub [(0, .ref a0), (2, .int i2), (3, .int i3), (5, .int x9), (6, .long l12)] [2, 4, 5, 1, 0] rfl (hk6 _ _ _ hf)
