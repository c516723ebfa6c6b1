def E_X6_plain_L101 (K : Cq) (a0 : Nat) (i1 : Int32) (i3 : Int32) (y : Unit) (σ : St) (kr sr : Nat) : Prop := V K kr sr σ 126 [(0, .ref a0), (1, .int i1), (3, .int i3)] []
set_option maxHeartbeats 4000000 in
set_option maxRecDepth 100000 in
theorem v_X6_plain_L101 {K : Cq} {k0 s0 : Nat} (hC : Cx K prog_8_method_57_code "TensMillModel") (hR : kR K = rmF 1 22 k0 s0) (hN : kn K = 6) {ko so : Nat} : ∀ (n : Nat) (σ : St) (a0 : Nat) (i1 : Int32) (i2 : Int32) (i3 : Int32) (i5 : Int32) (y : Unit) (σf : St) (kr sr : Nat), f_X6_plain_L101 n σ a0 i1 i2 i3 i5 = some (y, σf, kr, sr) → E_X6_plain_L101 K a0 i1 i3 y σf ko so → V K (kr + ko) (sr + so) σ 101 [(0, .ref a0), (1, .int i1), (2, .int i2), (3, .int i3), (5, .int i5)] [] := by
  intro n
  induction n with
  | zero =>
    intro σ a0 i1 i2 i3 i5 y σf kr sr hf hE
    cases hf
  | succ n ih =>
    intro σ a0 i1 i2 i3 i5 y σf kr sr hf hE
    replace hf : b_X6_plain_L101 (f_X6_plain_L101 n) σ a0 i1 i2 i3 i5 = some (y, σf, kr, sr) := hf
    unfold b_X6_plain_L101 at hf
    refine v_iload hC 4 dX6_plain_101 rfl ?_
    refine v_iload_n hC 2 dX6_plain_103 rfl ?_
    refine v_icmp_ge hC hf dX6_plain_104 (tgt := 126) (by decide) (fun hf => ?_) (fun hf => ?_)
    · obtain ⟨hX, e1, e2⟩ := v_exE (E := E_X6_plain_L101 K a0 i1 i3) hf hE
      rw [e1, e2]
      exact v_sub [(0, .ref a0), (1, .int i1), (3, .int i3)] [0, 1, 3] rfl hX
    · refine v_at 107 rfl ?_
      refine v_aload_n hC 0 dX6_plain_107 rfl ?_
      refine v_aload_n hC 0 dX6_plain_108 rfl ?_
      refine v_iload_n hC 1 dX6_plain_109 rfl ?_
      refine v_iload hC 4 dX6_plain_110 rfl ?_
      refine v_cVP hC (y := y_X6_front) (ci := 6) [.int i1, .int i5] [.ref a0] (fun r => some (.int r)) (fun r => .int r :: [.ref a0]) hf (fun _ h => m_X6_front h) rfl (fun _ => rfl) rfl rfl hR (Nat.le_of_ble_eq_true rfl) (Nat.le_of_ble_eq_true rfl) w_921 w_918 w_920 w_54 w_64 nm_X6_front rfl (Nat.le_of_ble_eq_true rfl) dX6_plain_112 (fun x4 hf => ?_)
      refine v_cVE hC (y := y_X6_mark) (ci := 6) [.int x4] [] (fun r => some (.int r)) (fun r => .int r :: []) hf (fun _ _ _ _ h => m_X6_mark h) rfl (fun _ => rfl) rfl rfl hR (Nat.le_of_ble_eq_true rfl) (Nat.le_of_ble_eq_true rfl) w_913 w_910 w_912 w_52 w_64 nm_X6_mark rfl (Nat.le_of_ble_eq_true rfl) dX6_plain_115 (fun x5 σ6 _ _ hf => ?_)
      refine v_istore hC [(4, .int x5), (0, .ref a0), (1, .int i1), (2, .int i2), (3, .int i3), (5, .int i5)] dX6_plain_118 hN (Nat.le_of_ble_eq_true rfl) rfl ?_
      refine v_incL hC hf 5 (fun x7 => [(5, .int x7), (4, .int x5), (0, .ref a0), (1, .int i1), (2, .int i2), (3, .int i3)]) dX6_plain_120 rfl (by decide) hN (Nat.le_of_ble_eq_true rfl) (fun _ => rfl) (fun x7 hf => ?_)
      refine v_at 123 rfl ?_
      refine v_goto (tgt := 101) hC dX6_plain_123 (by decide) ?_
      exact v_sub [(0, .ref a0), (1, .int i1), (2, .int i2), (3, .int i3), (5, .int x7)] [2, 3, 4, 5, 0] rfl (ih _ _ _ _ _ _ _ _ _ _ hf hE)
def E_X6_plain_L129 (K : Cq)  (y : Unit) (σ : St) (kr sr : Nat) : Prop := V K kr sr σ 159 [] []
set_option maxHeartbeats 4000000 in
set_option maxRecDepth 100000 in
theorem v_X6_plain_L129 {K : Cq} {k0 s0 : Nat} (hC : Cx K prog_8_method_57_code "TensMillModel") (hR : kR K = rmF 1 22 k0 s0) (hN : kn K = 6) {ko so : Nat} : ∀ (n : Nat) (σ : St) (a0 : Nat) (i1 : Int32) (i3 : Int32) (i5 : Int32) (y : Unit) (σf : St) (kr sr : Nat), f_X6_plain_L129 n σ a0 i1 i3 i5 = some (y, σf, kr, sr) → E_X6_plain_L129 K  y σf ko so → V K (kr + ko) (sr + so) σ 129 [(0, .ref a0), (1, .int i1), (3, .int i3), (5, .int i5)] [] := by
  intro n
  induction n with
  | zero =>
    intro σ a0 i1 i3 i5 y σf kr sr hf hE
    cases hf
  | succ n ih =>
    intro σ a0 i1 i3 i5 y σf kr sr hf hE
    replace hf : b_X6_plain_L129 (f_X6_plain_L129 n) σ a0 i1 i3 i5 = some (y, σf, kr, sr) := hf
    unfold b_X6_plain_L129 at hf
    refine v_iload hC 3 dX6_plain_129 rfl ?_
    refine v_iload_n hC 2 dX6_plain_131 rfl ?_
    refine v_ineg hC dX6_plain_132 ?_
    refine v_icmp_ge hC hf dX6_plain_133 (tgt := 159) (by decide) (fun hf => ?_) (fun hf => ?_)
    · obtain ⟨hX, e1, e2⟩ := v_exE (E := E_X6_plain_L129 K ) hf hE
      rw [e1, e2]
      exact v_sub [] [] rfl hX
    · refine v_at 136 rfl ?_
      refine v_aload_n hC 0 dX6_plain_136 rfl ?_
      refine v_getR hC (host := "") hf fd_6_1 w_659 dX6_plain_137 (fun r10 hf => ?_)
      refine v_iload_n hC 1 dX6_plain_140 rfl ?_
      refine v_ldI hC hf dX6_plain_141 (fun x11 hf => ?_)
      refine v_if_le hC hf dX6_plain_142 (tgt := 159) (by decide) (fun hf => ?_) (fun hf => ?_)
      · obtain ⟨hX, e1, e2⟩ := v_exE (E := E_X6_plain_L129 K ) hf hE
        rw [e1, e2]
        exact v_sub [] [] rfl hX
      · refine v_at 145 rfl ?_
        refine v_aload_n hC 0 dX6_plain_145 rfl ?_
        refine v_bipush (v := 48) hC dX6_plain_146 (by decide) ?_
        refine v_cVE hC (y := y_X6_mark) (ci := 6) [.int 48] [] (fun r => some (.int r)) (fun r => .int r :: []) hf (fun _ _ _ _ h => m_X6_mark h) rfl (fun _ => rfl) rfl rfl hR (Nat.le_of_ble_eq_true rfl) (Nat.le_of_ble_eq_true rfl) w_913 w_910 w_912 w_52 w_64 nm_X6_mark rfl (Nat.le_of_ble_eq_true rfl) dX6_plain_148 (fun x12 σ13 _ _ hf => ?_)
        refine v_istore hC [(4, .int x12), (0, .ref a0), (1, .int i1), (3, .int i3), (5, .int i5)] dX6_plain_151 hN (Nat.le_of_ble_eq_true rfl) rfl ?_
        refine v_incL hC hf 4 (fun x14 => [(5, .int x14), (4, .int x12), (0, .ref a0), (1, .int i1), (3, .int i3)]) dX6_plain_153 rfl (by decide) hN (Nat.le_of_ble_eq_true rfl) (fun _ => rfl) (fun x14 hf => ?_)
        refine v_goto (tgt := 129) hC dX6_plain_156 (by decide) ?_
        exact v_sub [(0, .ref a0), (1, .int i1), (3, .int i3), (5, .int x14)] [2, 3, 4, 0] rfl (ih _ _ _ _ _ _ _ _ _ hf hE)
def E_X6_plain_L34 (K : Cq)  (y : Unit) (σ : St) (kr sr : Nat) : Prop := V K kr sr σ 97 [] []
set_option maxHeartbeats 4000000 in
set_option maxRecDepth 100000 in
theorem v_X6_plain_L34 {K : Cq} {k0 s0 : Nat} (hC : Cx K prog_8_method_57_code "TensMillModel") (hR : kR K = rmF 1 22 k0 s0) (hN : kn K = 6) {ko so : Nat} : ∀ (n : Nat) (σ : St) (a0 : Nat) (i1 : Int32) (i3 : Int32) (i5 : Int32) (y : Unit) (σf : St) (kr sr : Nat), f_X6_plain_L34 n σ a0 i1 i3 i5 = some (y, σf, kr, sr) → E_X6_plain_L34 K  y σf ko so → V K (kr + ko) (sr + so) σ 34 [(0, .ref a0), (1, .int i1), (3, .int i3), (5, .int i5)] [] := by
  intro n
  induction n with
  | zero =>
    intro σ a0 i1 i3 i5 y σf kr sr hf hE
    cases hf
  | succ n ih =>
    intro σ a0 i1 i3 i5 y σf kr sr hf hE
    replace hf : b_X6_plain_L34 (f_X6_plain_L34 n) σ a0 i1 i3 i5 = some (y, σf, kr, sr) := hf
    unfold b_X6_plain_L34 at hf
    refine v_iload hC 3 dX6_plain_34 rfl ?_
    refine v_if_lt hC hf dX6_plain_36 (tgt := 97) (by decide) (fun hf => ?_) (fun hf => ?_)
    · obtain ⟨hX, e1, e2⟩ := v_exE (E := E_X6_plain_L34 K ) hf hE
      rw [e1, e2]
      exact v_sub [] [] rfl hX
    · refine v_at 39 rfl ?_
      refine v_aload_n hC 0 dX6_plain_39 rfl ?_
      refine v_iload hC 3 dX6_plain_40 rfl ?_
      refine v_aload_n hC 0 dX6_plain_42 rfl ?_
      refine v_getR hC (host := "") hf fd_6_1 w_659 dX6_plain_43 (fun r18 hf => ?_)
      refine v_iload_n hC 1 dX6_plain_46 rfl ?_
      refine v_ldI hC hf dX6_plain_47 (fun x19 hf => ?_)
      refine v_jnE hf (fun z20 kr sr => V K (kr + ko) (sr + so) σ 72 [(0, .ref a0), (1, .int i1), (3, .int i3), (5, .int i5)] [.int z20, .ref a0]) (fun z20 _ _ hf => ?_) (fun k20 hk20 hf => ?_)
      · refine v_cVE hC (y := y_X6_mark) (ci := 6) [.int z20] [] (fun r => some (.int r)) (fun r => .int r :: []) hf (fun _ _ _ _ h => m_X6_mark h) rfl (fun _ => rfl) rfl rfl hR (Nat.le_of_ble_eq_true rfl) (Nat.le_of_ble_eq_true rfl) w_913 w_910 w_912 w_52 w_64 nm_X6_mark rfl (Nat.le_of_ble_eq_true rfl) dX6_plain_72 (fun x21 σ22 _ _ hf => ?_)
        refine v_istore hC [(4, .int x21), (0, .ref a0), (1, .int i1), (3, .int i3), (5, .int i5)] dX6_plain_75 hN (Nat.le_of_ble_eq_true rfl) rfl ?_
        refine v_iload hC 4 dX6_plain_77 rfl ?_
        refine v_iload_n hC 3 dX6_plain_79 rfl ?_
        refine v_jnE hf (fun z23 kr sr => V K (kr + ko) (sr + so) z23 91 [(0, .ref a0), (1, .int i1), (3, .int i3), (5, .int i5)] []) (fun z23 _ _ hf => ?_) (fun k23 hk23 hf => ?_)
        · refine v_incL hC hf 3 (fun x24 => [(5, .int x24), (0, .ref a0), (1, .int i1), (3, .int i3)]) dX6_plain_91 rfl (by decide) hN (Nat.le_of_ble_eq_true rfl) (fun _ => rfl) (fun x24 hf => ?_)
          refine v_goto (tgt := 34) hC dX6_plain_94 (by decide) ?_
          exact v_sub [(0, .ref a0), (1, .int i1), (3, .int i3), (5, .int x24)] [1, 2, 3, 0] rfl (ih _ _ _ _ _ _ _ _ _ hf hE)
        · refine v_icmp_ne hC hf dX6_plain_80 (tgt := 91) (by decide) (fun hf => ?_) (fun hf => ?_)
          · exact v_sub [(0, .ref a0), (1, .int i1), (3, .int i3), (5, .int i5)] [1, 2, 3, 4] rfl (hk23 _ _ _ hf)
          · refine v_at 83 rfl ?_
            refine v_aload_n hC 1 dX6_plain_83 rfl ?_
            refine v_bipush (v := 46) hC dX6_plain_84 (by decide) ?_
            refine v_cVE hC (y := y_X6_mark) (ci := 6) [.int 46] [] (fun r => some (.int r)) (fun r => .int r :: []) hf (fun _ _ _ _ h => m_X6_mark h) rfl (fun _ => rfl) rfl rfl hR (Nat.le_of_ble_eq_true rfl) (Nat.le_of_ble_eq_true rfl) w_913 w_910 w_912 w_52 w_64 nm_X6_mark rfl (Nat.le_of_ble_eq_true rfl) dX6_plain_86 (fun x25 σ26 _ _ hf => ?_)
            refine v_istore hC [(4, .int x25), (0, .ref a0), (1, .int i1), (3, .int i3), (5, .int i5)] dX6_plain_89 hN (Nat.le_of_ble_eq_true rfl) rfl ?_
            refine v_at 91 rfl ?_
            exact v_sub [(0, .ref a0), (1, .int i1), (3, .int i3), (5, .int i5)] [1, 2, 3, 4] rfl (hk23 _ _ _ hf)
      · refine v_icmp_ge hC hf dX6_plain_48 (tgt := 70) (by decide) (fun hf => ?_) (fun hf => ?_)
        · refine v_bipush (v := 48) hC dX6_plain_70 (by decide) ?_
          refine v_at 72 rfl ?_
          exact v_sub [(0, .ref a0), (1, .int i1), (3, .int i3), (5, .int i5)] [0, 1, 2, 3] rfl (hk20 _ _ _ hf)
        · refine v_at 51 rfl ?_
          refine v_bipush (v := 48) hC dX6_plain_51 (by decide) ?_
          refine v_aload_n hC 0 dX6_plain_53 rfl ?_
          refine v_getR hC (host := "") hf fd_6_0 w_658 dX6_plain_54 (fun r27 hf => ?_)
          refine v_sipush (v := 4096) hC dX6_plain_57 (by decide) ?_
          refine v_iload_n hC 1 dX6_plain_60 rfl ?_
          refine v_imul hC dX6_plain_61 ?_
          refine v_iload hC 3 dX6_plain_62 rfl ?_
          refine v_iadd hC dX6_plain_64 ?_
          refine v_at 65 rfl ?_
          refine v_ldI hC hf dX6_plain_65 (fun x28 hf => ?_)
          refine v_iadd hC dX6_plain_66 ?_
          refine v_goto (tgt := 72) hC dX6_plain_67 (by decide) ?_
          exact v_sub [(0, .ref a0), (1, .int i1), (3, .int i3), (5, .int i5)] [0, 1, 2, 3] rfl (hk20 _ _ _ hf)
set_option maxHeartbeats 4000000 in
set_option maxRecDepth 100000 in
theorem m_X6_plain {G : Gm} {l : Launch} {σ : St} {a0 : Nat} {i1 : Int32} {r : Unit} {σf : St} {k s : Nat} (hf : f_X6_plain σ a0 i1 = some (r, σf, k, s)) : (∃ fs : List Value, σ.1 a0 = some (.inr (.inl (6, fs)))) ∧ Ct G l y_X6_plain prog_8_method_57_code 6 none 1 22 [.ref a0, .int i1] σ none σf k s := by
  unfold f_X6_plain at hf
  obtain ⟨hob, hf⟩ := ob_some hf
  refine ⟨hob, Ct.ofV pl_X6_plain (Nat.le_of_ble_eq_true rfl) ?_⟩
  intro K hR hN hnm hC hE
  show V K (k + 0) (s + 0) σ 0 [(0, .ref a0), (1, .int i1)] []
  refine v_aload_n hC 0 dX6_plain_0 rfl ?_
  refine v_iload_n hC 1 dX6_plain_1 rfl ?_
  refine v_cVP hC (y := y_X6_digitsOf) (ci := 6) [.int i1] [] (fun r => some (.int r)) (fun r => .int r :: []) hf (fun _ h => m_X6_digitsOf h) rfl (fun _ => rfl) rfl rfl hR (Nat.le_of_ble_eq_true rfl) (Nat.le_of_ble_eq_true rfl) w_876 w_873 w_875 w_50 w_64 nm_X6_digitsOf rfl (Nat.le_of_ble_eq_true rfl) dX6_plain_2 (fun x1 hf => ?_)
  refine v_istore_n hC [(2, .int x1), (0, .ref a0), (1, .int i1)] dX6_plain_5 rfl hN (Nat.le_of_ble_eq_true rfl) rfl ?_
  refine v_aload_n hC 1 dX6_plain_6 rfl ?_
  refine v_getR hC (host := "") hf fd_6_3 w_661 dX6_plain_7 (fun r2 hf => ?_)
  refine v_iload_n hC 2 dX6_plain_10 rfl ?_
  refine v_ldI hC hf dX6_plain_11 (fun x3 hf => ?_)
  refine v_at 12 rfl ?_
  refine v_istore_n hC [(3, .int x3), (2, .int x1), (0, .ref a0), (1, .int i1)] dX6_plain_12 rfl hN (Nat.le_of_ble_eq_true rfl) rfl ?_
  refine v_iconst (v := 1) hC dX6_plain_13 (by decide) ?_
  refine v_istore hC [(4, .int 1), (3, .int x3), (2, .int x1), (0, .ref a0), (1, .int i1)] dX6_plain_14 hN (Nat.le_of_ble_eq_true rfl) rfl ?_
  refine v_iload_n hC 1 dX6_plain_16 rfl ?_
  refine v_if_le hC hf dX6_plain_17 (tgt := 98) (by decide) (fun hf => ?_) (fun hf => ?_)
  · refine v_iconst (v := 0) hC dX6_plain_98 (by decide) ?_
    refine v_istore hC [(5, .int 0), (4, .int 1), (3, .int x3), (2, .int x1), (0, .ref a0), (1, .int i1)] dX6_plain_99 hN (Nat.le_of_ble_eq_true rfl) rfl ?_
    refine v_at 101 rfl ?_
    refine v_sub [(0, .ref a0), (1, .int i1), (2, .int x1), (3, .int x3), (5, .int 0)] [4, 5, 3, 2, 0] rfl ?_
    refine v_lpE hf (E_X6_plain_L101 K a0 i1 x3) (fun _ _ _ _ _ _ h hE => v_X6_plain_L101 hC hR hN _ _ _ _ _ _ _ _ _ _ _ h hE) (fun y8 σ9 _ _ hf => ?_)
    show V K _ _ σ9 126 [(0, .ref a0), (1, .int i1), (3, .int x3)] []
    refine v_iconst (v := 0) hC dX6_plain_126 (by decide) ?_
    refine v_istore hC [(5, .int 0), (0, .ref a0), (1, .int i1), (3, .int x3)] dX6_plain_127 hN (Nat.le_of_ble_eq_true rfl) rfl ?_
    refine v_at 129 rfl ?_
    refine v_sub [(0, .ref a0), (1, .int i1), (3, .int x3), (5, .int 0)] [1, 2, 3, 0] rfl ?_
    refine v_lpE hf (E_X6_plain_L129 K ) (fun _ _ _ _ _ _ h hE => v_X6_plain_L129 hC hR hN _ _ _ _ _ _ _ _ _ _ h hE) (fun y15 σ16 _ _ hf => ?_)
    show V K _ _ σ16 159 [] []
    exact v_retV hC hf hE dX6_plain_159
  · refine v_at 20 rfl ?_
    refine v_iload_n hC 2 dX6_plain_20 rfl ?_
    refine v_iload_n hC 1 dX6_plain_21 rfl ?_
    refine v_jnE hf (fun z17 kr sr => V K (kr + 0) (sr + 0) σ 32 [(0, .ref a0), (1, .int i1), (3, .int x3)] [.int z17]) (fun z17 _ _ hf => ?_) (fun k17 hk17 hf => ?_)
    · refine v_istore hC [(5, .int z17), (0, .ref a0), (1, .int i1), (3, .int x3)] dX6_plain_32 hN (Nat.le_of_ble_eq_true rfl) rfl ?_
      refine v_at 34 rfl ?_
      refine v_sub [(0, .ref a0), (1, .int i1), (3, .int x3), (5, .int z17)] [1, 2, 3, 0] rfl ?_
      refine v_lpE hf (E_X6_plain_L34 K ) (fun _ _ _ _ _ _ h hE => v_X6_plain_L34 hC hR hN _ _ _ _ _ _ _ _ _ _ h hE) (fun y29 σ30 _ _ hf => ?_)
      show V K _ _ σ30 97 [] []
      exact v_retV hC hf hE dX6_plain_97
    · refine v_icmp_le hC hf dX6_plain_22 (tgt := 31) (by decide) (fun hf => ?_) (fun hf => ?_)
      · refine v_iload_n hC 1 dX6_plain_31 rfl ?_
        refine v_at 32 rfl ?_
        exact v_sub [(0, .ref a0), (1, .int i1), (3, .int x3)] [3, 4, 1] rfl (hk17 _ _ _ hf)
      · refine v_at 25 rfl ?_
        refine v_iload_n hC 2 dX6_plain_25 rfl ?_
        refine v_iconst (v := 1) hC dX6_plain_26 (by decide) ?_
        refine v_isub hC dX6_plain_27 ?_
        refine v_goto (tgt := 32) hC dX6_plain_28 (by decide) ?_
        exact v_sub [(0, .ref a0), (1, .int i1), (3, .int x3)] [3, 4, 1] rfl (hk17 _ _ _ hf)
def E_X6_write_L234 (K : Cq) (kr sr : Nat) (σ : St) (a0 : Nat) (i1 : Int32) (i3 : Int32) (j4 : Int64) (y : Int64) : Prop := V K kr sr σ 259 [(0, .ref a0), (1, .int i1), (3, .int i3), (4, .long j4), (8, .long y)] []
set_option maxHeartbeats 4000000 in
set_option maxRecDepth 100000 in
theorem v_X6_write_L234 {K : Cq} {k0 s0 : Nat} (hC : Cx K prog_8_method_58_code "TensMillModel") (hR : kR K = rmF 3 69 k0 s0) (hN : kn K = 12) {kr sr : Nat} : ∀ (n : Nat) (σ : St) (a0 : Nat) (i1 : Int32) (i2 : Int32) (i3 : Int32) (j4 : Int64) (j8 : Int64) (y : Int64), f_X6_write_L234 n σ a0 i1 i2 i3 j4 j8 = some y → E_X6_write_L234 K kr sr σ a0 i1 i3 j4 y → V K kr sr σ 234 [(0, .ref a0), (1, .int i1), (2, .int i2), (3, .int i3), (4, .long j4), (8, .long j8)] [] := by
  intro n
  induction n with
  | zero =>
    intro σ a0 i1 i2 i3 j4 j8 y hf hE
    cases hf
  | succ n ih =>
    intro σ a0 i1 i2 i3 j4 j8 y hf hE
    replace hf : b_X6_write_L234 (f_X6_write_L234 n) σ a0 i1 i2 i3 j4 j8 = some y := hf
    unfold b_X6_write_L234 at hf
    refine v_iload_n hC 2 dX6_write_234 rfl ?_
    refine v_iconst (v := 1) hC dX6_write_235 (by decide) ?_
    refine v_icmp_ne hC hf dX6_write_236 (tgt := 259) (by decide) (fun hf => ?_) (fun hf => ?_)
    · exact v_sub [(0, .ref a0), (1, .int i1), (3, .int i3), (4, .long j4), (8, .long j8)] [0, 1, 3, 4, 5] rfl (v_exP (E := E_X6_write_L234 K _ _ _ a0 i1 i3 j4) hf hE)
    · refine v_at 239 rfl ?_
      refine v_lload hC 5 dX6_write_239 rfl ?_
      refine v_ldc2 hC dX6_write_241 w_922 ?_
      refine v_lrem hC hf dX6_write_244 (fun l15 hf => ?_)
      refine v_lconst (v := 0) hC dX6_write_245 (by decide) ?_
      refine v_lcmp_eq hC hf dX6_write_246 dX6_write_247 (tgt := 259) (by decide) (fun hf => ?_) (fun hf => ?_)
      · exact v_sub [(0, .ref a0), (1, .int i1), (3, .int i3), (4, .long j4), (8, .long j8)] [0, 1, 3, 4, 5] rfl (v_exP (E := E_X6_write_L234 K _ _ _ a0 i1 i3 j4) hf hE)
      · refine v_at 250 rfl ?_
        refine v_lload hC 5 dX6_write_250 rfl ?_
        refine v_lconst (v := 1) hC dX6_write_252 (by decide) ?_
        refine v_lsub hC dX6_write_253 ?_
        refine v_ltL hf (fun l16 hf => ?_)
        refine v_lstore hC [(8, .long l16), (0, .ref a0), (1, .int i1), (2, .int i2), (3, .int i3), (4, .long j4)] dX6_write_254 hN (Nat.le_of_ble_eq_true rfl) rfl ?_
        refine v_goto (tgt := 234) hC dX6_write_256 (by decide) ?_
        exact v_sub [(0, .ref a0), (1, .int i1), (2, .int i2), (3, .int i3), (4, .long j4), (8, .long l16)] [1, 2, 3, 4, 5, 0] rfl (ih _ _ _ _ _ _ _ _ hf hE)
def E_X6_write_L272 (K : Cq) (a0 : Nat) (j8 : Int64) (y : Unit) (σ : St) (kr sr : Nat) : Prop := V K kr sr σ 319 [(0, .ref a0), (8, .long j8)] []
set_option maxHeartbeats 4000000 in
set_option maxRecDepth 100000 in
theorem v_X6_write_L272 {K : Cq} {k0 s0 : Nat} (hC : Cx K prog_8_method_58_code "TensMillModel") (hR : kR K = rmF 3 69 k0 s0) (hN : kn K = 12) {ko so : Nat} : ∀ (n : Nat) (σ : St) (a0 : Nat) (i1 : Int32) (i3 : Int32) (j8 : Int64) (i10 : Int32) (i11 : Int32) (y : Unit) (σf : St) (kr sr : Nat), f_X6_write_L272 n σ a0 i1 i3 j8 i10 i11 = some (y, σf, kr, sr) → E_X6_write_L272 K a0 j8 y σf ko so → V K (kr + ko) (sr + so) σ 272 [(0, .ref a0), (1, .int i1), (3, .int i3), (8, .long j8), (10, .int i10), (11, .int i11)] [] := by
  intro n
  induction n with
  | zero =>
    intro σ a0 i1 i3 j8 i10 i11 y σf kr sr hf hE
    cases hf
  | succ n ih =>
    intro σ a0 i1 i3 j8 i10 i11 y σf kr sr hf hE
    replace hf : b_X6_write_L272 (f_X6_write_L272 n) σ a0 i1 i3 j8 i10 i11 = some (y, σf, kr, sr) := hf
    unfold b_X6_write_L272 at hf
    refine v_iload hC 5 dX6_write_272 rfl ?_
    refine v_iload hC 4 dX6_write_274 rfl ?_
    refine v_jnE hf (fun z19 kr sr => V K (kr + ko) (sr + so) σ 285 [(0, .ref a0), (1, .int i1), (3, .int i3), (8, .long j8), (10, .int i10), (11, .int i11)] []) (fun z19 _ _ hf => ?_) (fun k19 hk19 hf => ?_)
    · refine v_iload hC 5 dX6_write_285 rfl ?_
      refine v_iload hC 4 dX6_write_287 rfl ?_
      refine v_jnE hf (fun z20 kr sr => V K (kr + ko) (sr + so) z20 300 [(0, .ref a0), (1, .int i1), (3, .int i3), (8, .long j8), (10, .int i10), (11, .int i11)] []) (fun z20 _ _ hf => ?_) (fun k20 hk20 hf => ?_)
      · refine v_aload_n hC 0 dX6_write_300 rfl ?_
        refine v_aload_n hC 0 dX6_write_301 rfl ?_
        refine v_iload_n hC 1 dX6_write_302 rfl ?_
        refine v_iload hC 5 dX6_write_303 rfl ?_
        refine v_cVP hC (y := y_X6_front) (ci := 6) [.int i1, .int i11] [.ref a0] (fun r => some (.int r)) (fun r => .int r :: [.ref a0]) hf (fun _ h => m_X6_front h) rfl (fun _ => rfl) rfl rfl hR (Nat.le_of_ble_eq_true rfl) (Nat.le_of_ble_eq_true rfl) w_921 w_918 w_920 w_54 w_64 nm_X6_front rfl (Nat.le_of_ble_eq_true rfl) dX6_write_305 (fun x21 hf => ?_)
        refine v_cVE hC (y := y_X6_mark) (ci := 6) [.int x21] [] (fun r => some (.int r)) (fun r => .int r :: []) hf (fun _ _ _ _ h => m_X6_mark h) rfl (fun _ => rfl) rfl rfl hR (Nat.le_of_ble_eq_true rfl) (Nat.le_of_ble_eq_true rfl) w_913 w_910 w_912 w_52 w_64 nm_X6_mark rfl (Nat.le_of_ble_eq_true rfl) dX6_write_308 (fun x22 σ23 _ _ hf => ?_)
        refine v_istore hC [(7, .int x22), (0, .ref a0), (1, .int i1), (3, .int i3), (8, .long j8), (10, .int i10), (11, .int i11)] dX6_write_311 hN (Nat.le_of_ble_eq_true rfl) rfl ?_
        refine v_incL hC hf 6 (fun x24 => [(11, .int x24), (7, .int x22), (0, .ref a0), (1, .int i1), (3, .int i3), (8, .long j8), (10, .int i10)]) dX6_write_313 rfl (by decide) hN (Nat.le_of_ble_eq_true rfl) (fun _ => rfl) (fun x24 hf => ?_)
        refine v_at 316 rfl ?_
        refine v_goto (tgt := 272) hC dX6_write_316 (by decide) ?_
        exact v_sub [(0, .ref a0), (1, .int i1), (3, .int i3), (8, .long j8), (10, .int i10), (11, .int x24)] [2, 3, 4, 5, 6, 0] rfl (ih _ _ _ _ _ _ _ _ _ _ _ hf hE)
      · refine v_icmp_ne hC hf dX6_write_289 (tgt := 300) (by decide) (fun hf => ?_) (fun hf => ?_)
        · exact v_sub [(0, .ref a0), (1, .int i1), (3, .int i3), (8, .long j8), (10, .int i10), (11, .int i11)] [0, 1, 2, 3, 4, 5] rfl (hk20 _ _ _ hf)
        · refine v_at 292 rfl ?_
          refine v_aload_n hC 0 dX6_write_292 rfl ?_
          refine v_bipush (v := 46) hC dX6_write_293 (by decide) ?_
          refine v_cVE hC (y := y_X6_mark) (ci := 6) [.int 46] [] (fun r => some (.int r)) (fun r => .int r :: []) hf (fun _ _ _ _ h => m_X6_mark h) rfl (fun _ => rfl) rfl rfl hR (Nat.le_of_ble_eq_true rfl) (Nat.le_of_ble_eq_true rfl) w_913 w_910 w_912 w_52 w_64 nm_X6_mark rfl (Nat.le_of_ble_eq_true rfl) dX6_write_295 (fun x25 σ26 _ _ hf => ?_)
          refine v_istore hC [(7, .int x25), (0, .ref a0), (1, .int i1), (3, .int i3), (8, .long j8), (10, .int i10), (11, .int i11)] dX6_write_298 hN (Nat.le_of_ble_eq_true rfl) rfl ?_
          refine v_at 300 rfl ?_
          exact v_sub [(0, .ref a0), (1, .int i1), (3, .int i3), (8, .long j8), (10, .int i10), (11, .int i11)] [1, 2, 3, 4, 5, 6] rfl (hk20 _ _ _ hf)
    · refine v_icmp_lt hC hf dX6_write_276 (tgt := 285) (by decide) (fun hf => ?_) (fun hf => ?_)
      · exact v_sub [(0, .ref a0), (1, .int i1), (3, .int i3), (8, .long j8), (10, .int i10), (11, .int i11)] [0, 1, 2, 3, 4, 5] rfl (hk19 _ _ _ hf)
      · refine v_at 279 rfl ?_
        refine v_iload hC 5 dX6_write_279 rfl ?_
        refine v_iload_n hC 2 dX6_write_281 rfl ?_
        refine v_icmp_ge hC hf dX6_write_282 (tgt := 319) (by decide) (fun hf => ?_) (fun hf => ?_)
        · obtain ⟨hX, e1, e2⟩ := v_exE (E := E_X6_write_L272 K a0 j8) hf hE
          rw [e1, e2]
          exact v_sub [(0, .ref a0), (8, .long j8)] [0, 3] rfl hX
        · refine v_at 285 rfl ?_
          exact v_sub [(0, .ref a0), (1, .int i1), (3, .int i3), (8, .long j8), (10, .int i10), (11, .int i11)] [0, 1, 2, 3, 4, 5] rfl (hk19 _ _ _ hf)
def E_X6_write_L148 (K : Cq) (kr sr : Nat) (σ : St) (a0 : Nat) (j4 : Int64) (y : Int64) : Prop := V K kr sr σ 168 [(0, .ref a0), (4, .long j4), (8, .long y)] []
set_option maxHeartbeats 4000000 in
set_option maxRecDepth 100000 in
theorem v_X6_write_L148 {K : Cq} {k0 s0 : Nat} (hC : Cx K prog_8_method_58_code "TensMillModel") (hR : kR K = rmF 3 69 k0 s0) (hN : kn K = 12) {kr sr : Nat} : ∀ (n : Nat) (σ : St) (a0 : Nat) (j4 : Int64) (j8 : Int64) (y : Int64), f_X6_write_L148 n σ a0 j4 j8 = some y → E_X6_write_L148 K kr sr σ a0 j4 y → V K kr sr σ 148 [(0, .ref a0), (4, .long j4), (8, .long j8)] [] := by
  intro n
  induction n with
  | zero =>
    intro σ a0 j4 j8 y hf hE
    cases hf
  | succ n ih =>
    intro σ a0 j4 j8 y hf hE
    replace hf : b_X6_write_L148 (f_X6_write_L148 n) σ a0 j4 j8 = some y := hf
    unfold b_X6_write_L148 at hf
    refine v_lload hC 2 dX6_write_148 rfl ?_
    refine v_ldc2 hC dX6_write_150 w_922 ?_
    refine v_lrem hC hf dX6_write_153 (fun l32 hf => ?_)
    refine v_lconst (v := 0) hC dX6_write_154 (by decide) ?_
    refine v_lcmp_eq hC hf dX6_write_155 dX6_write_156 (tgt := 168) (by decide) (fun hf => ?_) (fun hf => ?_)
    · exact v_sub [(0, .ref a0), (4, .long j4), (8, .long j8)] [0, 1, 2] rfl (v_exP (E := E_X6_write_L148 K _ _ _ a0 j4) hf hE)
    · refine v_at 159 rfl ?_
      refine v_lload hC 2 dX6_write_159 rfl ?_
      refine v_lconst (v := 1) hC dX6_write_161 (by decide) ?_
      refine v_ladd hC dX6_write_162 ?_
      refine v_ltL hf (fun l33 hf => ?_)
      refine v_lstore hC [(8, .long l33), (0, .ref a0), (4, .long j4)] dX6_write_163 hN (Nat.le_of_ble_eq_true rfl) rfl ?_
      refine v_goto (tgt := 148) hC dX6_write_165 (by decide) ?_
      exact v_sub [(0, .ref a0), (4, .long j4), (8, .long l33)] [1, 2, 0] rfl (ih _ _ _ _ _ hf hE)
def E_X6_write_L196 (K : Cq) (a0 : Nat) (j8 : Int64) (y : Unit) (σ : St) (kr sr : Nat) : Prop := V K kr sr σ 221 [(0, .ref a0), (8, .long j8)] []
set_option maxHeartbeats 4000000 in
set_option maxRecDepth 100000 in
theorem v_X6_write_L196 {K : Cq} {k0 s0 : Nat} (hC : Cx K prog_8_method_58_code "TensMillModel") (hR : kR K = rmF 3 69 k0 s0) (hN : kn K = 12) {ko so : Nat} : ∀ (n : Nat) (σ : St) (a0 : Nat) (j8 : Int64) (j10 : Int64) (y : Unit) (σf : St) (kr sr : Nat), f_X6_write_L196 n σ a0 j8 j10 = some (y, σf, kr, sr) → E_X6_write_L196 K a0 j8 y σf ko so → V K (kr + ko) (sr + so) σ 196 [(0, .ref a0), (8, .long j8), (10, .long j10)] [] := by
  intro n
  induction n with
  | zero =>
    intro σ a0 j8 j10 y σf kr sr hf hE
    cases hf
  | succ n ih =>
    intro σ a0 j8 j10 y σf kr sr hf hE
    replace hf : b_X6_write_L196 (f_X6_write_L196 n) σ a0 j8 j10 = some (y, σf, kr, sr) := hf
    unfold b_X6_write_L196 at hf
    refine v_lload hC 2 dX6_write_196 rfl ?_
    refine v_lload hC 1 dX6_write_198 rfl ?_
    refine v_lcmp_ge hC hf dX6_write_200 dX6_write_201 (tgt := 221) (by decide) (fun hf => ?_) (fun hf => ?_)
    · obtain ⟨hX, e1, e2⟩ := v_exE (E := E_X6_write_L196 K a0 j8) hf hE
      rw [e1, e2]
      exact v_sub [(0, .ref a0), (8, .long j8)] [0, 1] rfl hX
    · refine v_at 204 rfl ?_
      refine v_aload_n hC 0 dX6_write_204 rfl ?_
      refine v_bipush (v := 48) hC dX6_write_205 (by decide) ?_
      refine v_cVE hC (y := y_X6_mark) (ci := 6) [.int 48] [] (fun r => some (.int r)) (fun r => .int r :: []) hf (fun _ _ _ _ h => m_X6_mark h) rfl (fun _ => rfl) rfl rfl hR (Nat.le_of_ble_eq_true rfl) (Nat.le_of_ble_eq_true rfl) w_913 w_910 w_912 w_52 w_64 nm_X6_mark rfl (Nat.le_of_ble_eq_true rfl) dX6_write_207 (fun x38 σ39 _ _ hf => ?_)
      refine v_istore hC [(7, .int x38), (0, .ref a0), (8, .long j8), (10, .long j10)] dX6_write_210 hN (Nat.le_of_ble_eq_true rfl) rfl ?_
      refine v_lload hC 3 dX6_write_212 rfl ?_
      refine v_lconst (v := 1) hC dX6_write_214 (by decide) ?_
      refine v_ladd hC dX6_write_215 ?_
      refine v_ltL hf (fun l40 hf => ?_)
      refine v_lstore hC [(10, .long l40), (7, .int x38), (0, .ref a0), (8, .long j8)] dX6_write_216 hN (Nat.le_of_ble_eq_true rfl) rfl ?_
      refine v_at 218 rfl ?_
      refine v_goto (tgt := 196) hC dX6_write_218 (by decide) ?_
      exact v_sub [(0, .ref a0), (8, .long j8), (10, .long l40)] [2, 3, 0] rfl (ih _ _ _ _ _ _ _ _ hf hE)
set_option maxHeartbeats 4000000 in
set_option maxRecDepth 100000 in
theorem m_X6_write {G : Gm} {l : Launch} {σ : St} {a0 : Nat} {i1 : Int32} {i2 : Int32} {r : Int32} {σf : St} {k s : Nat} (hf : f_X6_write σ a0 i1 i2 = some (r, σf, k, s)) : (∃ fs : List Value, σ.1 a0 = some (.inr (.inl (6, fs)))) ∧ Ct G l y_X6_write prog_8_method_58_code 12 (some .int) 3 69 [.ref a0, .int i1, .int i2] σ (some (.int r)) σf k s := by
  unfold f_X6_write at hf
  obtain ⟨hob, hf⟩ := ob_some hf
  refine ⟨hob, Ct.ofV pl_X6_write (Nat.le_of_ble_eq_true rfl) ?_⟩
  intro K hR hN hnm hC hE
  show V K (k + 0) (s + 0) σ 0 [(0, .ref a0), (1, .int i1), (2, .int i2)] []
  refine v_iload_n hC 1 dX6_write_0 rfl ?_
  refine v_cSP hC (y := y_X6_is) [.int i1] [] (fun r => some (.int r)) (fun r => .int r :: []) hf (fun _ h => m_X6_is h) rfl (fun _ => rfl) hR (Nat.le_of_ble_eq_true rfl) (Nat.le_of_ble_eq_true rfl) w_698 w_696 w_697 w_64 nm_X6_is rfl (Nat.le_of_ble_eq_true rfl) dX6_write_1 (fun x1 hf => ?_)
  refine v_if_eq hC hf dX6_write_4 (tgt := 16) (by decide) (fun hf => ?_) (fun hf => ?_)
  · refine v_iconst (v := (-1)) hC dX6_write_16 (by decide) ?_
    exact v_retI hC hf hE dX6_write_17
  · refine v_at 7 rfl ?_
    refine v_iload_n hC 2 dX6_write_7 rfl ?_
    refine v_if_lt hC hf dX6_write_8 (tgt := 16) (by decide) (fun hf => ?_) (fun hf => ?_)
    · refine v_iconst (v := (-1)) hC dX6_write_16 (by decide) ?_
      exact v_retI hC hf hE dX6_write_17
    · refine v_at 11 rfl ?_
      refine v_iload_n hC 2 dX6_write_11 rfl ?_
      refine v_iconst (v := 2) hC dX6_write_12 (by decide) ?_
      refine v_icmp_le hC hf dX6_write_13 (tgt := 18) (by decide) (fun hf => ?_) (fun hf => ?_)
      · refine v_aload_n hC 0 dX6_write_18 rfl ?_
        refine v_iload_n hC 1 dX6_write_19 rfl ?_
        refine v_cVP hC (y := y_X6_digitsOf) (ci := 6) [.int i1] [] (fun r => some (.int r)) (fun r => .int r :: []) hf (fun _ h => m_X6_digitsOf h) rfl (fun _ => rfl) rfl rfl hR (Nat.le_of_ble_eq_true rfl) (Nat.le_of_ble_eq_true rfl) w_876 w_873 w_875 w_50 w_64 nm_X6_digitsOf rfl (Nat.le_of_ble_eq_true rfl) dX6_write_20 (fun x2 hf => ?_)
        refine v_istore_n hC [(3, .int x2), (0, .ref a0), (1, .int i1), (2, .int i2)] dX6_write_23 rfl hN (Nat.le_of_ble_eq_true rfl) rfl ?_
        refine v_iload_n hC 0 dX6_write_24 rfl ?_
        refine v_i2l hC dX6_write_25 ?_
        refine v_lconst (v := 1) hC dX6_write_26 (by decide) ?_
        refine v_lsub hC dX6_write_27 ?_
        refine v_at 28 rfl ?_
        refine v_aload_n hC 1 dX6_write_28 rfl ?_
        refine v_getR hC (host := "") hf fd_6_3 w_661 dX6_write_29 (fun r3 hf => ?_)
        refine v_iload_n hC 2 dX6_write_32 rfl ?_
        refine v_ldI hC hf dX6_write_33 (fun x4 hf => ?_)
        refine v_i2l hC dX6_write_34 ?_
        refine v_lsub hC dX6_write_35 ?_
        refine v_ltL hf (fun l5 hf => ?_)
        refine v_lstore hC [(4, .long l5), (3, .int x2), (0, .ref a0), (1, .int i1), (2, .int i2)] dX6_write_36 hN (Nat.le_of_ble_eq_true rfl) rfl ?_
        refine v_iload_n hC 4 dX6_write_38 rfl ?_
        refine v_at 39 rfl ?_
        refine v_iconst (v := 2) hC dX6_write_39 (by decide) ?_
        refine v_jnE hf (fun z6 kr sr => V K (kr + 0) (sr + 0) σ 66 [(0, .ref a0), (1, .int i1), (2, .int i2), (3, .int x2), (4, .long l5)] [.int z6]) (fun z6 _ _ hf => ?_) (fun k6 hk6 hf => ?_)
        · refine v_istore hC [(6, .int z6), (0, .ref a0), (1, .int i1), (2, .int i2), (3, .int x2), (4, .long l5)] dX6_write_66 hN (Nat.le_of_ble_eq_true rfl) rfl ?_
          refine v_iload hC 0 dX6_write_68 rfl ?_
          refine v_jnE hf (fun z7 kr sr => V K (kr + 0) (sr + 0) σ 87 [(0, .ref a0), (1, .int i1), (2, .int i2), (3, .int x2), (4, .long l5), (6, .int z6)] []) (fun z7 _ _ hf => ?_) (fun k7 hk7 hf => ?_)
          · refine v_aload_n hC 0 dX6_write_87 rfl ?_
            refine v_iconst (v := 0) hC dX6_write_88 (by decide) ?_
            refine v_put hC hf fd_6_9 w_667 rfl rfl dX6_write_89 (fun σ8 hf => ?_)
            refine v_aload_n hC 0 dX6_write_92 rfl ?_
            refine v_getR hC (host := "") hf fd_6_2 w_660 dX6_write_93 (fun r9 hf => ?_)
            refine v_iload_n hC 1 dX6_write_96 rfl ?_
            refine v_ldI hC hf dX6_write_97 (fun x10 hf => ?_)
            refine v_jnE hf (fun z11 kr sr => V K (kr + 0) (sr + 0) z11.2 115 [(0, .ref a0), (1, .int i1), (2, .int i2), (3, .int x2), (4, .long l5), (6, .int z6)] [.int z11.1]) (fun z11 _ _ hf => ?_) (fun k11 hk11 hf => ?_)
            · refine v_istore hC [(7, .int z11.1), (0, .ref a0), (1, .int i1), (2, .int i2), (3, .int x2), (4, .long l5), (6, .int z6)] dX6_write_115 hN (Nat.le_of_ble_eq_true rfl) rfl ?_
              refine v_iload hC 6 dX6_write_117 rfl ?_
              refine v_jnE hf (fun z12 kr sr => V K (kr + 0) (sr + 0) z12 325 [(0, .ref a0)] []) (fun z12 _ _ hf => ?_) (fun k12 hk12 hf => ?_)
              · refine v_aload_n hC 0 dX6_write_325 rfl ?_
                refine v_getI hC (host := "") hf fd_6_9 w_667 dX6_write_326 (fun x13 hf => ?_)
                exact v_retI hC hf hE dX6_write_329
              · refine v_if_eq hC hf dX6_write_119 (tgt := 130) (by decide) (fun hf => ?_) (fun hf => ?_)
                · refine v_iload_n hC 3 dX6_write_130 rfl ?_
                  refine v_iconst (v := 1) hC dX6_write_131 (by decide) ?_
                  refine v_jnE hf (fun z14 kr sr => V K (kr + 0) (sr + 0) z11.2 230 [(0, .ref a0), (1, .int i1), (2, .int i2), (3, .int x2), (4, .long l5)] []) (fun z14 _ _ hf => ?_) (fun k14 hk14 hf => ?_)
                  · refine v_lload hC 4 dX6_write_230 rfl ?_
                    refine v_lstore hC [(8, .long l5), (0, .ref a0), (1, .int i1), (2, .int i2), (3, .int x2), (4, .long l5)] dX6_write_232 hN (Nat.le_of_ble_eq_true rfl) rfl ?_
                    refine v_at 234 rfl ?_
                    refine v_sub [(0, .ref a0), (1, .int i1), (2, .int i2), (3, .int x2), (4, .long l5), (8, .long l5)] [1, 2, 3, 4, 5, 0] rfl ?_
                    refine v_lpP hf (E_X6_write_L234 K _ _ z11.2 a0 i1 x2 l5) (fun _ h hE => v_X6_write_L234 hC hR hN _ _ _ _ _ _ _ _ _ h hE) (fun y17 hf => ?_)
                    show V K _ _ z11.2 259 [(0, .ref a0), (1, .int i1), (3, .int x2), (4, .long l5), (8, .long y17)] []
                    refine v_iconst (v := 1) hC dX6_write_259 (by decide) ?_
                    refine v_lload hC 3 dX6_write_260 rfl ?_
                    refine v_lload hC 4 dX6_write_262 rfl ?_
                    refine v_lsub hC dX6_write_264 ?_
                    refine v_l2i hC dX6_write_265 ?_
                    refine v_iadd hC dX6_write_266 ?_
                    refine v_ltI hf (fun x18 hf => ?_)
                    refine v_istore hC [(10, .int x18), (0, .ref a0), (1, .int i1), (3, .int x2), (4, .long l5), (8, .long y17)] dX6_write_267 hN (Nat.le_of_ble_eq_true rfl) rfl ?_
                    refine v_iconst (v := 0) hC dX6_write_269 (by decide) ?_
                    refine v_at 270 rfl ?_
                    refine v_istore hC [(11, .int 0), (10, .int x18), (0, .ref a0), (1, .int i1), (3, .int x2), (4, .long l5), (8, .long y17)] dX6_write_270 hN (Nat.le_of_ble_eq_true rfl) rfl ?_
                    refine v_at 272 rfl ?_
                    refine v_sub [(0, .ref a0), (1, .int i1), (3, .int x2), (8, .long y17), (10, .int x18), (11, .int 0)] [2, 3, 4, 6, 1, 0] rfl ?_
                    refine v_lpE hf (E_X6_write_L272 K a0 y17) (fun _ _ _ _ _ _ h hE => v_X6_write_L272 hC hR hN _ _ _ _ _ _ _ _ _ _ _ _ h hE) (fun y27 σ28 _ _ hf => ?_)
                    show V K _ _ σ28 319 [(0, .ref a0), (8, .long y17)] []
                    refine v_aload_n hC 0 dX6_write_319 rfl ?_
                    refine v_lload hC 1 dX6_write_320 rfl ?_
                    refine v_cVE hC (y := y_X6_putExponent) (ci := 6) [.long y17] [] (fun _ => none) (fun _ => []) hf (fun _ _ _ _ h => m_X6_putExponent h) rfl (fun _ => rfl) rfl rfl hR (Nat.le_of_ble_eq_true rfl) (Nat.le_of_ble_eq_true rfl) w_926 w_923 w_925 w_55 w_64 nm_X6_putExponent rfl (Nat.le_of_ble_eq_true rfl) dX6_write_322 (fun _ σ29 _ _ hf => ?_)
                    refine v_at 325 rfl ?_
                    exact v_sub [(0, .ref a0)] [0] rfl (hk12 _ _ _ hf)
                  · refine v_icmp_ne hC hf dX6_write_132 (tgt := 230) (by decide) (fun hf => ?_) (fun hf => ?_)
                    · exact v_sub [(0, .ref a0), (1, .int i1), (2, .int i2), (3, .int x2), (4, .long l5)] [1, 2, 3, 4, 5] rfl (hk14 _ _ _ hf)
                    · refine v_at 135 rfl ?_
                      refine v_aload_n hC 1 dX6_write_135 rfl ?_
                      refine v_getR hC (host := "") hf fd_6_1 w_659 dX6_write_136 (fun r30 hf => ?_)
                      refine v_iload_n hC 2 dX6_write_139 rfl ?_
                      refine v_ldI hC hf dX6_write_140 (fun x31 hf => ?_)
                      refine v_if_ne hC hf dX6_write_141 (tgt := 230) (by decide) (fun hf => ?_) (fun hf => ?_)
                      · exact v_sub [(0, .ref a0), (1, .int i1), (2, .int i2), (3, .int x2), (4, .long l5)] [1, 2, 3, 4, 5] rfl (hk14 _ _ _ hf)
                      · refine v_at 144 rfl ?_
                        refine v_lload hC 5 dX6_write_144 rfl ?_
                        refine v_lstore hC [(8, .long l5), (7, .int z11.1), (0, .ref a0), (1, .int i1), (2, .int i2), (3, .int x2), (4, .long l5), (6, .int z6)] dX6_write_146 hN (Nat.le_of_ble_eq_true rfl) rfl ?_
                        refine v_at 148 rfl ?_
                        refine v_sub [(0, .ref a0), (4, .long l5), (8, .long l5)] [2, 6, 0] rfl ?_
                        refine v_lpP hf (E_X6_write_L148 K _ _ z11.2 a0 l5) (fun _ h hE => v_X6_write_L148 hC hR hN _ _ _ _ _ _ h hE) (fun y34 hf => ?_)
                        show V K _ _ z11.2 168 [(0, .ref a0), (4, .long l5), (8, .long y34)] []
                        refine v_aload_n hC 0 dX6_write_168 rfl ?_
                        refine v_bipush (v := 48) hC dX6_write_169 (by decide) ?_
                        refine v_cVE hC (y := y_X6_mark) (ci := 6) [.int 48] [] (fun r => some (.int r)) (fun r => .int r :: []) hf (fun _ _ _ _ h => m_X6_mark h) rfl (fun _ => rfl) rfl rfl hR (Nat.le_of_ble_eq_true rfl) (Nat.le_of_ble_eq_true rfl) w_913 w_910 w_912 w_52 w_64 nm_X6_mark rfl (Nat.le_of_ble_eq_true rfl) dX6_write_171 (fun x35 σ36 _ _ hf => ?_)
                        refine v_istore hC [(7, .int x35), (0, .ref a0), (4, .long l5), (8, .long y34)] dX6_write_174 hN (Nat.le_of_ble_eq_true rfl) rfl ?_
                        refine v_lload hC 3 dX6_write_176 rfl ?_
                        refine v_lload hC 2 dX6_write_178 rfl ?_
                        refine v_jnE hf (fun z37 kr sr => V K (kr + 0) (sr + 0) z37 192 [(0, .ref a0), (4, .long l5), (8, .long y34)] []) (fun z37 _ _ hf => ?_) (fun k37 hk37 hf => ?_)
                        · refine v_lload hC 1 dX6_write_192 rfl ?_
                          refine v_lstore hC [(10, .long l5), (0, .ref a0), (4, .long l5), (8, .long y34)] dX6_write_194 hN (Nat.le_of_ble_eq_true rfl) rfl ?_
                          refine v_at 196 rfl ?_
                          refine v_sub [(0, .ref a0), (8, .long y34), (10, .long l5)] [1, 3, 0] rfl ?_
                          refine v_lpE hf (E_X6_write_L196 K a0 y34) (fun _ _ _ _ _ _ h hE => v_X6_write_L196 hC hR hN _ _ _ _ _ _ _ _ _ h hE) (fun y41 σ42 _ _ hf => ?_)
                          show V K _ _ σ42 221 [(0, .ref a0), (8, .long y34)] []
                          refine v_aload_n hC 0 dX6_write_221 rfl ?_
                          refine v_lload hC 1 dX6_write_222 rfl ?_
                          refine v_cVE hC (y := y_X6_putExponent) (ci := 6) [.long y34] [] (fun _ => none) (fun _ => []) hf (fun _ _ _ _ h => m_X6_putExponent h) rfl (fun _ => rfl) rfl rfl hR (Nat.le_of_ble_eq_true rfl) (Nat.le_of_ble_eq_true rfl) w_926 w_923 w_925 w_55 w_64 nm_X6_putExponent rfl (Nat.le_of_ble_eq_true rfl) dX6_write_224 (fun _ σ43 _ _ hf => ?_)
                          refine v_goto (tgt := 325) hC dX6_write_227 (by decide) ?_
                          exact v_sub [(0, .ref a0)] [0] rfl (hk12 _ _ _ hf)
                        · refine v_lcmp_le hC hf dX6_write_180 dX6_write_181 (tgt := 192) (by decide) (fun hf => ?_) (fun hf => ?_)
                          · exact v_sub [(0, .ref a0), (4, .long l5), (8, .long y34)] [1, 2, 3] rfl (hk37 _ _ _ hf)
                          · refine v_at 184 rfl ?_
                            refine v_aload_n hC 1 dX6_write_184 rfl ?_
                            refine v_bipush (v := 46) hC dX6_write_185 (by decide) ?_
                            refine v_cVE hC (y := y_X6_mark) (ci := 6) [.int 46] [] (fun r => some (.int r)) (fun r => .int r :: []) hf (fun _ _ _ _ h => m_X6_mark h) rfl (fun _ => rfl) rfl rfl hR (Nat.le_of_ble_eq_true rfl) (Nat.le_of_ble_eq_true rfl) w_913 w_910 w_912 w_52 w_64 nm_X6_mark rfl (Nat.le_of_ble_eq_true rfl) dX6_write_187 (fun x44 σ45 _ _ hf => ?_)
                            refine v_istore hC [(7, .int x44), (0, .ref a0), (4, .long l5), (8, .long y34)] dX6_write_190 hN (Nat.le_of_ble_eq_true rfl) rfl ?_
                            refine v_at 192 rfl ?_
                            exact v_sub [(0, .ref a0), (4, .long l5), (8, .long y34)] [1, 2, 3] rfl (hk37 _ _ _ hf)
                · refine v_at 122 rfl ?_
                  refine v_aload_n hC 1 dX6_write_122 rfl ?_
                  refine v_iload_n hC 2 dX6_write_123 rfl ?_
                  refine v_cVE hC (y := y_X6_plain) (ci := 6) [.int i1] [] (fun _ => none) (fun _ => []) hf (fun _ _ _ _ h => m_X6_plain h) rfl (fun _ => rfl) rfl rfl hR (Nat.le_of_ble_eq_true rfl) (Nat.le_of_ble_eq_true rfl) w_917 w_914 w_916 w_53 w_64 nm_X6_plain rfl (Nat.le_of_ble_eq_true rfl) dX6_write_124 (fun _ σ46 _ _ hf => ?_)
                  refine v_goto (tgt := 325) hC dX6_write_127 (by decide) ?_
                  exact v_sub [(0, .ref a0)] [1] rfl (hk12 _ _ _ hf)
            · refine v_jnE hf (fun z47 kr sr => V K (kr + 0) (sr + 0) z47 110 [(0, .ref a0), (1, .int i1), (2, .int i2), (3, .int x2), (4, .long l5), (6, .int z6)] []) (fun z47 _ _ hf => ?_) (fun k47 hk47 hf => ?_)
              · refine v_iconst (v := 1) hC dX6_write_110 (by decide) ?_
                refine v_goto (tgt := 115) hC dX6_write_111 (by decide) ?_
                exact v_sub [(0, .ref a0), (1, .int i1), (2, .int i2), (3, .int x2), (4, .long l5), (6, .int z6)] [0, 1, 2, 3, 4, 5] rfl (hk11 _ _ _ hf)
              · refine v_if_ge hC hf dX6_write_98 (tgt := 110) (by decide) (fun hf => ?_) (fun hf => ?_)
                · exact v_sub [(0, .ref a0), (1, .int i1), (2, .int i2), (3, .int x2), (4, .long l5), (6, .int z6)] [0, 1, 2, 3, 4, 5] rfl (hk47 _ _ _ hf)
                · refine v_at 101 rfl ?_
                  refine v_aload_n hC 0 dX6_write_101 rfl ?_
                  refine v_bipush (v := 45) hC dX6_write_102 (by decide) ?_
                  refine v_cVE hC (y := y_X6_mark) (ci := 6) [.int 45] [] (fun r => some (.int r)) (fun r => .int r :: []) hf (fun _ _ _ _ h => m_X6_mark h) rfl (fun _ => rfl) rfl rfl hR (Nat.le_of_ble_eq_true rfl) (Nat.le_of_ble_eq_true rfl) w_913 w_910 w_912 w_52 w_64 nm_X6_mark rfl (Nat.le_of_ble_eq_true rfl) dX6_write_104 (fun x48 σ49 _ _ hf => ?_)
                  refine v_if_eq hC hf dX6_write_107 (tgt := 114) (by decide) (fun hf => ?_) (fun hf => ?_)
                  · refine v_iconst (v := 0) hC dX6_write_114 (by decide) ?_
                    refine v_at 115 rfl ?_
                    exact v_sub [(0, .ref a0), (1, .int i1), (2, .int i2), (3, .int x2), (4, .long l5), (6, .int z6)] [0, 1, 2, 3, 4, 5] rfl (hk11 _ _ _ hf)
                  · refine v_at 110 rfl ?_
                    exact v_sub [(0, .ref a0), (1, .int i1), (2, .int i2), (3, .int x2), (4, .long l5), (6, .int z6)] [0, 1, 2, 3, 4, 5] rfl (hk47 _ _ _ hf)
          · refine v_if_eq hC hf dX6_write_70 (tgt := 87) (by decide) (fun hf => ?_) (fun hf => ?_)
            · exact v_sub [(0, .ref a0), (1, .int i1), (2, .int i2), (3, .int x2), (4, .long l5), (6, .int z6)] [1, 2, 3, 4, 5, 0] rfl (hk7 _ _ _ hf)
            · refine v_at 73 rfl ?_
              refine v_aload_n hC 1 dX6_write_73 rfl ?_
              refine v_iload_n hC 2 dX6_write_74 rfl ?_
              refine v_cVP hC (y := y_X6_plainSize) (ci := 6) [.int i1] [] (fun r => some (.long r)) (fun r => .long r :: []) hf (fun _ h => m_X6_plainSize h) rfl (fun _ => rfl) rfl rfl hR (Nat.le_of_ble_eq_true rfl) (Nat.le_of_ble_eq_true rfl) w_908 w_905 w_907 w_51 w_64 nm_X6_plainSize rfl (Nat.le_of_ble_eq_true rfl) dX6_write_75 (fun l50 hf => ?_)
              refine v_ldc2 hC dX6_write_78 w_909 ?_
              refine v_lcmp_le hC hf dX6_write_81 dX6_write_82 (tgt := 87) (by decide) (fun hf => ?_) (fun hf => ?_)
              · exact v_sub [(0, .ref a0), (1, .int i1), (2, .int i2), (3, .int x2), (4, .long l5), (6, .int z6)] [1, 2, 3, 4, 5, 0] rfl (hk7 _ _ _ hf)
              · refine v_at 85 rfl ?_
                refine v_iconst (v := (-1)) hC dX6_write_85 (by decide) ?_
                exact v_retI hC hf hE dX6_write_86
        · refine v_jnE hf (fun z51 kr sr => V K (kr + 0) (sr + 0) σ 61 [(0, .ref a0), (1, .int i1), (2, .int i2), (3, .int x2), (4, .long l5)] []) (fun z51 _ _ hf => ?_) (fun k51 hk51 hf => ?_)
          · refine v_iconst (v := 1) hC dX6_write_61 (by decide) ?_
            refine v_goto (tgt := 66) hC dX6_write_62 (by decide) ?_
            exact v_sub [(0, .ref a0), (1, .int i1), (2, .int i2), (3, .int x2), (4, .long l5)] [0, 1, 2, 3, 4] rfl (hk6 _ _ _ hf)
          · refine v_icmp_eq hC hf dX6_write_40 (tgt := 61) (by decide) (fun hf => ?_) (fun hf => ?_)
            · exact v_sub [(0, .ref a0), (1, .int i1), (2, .int i2), (3, .int x2), (4, .long l5)] [2, 3, 4, 1, 0] rfl (hk51 _ _ _ hf)
            · refine v_at 43 rfl ?_
              refine v_aload_n hC 2 dX6_write_43 rfl ?_
              refine v_getR hC (host := "") hf fd_6_3 w_661 dX6_write_44 (fun r52 hf => ?_)
              refine v_iload_n hC 3 dX6_write_47 rfl ?_
              refine v_ldI hC hf dX6_write_48 (fun x53 hf => ?_)
              refine v_jnE hf (fun z54 kr sr => V K (kr + 0) (sr + 0) σ 65 [(0, .ref a0), (1, .int i1), (2, .int i2), (3, .int x2), (4, .long l5)] []) (fun z54 _ _ hf => ?_) (fun k54 hk54 hf => ?_)
              · refine v_iconst (v := 0) hC dX6_write_65 (by decide) ?_
                refine v_at 66 rfl ?_
                exact v_sub [(0, .ref a0), (1, .int i1), (2, .int i2), (3, .int x2), (4, .long l5)] [0, 1, 2, 3, 4] rfl (hk6 _ _ _ hf)
              · refine v_if_lt hC hf dX6_write_49 (tgt := 65) (by decide) (fun hf => ?_) (fun hf => ?_)
                · exact v_sub [(0, .ref a0), (1, .int i1), (2, .int i2), (3, .int x2), (4, .long l5)] [2, 3, 4, 1, 0] rfl (hk54 _ _ _ hf)
                · refine v_at 52 rfl ?_
                  refine v_lload hC 0 dX6_write_52 rfl ?_
                  refine v_ldc2 hC dX6_write_54 w_904 ?_
                  refine v_lcmp_lt hC hf dX6_write_57 dX6_write_58 (tgt := 65) (by decide) (fun hf => ?_) (fun hf => ?_)
                  · exact v_sub [(0, .ref a0), (1, .int i1), (2, .int i2), (3, .int x2), (4, .long l5)] [2, 3, 4, 1, 0] rfl (hk54 _ _ _ hf)
                  · refine v_at 61 rfl ?_
                    exact v_sub [(0, .ref a0), (1, .int i1), (2, .int i2), (3, .int x2), (4, .long l5)] [2, 3, 4, 1, 0] rfl (hk51 _ _ _ hf)
      · refine v_at 16 rfl ?_
        refine v_iconst (v := (-1)) hC dX6_write_16 (by decide) ?_
        exact v_retI hC hf hE dX6_write_17
set_option maxHeartbeats 4000000 in
set_option maxRecDepth 100000 in
theorem m_X6_characterAt {G : Gm} {l : Launch} {σ : St} {a0 : Nat} {i1 : Int32} {r : Int32} (hf : f_X6_characterAt σ a0 i1 = some r) : (∃ fs : List Value, σ.1 a0 = some (.inr (.inl (6, fs)))) ∧ Ct G l y_X6_characterAt prog_8_method_59_code 2 (some .int) 0 0 [.ref a0, .int i1] σ (some (.int r)) σ 0 0 := by
  unfold f_X6_characterAt at hf
  obtain ⟨hob, hf⟩ := ob_some hf
  refine ⟨hob, Ct.ofV pl_X6_characterAt (Nat.le_of_ble_eq_true rfl) ?_⟩
  intro K hR hN hnm hC hE
  show V K 0 0 σ 0 [(0, .ref a0), (1, .int i1)] []
  refine v_iload_n hC 1 dX6_characterAt_0 rfl ?_
  refine v_if_lt hC hf dX6_characterAt_1 (tgt := 12) (by decide) (fun hf => ?_) (fun hf => ?_)
  · refine v_iconst (v := (-1)) hC dX6_characterAt_12 (by decide) ?_
    refine v_goto (tgt := 22) hC dX6_characterAt_13 (by decide) ?_
    exact v_retIP hC hf hE dX6_characterAt_22
  · refine v_at 4 rfl ?_
    refine v_iload_n hC 1 dX6_characterAt_4 rfl ?_
    refine v_aload_n hC 0 dX6_characterAt_5 rfl ?_
    refine v_getI hC (host := "") hf fd_6_9 w_667 dX6_characterAt_6 (fun x1 hf => ?_)
    refine v_icmp_lt hC hf dX6_characterAt_9 (tgt := 16) (by decide) (fun hf => ?_) (fun hf => ?_)
    · refine v_aload_n hC 0 dX6_characterAt_16 rfl ?_
      refine v_getR hC (host := "") hf fd_6_10 w_668 dX6_characterAt_17 (fun r2 hf => ?_)
      refine v_iload_n hC 1 dX6_characterAt_20 rfl ?_
      refine v_ldI hC hf dX6_characterAt_21 (fun x3 hf => ?_)
      exact v_retIP hC hf hE dX6_characterAt_22
    · refine v_at 12 rfl ?_
      refine v_iconst (v := (-1)) hC dX6_characterAt_12 (by decide) ?_
      refine v_goto (tgt := 22) hC dX6_characterAt_13 (by decide) ?_
      exact v_retIP hC hf hE dX6_characterAt_22
