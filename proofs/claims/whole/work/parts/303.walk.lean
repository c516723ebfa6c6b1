def E_X2_reduce_L82 (K : Cq) (a0 : Nat) (a1 : Nat) (i3 : Int32) (i4 : Int32) (y : Unit) (σ : St) (kr sr : Nat) : Prop := V K kr sr σ 128 [(0, .ref a0), (1, .ref a1), (3, .int i3), (4, .int i4)] []
set_option maxHeartbeats 4000000 in
set_option maxRecDepth 100000 in
theorem v_X2_reduce_L82 {K : Cq} {k0 s0 : Nat} (hC : Cx K prog_4_method_22_code "TensMill$Natural") (hR : kR K = rmF 4 98 k0 s0) (hN : kn K = 7) {ko so : Nat} : ∀ (n : Nat) (σ : St) (a0 : Nat) (a1 : Nat) (a2 : Nat) (i3 : Int32) (i4 : Int32) (i5 : Int32) (y : Unit) (σf : St) (kr sr : Nat), f_X2_reduce_L82 n σ a0 a1 a2 i3 i4 i5 = some (y, σf, kr, sr) → E_X2_reduce_L82 K a0 a1 i3 i4 y σf ko so → V K (kr + ko) (sr + so) σ 82 [(0, .ref a0), (1, .ref a1), (2, .ref a2), (3, .int i3), (4, .int i4), (5, .int i5)] [] := by
  intro n
  induction n with
  | zero =>
    intro σ a0 a1 a2 i3 i4 i5 y σf kr sr hf hE
    cases hf
  | succ n ih =>
    intro σ a0 a1 a2 i3 i4 i5 y σf kr sr hf hE
    replace hf : b_X2_reduce_L82 (f_X2_reduce_L82 n) σ a0 a1 a2 i3 i4 i5 = some (y, σf, kr, sr) := hf
    unfold b_X2_reduce_L82 at hf
    refine v_iload hC 5 dX2_reduce_82 rfl ?_
    refine v_if_lt hC hf dX2_reduce_84 (tgt := 128) (by decide) (fun hf => ?_) (fun hf => ?_)
    · obtain ⟨hX, e1, e2⟩ := v_exE (E := E_X2_reduce_L82 K a0 a1 i3 i4) hf hE
      rw [e1, e2]
      exact v_sub [(0, .ref a0), (1, .ref a1), (3, .int i3), (4, .int i4)] [0, 1, 3, 4] rfl hX
    · refine v_at 87 rfl ?_
      refine v_aload_n hC 0 dX2_reduce_87 rfl ?_
      refine v_aload_n hC 2 dX2_reduce_88 rfl ?_
      refine v_getR hC (host := "") hf fd_2_0 w_85 dX2_reduce_89 (fun r13 hf => ?_)
      refine v_iload_n hC 3 dX2_reduce_92 rfl ?_
      refine v_iload hC 5 dX2_reduce_93 rfl ?_
      refine v_iload_n hC 3 dX2_reduce_95 rfl ?_
      refine v_iadd hC dX2_reduce_96 ?_
      refine v_cVP hC (y := y_X2_guessLimb) (ci := 2) [.ref r13, .int i3, .int (i5 + i3)] [] (fun r => some (.int r)) (fun r => .int r :: []) hf (fun _ h => m_X2_guessLimb h) rfl (fun _ => rfl) rfl rfl hR (Nat.le_of_ble_eq_true rfl) (Nat.le_of_ble_eq_true rfl) w_382 w_379 w_381 w_9 w_59 nm_X2_guessLimb rfl (Nat.le_of_ble_eq_true rfl) dX2_reduce_97 (fun x14 hf => ?_)
      refine v_at 100 rfl ?_
      refine v_istore hC [(6, .int x14), (0, .ref a0), (1, .ref a1), (2, .ref a2), (3, .int i3), (4, .int i4), (5, .int i5)] dX2_reduce_100 hN (Nat.le_of_ble_eq_true rfl) rfl ?_
      refine v_aload_n hC 2 dX2_reduce_102 rfl ?_
      refine v_getR hC (host := "") hf fd_2_0 w_85 dX2_reduce_103 (fun r15 hf => ?_)
      refine v_iload hC 6 dX2_reduce_106 rfl ?_
      refine v_aload_n hC 1 dX2_reduce_108 rfl ?_
      refine v_aload_n hC 3 dX2_reduce_109 rfl ?_
      refine v_getR hC (host := "") hf fd_2_0 w_85 dX2_reduce_110 (fun r16 hf => ?_)
      refine v_iload_n hC 4 dX2_reduce_113 rfl ?_
      refine v_at 114 rfl ?_
      refine v_iload hC 6 dX2_reduce_114 rfl ?_
      refine v_iload hC 0 dX2_reduce_116 rfl ?_
      refine v_cVE hC (y := y_X2_takeLimb) (ci := 2) [.ref r16, .int i3, .int i5, .int x14] [.int i5, .ref r15] (fun r => some (.int r)) (fun r => .int r :: [.int i5, .ref r15]) hf (fun _ _ _ _ h => m_X2_takeLimb h) rfl (fun _ => rfl) rfl rfl hR (Nat.le_of_ble_eq_true rfl) (Nat.le_of_ble_eq_true rfl) w_393 w_390 w_392 w_10 w_59 nm_X2_takeLimb rfl (Nat.le_of_ble_eq_true rfl) dX2_reduce_118 (fun x17 σ18 _ _ hf => ?_)
      refine v_stI hC hf dX2_reduce_121 (fun σ19 hf => ?_)
      refine v_incL hC hf 6 (fun x20 => [(5, .int x20), (6, .int x14), (0, .ref a0), (1, .ref a1), (2, .ref a2), (3, .int i3), (4, .int i4)]) dX2_reduce_122 rfl (by decide) hN (Nat.le_of_ble_eq_true rfl) (fun _ => rfl) (fun x20 hf => ?_)
      refine v_goto (tgt := 82) hC dX2_reduce_125 (by decide) ?_
      exact v_sub [(0, .ref a0), (1, .ref a1), (2, .ref a2), (3, .int i3), (4, .int i4), (5, .int x20)] [2, 3, 4, 5, 6, 0] rfl (ih _ _ _ _ _ _ _ _ _ _ _ hf hE)
set_option maxHeartbeats 4000000 in
set_option maxRecDepth 100000 in
theorem m_X2_reduce {G : Gm} {l : Launch} {σ : St} {a0 : Nat} {a1 : Nat} {a2 : Nat} {r : Unit} {σf : St} {k s : Nat} (hf : f_X2_reduce σ a0 a1 a2 = some (r, σf, k, s)) : (∃ fs : List Value, σ.1 a0 = some (.inr (.inl (2, fs)))) ∧ Ct G l y_X2_reduce prog_4_method_22_code 7 none 4 98 [.ref a0, .ref a1, .ref a2] σ none σf k s := by
  unfold f_X2_reduce at hf
  obtain ⟨hob, hf⟩ := ob_some hf
  refine ⟨hob, Ct.ofV pl_X2_reduce (Nat.le_of_ble_eq_true rfl) ?_⟩
  intro K hR hN hnm hC hE
  show V K (k + 0) (s + 0) σ 0 [(0, .ref a0), (1, .ref a1), (2, .ref a2)] []
  refine v_aload_n hC 1 dX2_reduce_0 rfl ?_
  refine v_iconst (v := 0) hC dX2_reduce_1 (by decide) ?_
  refine v_put hC hf fd_2_1 w_86 rfl rfl dX2_reduce_2 (fun σ1 hf => ?_)
  refine v_aload_n hC 2 dX2_reduce_5 rfl ?_
  refine v_getI hC (host := "") hf fd_2_1 w_86 dX2_reduce_6 (fun x2 hf => ?_)
  refine v_istore_n hC [(3, .int x2), (0, .ref a0), (1, .ref a1), (2, .ref a2)] dX2_reduce_9 rfl hN (Nat.le_of_ble_eq_true rfl) rfl ?_
  refine v_iload_n hC 0 dX2_reduce_10 rfl ?_
  refine v_if_eq hC hf dX2_reduce_11 (tgt := 22) (by decide) (fun hf => ?_) (fun hf => ?_)
  · exact v_retV hC hf hE dX2_reduce_22
  · refine v_at 14 rfl ?_
    refine v_aload_n hC 1 dX2_reduce_14 rfl ?_
    refine v_getI hC (host := "") hf fd_2_1 w_86 dX2_reduce_15 (fun x3 hf => ?_)
    refine v_iload_n hC 0 dX2_reduce_18 rfl ?_
    refine v_icmp_ge hC hf dX2_reduce_19 (tgt := 23) (by decide) (fun hf => ?_) (fun hf => ?_)
    · refine v_iload_n hC 0 dX2_reduce_23 rfl ?_
      refine v_iconst (v := 1) hC dX2_reduce_24 (by decide) ?_
      refine v_icmp_ne hC hf dX2_reduce_25 (tgt := 40) (by decide) (fun hf => ?_) (fun hf => ?_)
      · refine v_aload_n hC 1 dX2_reduce_40 rfl ?_
        refine v_getI hC (host := "") hf fd_2_1 w_86 dX2_reduce_41 (fun x4 hf => ?_)
        refine v_iload_n hC 0 dX2_reduce_44 rfl ?_
        refine v_isub hC dX2_reduce_45 ?_
        refine v_iconst (v := 1) hC dX2_reduce_46 (by decide) ?_
        refine v_iadd hC dX2_reduce_47 ?_
        refine v_ltI hf (fun x5 hf => ?_)
        refine v_istore hC [(4, .int x5), (3, .int x2), (0, .ref a0), (1, .ref a1), (2, .ref a2)] dX2_reduce_48 hN (Nat.le_of_ble_eq_true rfl) rfl ?_
        refine v_aload_n hC 2 dX2_reduce_50 rfl ?_
        refine v_at 51 rfl ?_
        refine v_aload_n hC 2 dX2_reduce_51 rfl ?_
        refine v_getI hC (host := "") hf fd_2_1 w_86 dX2_reduce_52 (fun x6 hf => ?_)
        refine v_iconst (v := 1) hC dX2_reduce_55 (by decide) ?_
        refine v_iadd hC dX2_reduce_56 ?_
        refine v_cVE hC (y := y_X2_makeRoom) (ci := 2) [.int (x6 + 1)] [] (fun _ => none) (fun _ => []) hf (fun _ _ _ _ h => m_X2_makeRoom h) rfl (fun _ => rfl) rfl rfl hR (Nat.le_of_ble_eq_true rfl) (Nat.le_of_ble_eq_true rfl) w_249 w_246 w_248 w_1 w_59 nm_X2_makeRoom rfl (Nat.le_of_ble_eq_true rfl) dX2_reduce_57 (fun _ σ7 _ _ hf => ?_)
        refine v_aload_n hC 2 dX2_reduce_60 rfl ?_
        refine v_getR hC (host := "") hf fd_2_0 w_85 dX2_reduce_61 (fun r8 hf => ?_)
        refine v_aload_n hC 2 dX2_reduce_64 rfl ?_
        refine v_at 65 rfl ?_
        refine v_getI hC (host := "") hf fd_2_1 w_86 dX2_reduce_65 (fun x9 hf => ?_)
        refine v_iconst (v := 0) hC dX2_reduce_68 (by decide) ?_
        refine v_stI hC hf dX2_reduce_69 (fun σ10 hf => ?_)
        refine v_aload_n hC 3 dX2_reduce_70 rfl ?_
        refine v_iload hC 0 dX2_reduce_71 rfl ?_
        refine v_cVE hC (y := y_X2_makeRoom) (ci := 2) [.int x5] [] (fun _ => none) (fun _ => []) hf (fun _ _ _ _ h => m_X2_makeRoom h) rfl (fun _ => rfl) rfl rfl hR (Nat.le_of_ble_eq_true rfl) (Nat.le_of_ble_eq_true rfl) w_249 w_246 w_248 w_1 w_59 nm_X2_makeRoom rfl (Nat.le_of_ble_eq_true rfl) dX2_reduce_73 (fun _ σ11 _ _ hf => ?_)
        refine v_iload hC 0 dX2_reduce_76 rfl ?_
        refine v_iconst (v := 1) hC dX2_reduce_78 (by decide) ?_
        refine v_at 79 rfl ?_
        refine v_isub hC dX2_reduce_79 ?_
        refine v_ltI hf (fun x12 hf => ?_)
        refine v_istore hC [(5, .int x12), (4, .int x5), (3, .int x2), (0, .ref a0), (1, .ref a1), (2, .ref a2)] dX2_reduce_80 hN (Nat.le_of_ble_eq_true rfl) rfl ?_
        refine v_at 82 rfl ?_
        refine v_sub [(0, .ref a0), (1, .ref a1), (2, .ref a2), (3, .int x2), (4, .int x5), (5, .int x12)] [3, 4, 5, 2, 1, 0] rfl ?_
        refine v_lpE hf (E_X2_reduce_L82 K a0 a1 x2 x5) (fun _ _ _ _ _ _ h hE => v_X2_reduce_L82 hC hR hN _ _ _ _ _ _ _ _ _ _ _ _ h hE) (fun y21 σ22 _ _ hf => ?_)
        show V K _ _ σ22 128 [(0, .ref a0), (1, .ref a1), (3, .int x2), (4, .int x5)] []
        refine v_aload_n hC 1 dX2_reduce_128 rfl ?_
        refine v_iload hC 3 dX2_reduce_129 rfl ?_
        refine v_put hC hf fd_2_1 w_86 rfl rfl dX2_reduce_131 (fun σ23 hf => ?_)
        refine v_aload_n hC 1 dX2_reduce_134 rfl ?_
        refine v_cVE hC (y := y_X2_trim) (ci := 2) [] [] (fun _ => none) (fun _ => []) hf (fun _ _ _ _ h => m_X2_trim h) rfl (fun _ => rfl) rfl rfl hR (Nat.le_of_ble_eq_true rfl) (Nat.le_of_ble_eq_true rfl) w_307 w_304 w_306 w_4 w_59 nm_X2_trim rfl (Nat.le_of_ble_eq_true rfl) dX2_reduce_135 (fun _ σ24 _ _ hf => ?_)
        refine v_aload_n hC 0 dX2_reduce_138 rfl ?_
        refine v_iload_n hC 2 dX2_reduce_139 rfl ?_
        refine v_put hC hf fd_2_1 w_86 rfl rfl dX2_reduce_140 (fun σ25 hf => ?_)
        refine v_at 143 rfl ?_
        refine v_aload_n hC 0 dX2_reduce_143 rfl ?_
        refine v_cVE hC (y := y_X2_trim) (ci := 2) [] [] (fun _ => none) (fun _ => []) hf (fun _ _ _ _ h => m_X2_trim h) rfl (fun _ => rfl) rfl rfl hR (Nat.le_of_ble_eq_true rfl) (Nat.le_of_ble_eq_true rfl) w_307 w_304 w_306 w_4 w_59 nm_X2_trim rfl (Nat.le_of_ble_eq_true rfl) dX2_reduce_144 (fun _ σ26 _ _ hf => ?_)
        exact v_retV hC hf hE dX2_reduce_147
      · refine v_at 28 rfl ?_
        refine v_aload_n hC 1 dX2_reduce_28 rfl ?_
        refine v_aload_n hC 2 dX2_reduce_29 rfl ?_
        refine v_aload_n hC 3 dX2_reduce_30 rfl ?_
        refine v_getR hC (host := "") hf fd_2_0 w_85 dX2_reduce_31 (fun r27 hf => ?_)
        refine v_iconst (v := 0) hC dX2_reduce_34 (by decide) ?_
        refine v_ldI hC hf dX2_reduce_35 (fun x28 hf => ?_)
        refine v_cVE hC (y := y_X2_reduceByLimb) (ci := 2) [.ref a1, .int x28] [] (fun _ => none) (fun _ => []) hf (fun _ _ _ _ h => m_X2_reduceByLimb h) rfl (fun _ => rfl) rfl rfl hR (Nat.le_of_ble_eq_true rfl) (Nat.le_of_ble_eq_true rfl) w_378 w_375 w_377 w_8 w_59 nm_X2_reduceByLimb rfl (Nat.le_of_ble_eq_true rfl) dX2_reduce_36 (fun _ σ29 _ _ hf => ?_)
        exact v_retV hC hf hE dX2_reduce_39
    · refine v_at 22 rfl ?_
      exact v_retV hC hf hE dX2_reduce_22
def E_X2_rootOf_L7 (K : Cq) (kr sr : Nat) (σ : St)  (y : (Int64) ⊕ (Int64)) : Prop := match y with
  | .inl z => V K kr sr σ 38 [(2, .long z)] []
  | .inr z => V K kr sr σ 49 [(2, .long z)] []
set_option maxHeartbeats 4000000 in
set_option maxRecDepth 100000 in
theorem v_X2_rootOf_L7 {K : Cq} {k0 s0 : Nat} (hC : Cx K prog_4_method_30_code "TensMill$Natural") (hR : kR K = rmF 0 0 k0 s0) (hN : kn K = 7) {kr sr : Nat} : ∀ (n : Nat) (σ : St) (j0 : Int64) (j2 : Int64) (i4 : Int32) (y : (Int64) ⊕ (Int64)), f_X2_rootOf_L7 n σ j0 j2 i4 = some y → E_X2_rootOf_L7 K kr sr σ  y → V K kr sr σ 7 [(0, .long j0), (2, .long j2), (4, .int i4)] [] := by
  intro n
  induction n with
  | zero =>
    intro σ j0 j2 i4 y hf hE
    cases hf
  | succ n ih =>
    intro σ j0 j2 i4 y hf hE
    replace hf : b_X2_rootOf_L7 (f_X2_rootOf_L7 n) σ j0 j2 i4 = some y := hf
    unfold b_X2_rootOf_L7 at hf
    refine v_iload hC 2 dX2_rootOf_7 rfl ?_
    refine v_bipush (v := 64) hC dX2_rootOf_9 (by decide) ?_
    refine v_icmp_ge hC hf dX2_rootOf_11 (tgt := 49) (by decide) (fun hf => ?_) (fun hf => ?_)
    · exact v_sub [(2, .long j2)] [1] rfl (v_exP (E := E_X2_rootOf_L7 K _ _ _ ) hf hE)
    · refine v_at 14 rfl ?_
      refine v_lload_n hC 1 dX2_rootOf_14 rfl ?_
      refine v_lconst (v := 0) hC dX2_rootOf_15 (by decide) ?_
      refine v_lcmp_le hC hf dX2_rootOf_16 dX2_rootOf_17 (tgt := 49) (by decide) (fun hf => ?_) (fun hf => ?_)
      · exact v_sub [(2, .long j2)] [1] rfl (v_exP (E := E_X2_rootOf_L7 K _ _ _ ) hf hE)
      · refine v_at 20 rfl ?_
        refine v_lload_n hC 1 dX2_rootOf_20 rfl ?_
        refine v_lload_n hC 0 dX2_rootOf_21 rfl ?_
        refine v_lload_n hC 1 dX2_rootOf_22 rfl ?_
        refine v_ldiv hC hf dX2_rootOf_23 (fun l1 hf => ?_)
        refine v_ladd hC dX2_rootOf_24 ?_
        refine v_ldc2 hC dX2_rootOf_25 w_484 ?_
        refine v_ldiv hC hf dX2_rootOf_28 (fun l2 hf => ?_)
        refine v_lstore hC [(5, .long l2), (0, .long j0), (2, .long j2), (4, .int i4)] dX2_rootOf_29 hN (Nat.le_of_ble_eq_true rfl) rfl ?_
        refine v_at 31 rfl ?_
        refine v_lload hC 0 dX2_rootOf_31 rfl ?_
        refine v_lload_n hC 2 dX2_rootOf_33 rfl ?_
        refine v_lcmp_lt hC hf dX2_rootOf_34 dX2_rootOf_35 (tgt := 40) (by decide) (fun hf => ?_) (fun hf => ?_)
        · refine v_lload hC 0 dX2_rootOf_40 rfl ?_
          refine v_lstore_n hC [(2, .long l2), (5, .long l2), (0, .long j0), (4, .int i4)] dX2_rootOf_42 rfl hN (Nat.le_of_ble_eq_true rfl) rfl ?_
          refine v_incL hC hf 3 (fun x3 => [(4, .int x3), (2, .long l2), (5, .long l2), (0, .long j0)]) dX2_rootOf_43 rfl (by decide) hN (Nat.le_of_ble_eq_true rfl) (fun _ => rfl) (fun x3 hf => ?_)
          refine v_goto (tgt := 7) hC dX2_rootOf_46 (by decide) ?_
          exact v_sub [(0, .long j0), (2, .long l2), (4, .int x3)] [3, 1, 0] rfl (ih _ _ _ _ _ hf hE)
        · refine v_at 38 rfl ?_
          exact v_sub [(2, .long j2)] [2] rfl (v_exP (E := E_X2_rootOf_L7 K _ _ _ ) hf hE)
set_option maxHeartbeats 4000000 in
set_option maxRecDepth 100000 in
theorem m_X2_rootOf {G : Gm} {l : Launch} {σ : St} {j0 : Int64} {r : Int64} (hf : f_X2_rootOf σ j0 = some r) : Ct G l y_X2_rootOf prog_4_method_30_code 7 (some .long) 0 0 [.long j0] σ (some (.long r)) σ 0 0 := by
  unfold f_X2_rootOf at hf
  refine Ct.ofV pl_X2_rootOf (Nat.le_of_ble_eq_true rfl) ?_
  intro K hR hN hnm hC hE
  show V K 0 0 σ 0 [(0, .long j0)] []
  refine v_ldc2 hC dX2_rootOf_0 w_218 ?_
  refine v_lstore_n hC [(2, .long 1000000000), (0, .long j0)] dX2_rootOf_3 rfl hN (Nat.le_of_ble_eq_true rfl) rfl ?_
  refine v_iconst (v := 0) hC dX2_rootOf_4 (by decide) ?_
  refine v_istore hC [(4, .int 0), (2, .long 1000000000), (0, .long j0)] dX2_rootOf_5 hN (Nat.le_of_ble_eq_true rfl) rfl ?_
  refine v_at 7 rfl ?_
  refine v_sub [(0, .long j0), (2, .long 1000000000), (4, .int 0)] [2, 1, 0] rfl ?_
  refine v_lpP hf (E_X2_rootOf_L7 K _ _ σ ) (fun _ h hE => v_X2_rootOf_L7 hC hR hN _ _ _ _ _ _ h hE) (fun y4 hf => ?_)
  rcases y4 with z5 | z6
  · show V K _ _ σ 38 [(2, .long z5)] []
    refine v_lload_n hC 0 dX2_rootOf_38 rfl ?_
    exact v_retLP hC hf hE dX2_rootOf_39
  · show V K _ _ σ 49 [(2, .long z6)] []
    refine v_lload_n hC 0 dX2_rootOf_49 rfl ?_
    exact v_retLP hC hf hE dX2_rootOf_50
set_option maxHeartbeats 4000000 in
set_option maxRecDepth 100000 in
theorem m_X2_guessRootLimb {G : Gm} {l : Launch} {σ : St} {a0 : Nat} {a1 : Nat} {i2 : Int32} {i3 : Int32} {r : Int32} (hf : f_X2_guessRootLimb σ a0 a1 i2 i3 = some r) : (∃ fs : List Value, σ.1 a0 = some (.inr (.inl (2, fs)))) ∧ Ct G l y_X2_guessRootLimb prog_4_method_31_code 11 (some .int) 2 58 [.ref a0, .ref a1, .int i2, .int i3] σ (some (.int r)) σ 0 0 := by
  unfold f_X2_guessRootLimb at hf
  obtain ⟨hob, hf⟩ := ob_some hf
  refine ⟨hob, Ct.ofV pl_X2_guessRootLimb (Nat.le_of_ble_eq_true rfl) ?_⟩
  intro K hR hN hnm hC hE
  show V K 0 0 σ 0 [(0, .ref a0), (1, .ref a1), (2, .int i2), (3, .int i3)] []
  refine v_iload_n hC 2 dX2_guessRootLimb_0 rfl ?_
  refine v_iload_n hC 3 dX2_guessRootLimb_1 rfl ?_
  refine v_iadd hC dX2_guessRootLimb_2 ?_
  refine v_ltI hf (fun x1 hf => ?_)
  refine v_istore hC [(4, .int x1), (0, .ref a0), (1, .ref a1), (2, .int i2), (3, .int i3)] dX2_guessRootLimb_3 hN (Nat.le_of_ble_eq_true rfl) rfl ?_
  refine v_aload_n hC 2 dX2_guessRootLimb_5 rfl ?_
  refine v_iload_n hC 3 dX2_guessRootLimb_6 rfl ?_
  refine v_iconst (v := 1) hC dX2_guessRootLimb_7 (by decide) ?_
  refine v_isub hC dX2_guessRootLimb_8 ?_
  refine v_at 9 rfl ?_
  refine v_ldI hC hf dX2_guessRootLimb_9 (fun x2 hf => ?_)
  refine v_i2l hC dX2_guessRootLimb_10 ?_
  refine v_ltL hf (fun l3 hf => ?_)
  refine v_lstore hC [(5, .long l3), (4, .int x1), (0, .ref a0), (1, .ref a1), (2, .int i2), (3, .int i3)] dX2_guessRootLimb_11 hN (Nat.le_of_ble_eq_true rfl) rfl ?_
  refine v_lload hC 0 dX2_guessRootLimb_13 rfl ?_
  refine v_lconst (v := 0) hC dX2_guessRootLimb_15 (by decide) ?_
  refine v_lcmp_gt hC hf dX2_guessRootLimb_16 dX2_guessRootLimb_17 (tgt := 22) (by decide) (fun hf => ?_) (fun hf => ?_)
  · refine v_aload_n hC 2 dX2_guessRootLimb_22 rfl ?_
    refine v_getR hC (host := "") hf fd_2_0 w_85 dX2_guessRootLimb_23 (fun r4 hf => ?_)
    refine v_iload hC 1 dX2_guessRootLimb_26 rfl ?_
    refine v_iconst (v := 1) hC dX2_guessRootLimb_28 (by decide) ?_
    refine v_iadd hC dX2_guessRootLimb_29 ?_
    refine v_ldI hC hf dX2_guessRootLimb_30 (fun x5 hf => ?_)
    refine v_i2l hC dX2_guessRootLimb_31 ?_
    refine v_ldc2 hC dX2_guessRootLimb_32 w_218 ?_
    refine v_at 35 rfl ?_
    refine v_lmul hC dX2_guessRootLimb_35 ?_
    refine v_aload_n hC 2 dX2_guessRootLimb_36 rfl ?_
    refine v_getR hC (host := "") hf fd_2_0 w_85 dX2_guessRootLimb_37 (fun r6 hf => ?_)
    refine v_iload hC 1 dX2_guessRootLimb_40 rfl ?_
    refine v_ldI hC hf dX2_guessRootLimb_42 (fun x7 hf => ?_)
    refine v_i2l hC dX2_guessRootLimb_43 ?_
    refine v_ladd hC dX2_guessRootLimb_44 ?_
    refine v_ltL hf (fun l8 hf => ?_)
    refine v_lstore hC [(7, .long l8), (5, .long l3), (4, .int x1), (0, .ref a0), (1, .ref a1), (2, .int i2), (3, .int i3)] dX2_guessRootLimb_45 hN (Nat.le_of_ble_eq_true rfl) rfl ?_
    refine v_at 47 rfl ?_
    refine v_lload hC 0 dX2_guessRootLimb_47 rfl ?_
    refine v_ldc2 hC dX2_guessRootLimb_49 w_218 ?_
    refine v_lmul hC dX2_guessRootLimb_52 ?_
    refine v_aload_n hC 3 dX2_guessRootLimb_53 rfl ?_
    refine v_getR hC (host := "") hf fd_2_0 w_85 dX2_guessRootLimb_54 (fun r9 hf => ?_)
    refine v_iload hC 2 dX2_guessRootLimb_57 rfl ?_
    refine v_iconst (v := 1) hC dX2_guessRootLimb_59 (by decide) ?_
    refine v_isub hC dX2_guessRootLimb_60 ?_
    refine v_at 61 rfl ?_
    refine v_ldI hC hf dX2_guessRootLimb_61 (fun x10 hf => ?_)
    refine v_i2l hC dX2_guessRootLimb_62 ?_
    refine v_ladd hC dX2_guessRootLimb_63 ?_
    refine v_ltL hf (fun l11 hf => ?_)
    refine v_lstore hC [(9, .long l11), (7, .long l8), (5, .long l3), (4, .int x1), (0, .ref a0), (1, .ref a1), (2, .int i2), (3, .int i3)] dX2_guessRootLimb_64 hN (Nat.le_of_ble_eq_true rfl) rfl ?_
    refine v_iload_n hC 7 dX2_guessRootLimb_66 rfl ?_
    refine v_iload_n hC 6 dX2_guessRootLimb_67 rfl ?_
    refine v_iconst (v := 2) hC dX2_guessRootLimb_68 (by decide) ?_
    refine v_isub hC dX2_guessRootLimb_69 ?_
    refine v_at 70 rfl ?_
    refine v_icmp_ne hC hf dX2_guessRootLimb_70 (tgt := 86) (by decide) (fun hf => ?_) (fun hf => ?_)
    · refine v_lload hC 0 dX2_guessRootLimb_86 rfl ?_
      refine v_lload hC 2 dX2_guessRootLimb_88 rfl ?_
      refine v_ldiv hC hf dX2_guessRootLimb_90 (fun l12 hf => ?_)
      refine v_lload hC 0 dX2_guessRootLimb_91 rfl ?_
      refine v_lload hC 2 dX2_guessRootLimb_93 rfl ?_
      refine v_lrem hC hf dX2_guessRootLimb_95 (fun l13 hf => ?_)
      refine v_lload hC 2 dX2_guessRootLimb_96 rfl ?_
      refine v_aload_n hC 5 dX2_guessRootLimb_98 rfl ?_
      refine v_at 99 rfl ?_
      refine v_iload_n hC 6 dX2_guessRootLimb_99 rfl ?_
      refine v_iconst (v := 2) hC dX2_guessRootLimb_100 (by decide) ?_
      refine v_isub hC dX2_guessRootLimb_101 ?_
      refine v_ldI hC hf dX2_guessRootLimb_102 (fun x14 hf => ?_)
      refine v_i2l hC dX2_guessRootLimb_103 ?_
      refine v_aload_n hC 4 dX2_guessRootLimb_104 rfl ?_
      refine v_getR hC (host := "") hf fd_2_0 w_85 dX2_guessRootLimb_105 (fun r15 hf => ?_)
      refine v_iload hC 3 dX2_guessRootLimb_108 rfl ?_
      refine v_at 110 rfl ?_
      refine v_iconst (v := 2) hC dX2_guessRootLimb_110 (by decide) ?_
      refine v_isub hC dX2_guessRootLimb_111 ?_
      refine v_ldI hC hf dX2_guessRootLimb_112 (fun x16 hf => ?_)
      refine v_i2l hC dX2_guessRootLimb_113 ?_
      refine v_cSP hC (y := y_X2_refine) [.long l12, .long l13, .long l3, .long ((x14 : Int32).toInt64), .long ((x16 : Int32).toInt64)] [] (fun r => some (.int r)) (fun r => .int r :: []) hf (fun _ h => m_X2_refine h) rfl (fun _ => rfl) hR (Nat.le_of_ble_eq_true rfl) (Nat.le_of_ble_eq_true rfl) w_385 w_383 w_384 w_59 nm_X2_refine rfl (Nat.le_of_ble_eq_true rfl) dX2_guessRootLimb_114 (fun x17 hf => ?_)
      exact v_retIP hC hf hE dX2_guessRootLimb_117
    · refine v_at 73 rfl ?_
      refine v_lload hC 0 dX2_guessRootLimb_73 rfl ?_
      refine v_lload hC 2 dX2_guessRootLimb_75 rfl ?_
      refine v_ldiv hC hf dX2_guessRootLimb_77 (fun l18 hf => ?_)
      refine v_ldc2 hC dX2_guessRootLimb_78 w_386 ?_
      refine v_cSP hC (y := y_J9_min_f86c9) [.long l18, .long 999999999] [] (fun r => some (.long r)) (fun r => .long r :: []) hf (fun _ h => m_J9_min_f86c9 h) rfl (fun _ => rfl) hR (Nat.le_of_ble_eq_true rfl) (Nat.le_of_ble_eq_true rfl) w_389 w_387 w_388 w_65 nm_J9_min_f86c9 rfl (Nat.le_of_ble_eq_true rfl) dX2_guessRootLimb_81 (fun l19 hf => ?_)
      refine v_l2i hC dX2_guessRootLimb_84 ?_
      exact v_retIP hC hf hE dX2_guessRootLimb_85
  · refine v_at 20 rfl ?_
    refine v_iconst (v := 0) hC dX2_guessRootLimb_20 (by decide) ?_
    exact v_retIP hC hf hE dX2_guessRootLimb_21
def E_X2_takeRootLimb_L55 (K : Cq) (a0 : Nat) (i2 : Int32) (i3 : Int32) (y : Int32 × Int64) (σ : St) (kr sr : Nat) : Prop := V K kr sr σ 100 [(0, .ref a0), (2, .int i2), (3, .int i3), (5, .int y.1), (6, .long y.2)] []
set_option maxHeartbeats 4000000 in
set_option maxRecDepth 100000 in
theorem v_X2_takeRootLimb_L55 {K : Cq} {k0 s0 : Nat} (hC : Cx K prog_4_method_32_code "TensMill$Natural") (hR : kR K = rmF 1 33 k0 s0) (hN : kn K = 9) {ko so : Nat} : ∀ (n : Nat) (σ : St) (a0 : Nat) (a1 : Nat) (i2 : Int32) (i3 : Int32) (i5 : Int32) (j6 : Int64) (i8 : Int32) (y : Int32 × Int64) (σf : St) (kr sr : Nat), f_X2_takeRootLimb_L55 n σ a0 a1 i2 i3 i5 j6 i8 = some (y, σf, kr, sr) → E_X2_takeRootLimb_L55 K a0 i2 i3 y σf ko so → V K (kr + ko) (sr + so) σ 55 [(0, .ref a0), (1, .ref a1), (2, .int i2), (3, .int i3), (5, .int i5), (6, .long j6), (8, .int i8)] [] := by
  intro n
  induction n with
  | zero =>
    intro σ a0 a1 i2 i3 i5 j6 i8 y σf kr sr hf hE
    cases hf
  | succ n ih =>
    intro σ a0 a1 i2 i3 i5 j6 i8 y σf kr sr hf hE
    replace hf : b_X2_takeRootLimb_L55 (f_X2_takeRootLimb_L55 n) σ a0 a1 i2 i3 i5 j6 i8 = some (y, σf, kr, sr) := hf
    unfold b_X2_takeRootLimb_L55 at hf
    refine v_iload hC 6 dX2_takeRootLimb_55 rfl ?_
    refine v_bipush (v := 16) hC dX2_takeRootLimb_57 (by decide) ?_
    refine v_icmp_ge hC hf dX2_takeRootLimb_59 (tgt := 100) (by decide) (fun hf => ?_) (fun hf => ?_)
    · obtain ⟨hX, e1, e2⟩ := v_exE (E := E_X2_takeRootLimb_L55 K a0 i2 i3) hf hE
      rw [e1, e2]
      exact v_sub [(0, .ref a0), (2, .int i2), (3, .int i3), (5, .int i5), (6, .long j6)] [0, 2, 3, 4, 5] rfl hX
    · refine v_at 62 rfl ?_
      refine v_lload hC 5 dX2_takeRootLimb_62 rfl ?_
      refine v_lconst (v := 0) hC dX2_takeRootLimb_64 (by decide) ?_
      refine v_lcmp_ge hC hf dX2_takeRootLimb_65 dX2_takeRootLimb_66 (tgt := 100) (by decide) (fun hf => ?_) (fun hf => ?_)
      · obtain ⟨hX, e1, e2⟩ := v_exE (E := E_X2_takeRootLimb_L55 K a0 i2 i3) hf hE
        rw [e1, e2]
        exact v_sub [(0, .ref a0), (2, .int i2), (3, .int i3), (5, .int i5), (6, .long j6)] [0, 2, 3, 4, 5] rfl hX
      · refine v_at 69 rfl ?_
        refine v_aload_n hC 1 dX2_takeRootLimb_69 rfl ?_
        refine v_iload_n hC 3 dX2_takeRootLimb_70 rfl ?_
        refine v_iconst (v := 2) hC dX2_takeRootLimb_71 (by decide) ?_
        refine v_iload hC 4 dX2_takeRootLimb_72 rfl ?_
        refine v_imul hC dX2_takeRootLimb_74 ?_
        refine v_iconst (v := 1) hC dX2_takeRootLimb_75 (by decide) ?_
        refine v_isub hC dX2_takeRootLimb_76 ?_
        refine v_stI hC hf dX2_takeRootLimb_77 (fun σ10 hf => ?_)
        refine v_at 78 rfl ?_
        refine v_lload hC 5 dX2_takeRootLimb_78 rfl ?_
        refine v_aload_n hC 0 dX2_takeRootLimb_80 rfl ?_
        refine v_aload_n hC 1 dX2_takeRootLimb_81 rfl ?_
        refine v_iload_n hC 3 dX2_takeRootLimb_82 rfl ?_
        refine v_iload_n hC 2 dX2_takeRootLimb_83 rfl ?_
        refine v_iload_n hC 3 dX2_takeRootLimb_84 rfl ?_
        refine v_cVE hC (y := y_X2_addBack) (ci := 2) [.ref a1, .int i3, .int i2, .int i3] [.long j6] (fun r => some (.long r)) (fun r => .long r :: [.long j6]) hf (fun _ _ _ _ h => m_X2_addBack h) rfl (fun _ => rfl) rfl rfl hR (Nat.le_of_ble_eq_true rfl) (Nat.le_of_ble_eq_true rfl) w_401 w_398 w_400 w_12 w_59 nm_X2_addBack rfl (Nat.le_of_ble_eq_true rfl) dX2_takeRootLimb_85 (fun l11 σ12 _ _ hf => ?_)
        refine v_ladd hC dX2_takeRootLimb_88 ?_
        refine v_at 89 rfl ?_
        refine v_ltL hf (fun l13 hf => ?_)
        refine v_lstore hC [(6, .long l13), (0, .ref a0), (1, .ref a1), (2, .int i2), (3, .int i3), (5, .int i5), (8, .int i8)] dX2_takeRootLimb_89 hN (Nat.le_of_ble_eq_true rfl) rfl ?_
        refine v_incL hC hf 5 (fun x14 => [(5, .int x14), (6, .long l13), (0, .ref a0), (1, .ref a1), (2, .int i2), (3, .int i3), (8, .int i8)]) dX2_takeRootLimb_91 rfl (by decide) hN (Nat.le_of_ble_eq_true rfl) (fun _ => rfl) (fun x14 hf => ?_)
        refine v_incL hC hf 6 (fun x15 => [(8, .int x15), (5, .int x14), (6, .long l13), (0, .ref a0), (1, .ref a1), (2, .int i2), (3, .int i3)]) dX2_takeRootLimb_94 rfl (by decide) hN (Nat.le_of_ble_eq_true rfl) (fun _ => rfl) (fun x15 hf => ?_)
        refine v_goto (tgt := 55) hC dX2_takeRootLimb_97 (by decide) ?_
        exact v_sub [(0, .ref a0), (1, .ref a1), (2, .int i2), (3, .int i3), (5, .int x14), (6, .long l13), (8, .int x15)] [3, 4, 5, 6, 1, 2, 0] rfl (ih _ _ _ _ _ _ _ _ _ _ _ _ hf hE)
set_option maxHeartbeats 4000000 in
set_option maxRecDepth 100000 in
theorem m_X2_takeRootLimb {G : Gm} {l : Launch} {σ : St} {a0 : Nat} {a1 : Nat} {i2 : Int32} {i3 : Int32} {i4 : Int32} {r : Int32} {σf : St} {k s : Nat} (hf : f_X2_takeRootLimb σ a0 a1 i2 i3 i4 = some (r, σf, k, s)) : (∃ fs : List Value, σ.1 a0 = some (.inr (.inl (2, fs)))) ∧ Ct G l y_X2_takeRootLimb prog_4_method_32_code 9 (some .int) 1 33 [.ref a0, .ref a1, .int i2, .int i3, .int i4] σ (some (.int r)) σf k s := by
  unfold f_X2_takeRootLimb at hf
  obtain ⟨hob, hf⟩ := ob_some hf
  refine ⟨hob, Ct.ofV pl_X2_takeRootLimb (Nat.le_of_ble_eq_true rfl) ?_⟩
  intro K hR hN hnm hC hE
  show V K (k + 0) (s + 0) σ 0 [(0, .ref a0), (1, .ref a1), (2, .int i2), (3, .int i3), (4, .int i4)] []
  refine v_iload hC 4 dX2_takeRootLimb_0 rfl ?_
  refine v_istore hC [(5, .int i4), (0, .ref a0), (1, .ref a1), (2, .int i2), (3, .int i3), (4, .int i4)] dX2_takeRootLimb_2 hN (Nat.le_of_ble_eq_true rfl) rfl ?_
  refine v_aload_n hC 2 dX2_takeRootLimb_4 rfl ?_
  refine v_iload_n hC 4 dX2_takeRootLimb_5 rfl ?_
  refine v_iload hC 0 dX2_takeRootLimb_6 rfl ?_
  refine v_stI hC hf dX2_takeRootLimb_8 (fun σ1 hf => ?_)
  refine v_aload_n hC 1 dX2_takeRootLimb_9 rfl ?_
  refine v_getR hC (host := "") hf fd_2_0 w_85 dX2_takeRootLimb_10 (fun r2 hf => ?_)
  refine v_at 13 rfl ?_
  refine v_iload_n hC 3 dX2_takeRootLimb_13 rfl ?_
  refine v_iload_n hC 4 dX2_takeRootLimb_14 rfl ?_
  refine v_iadd hC dX2_takeRootLimb_15 ?_
  refine v_iconst (v := 1) hC dX2_takeRootLimb_16 (by decide) ?_
  refine v_iadd hC dX2_takeRootLimb_17 ?_
  refine v_ldI hC hf dX2_takeRootLimb_18 (fun x3 hf => ?_)
  refine v_i2l hC dX2_takeRootLimb_19 ?_
  refine v_ldc2 hC dX2_takeRootLimb_20 w_218 ?_
  refine v_at 23 rfl ?_
  refine v_lmul hC dX2_takeRootLimb_23 ?_
  refine v_aload_n hC 1 dX2_takeRootLimb_24 rfl ?_
  refine v_getR hC (host := "") hf fd_2_0 w_85 dX2_takeRootLimb_25 (fun r4 hf => ?_)
  refine v_iload_n hC 3 dX2_takeRootLimb_28 rfl ?_
  refine v_iload_n hC 4 dX2_takeRootLimb_29 rfl ?_
  refine v_iadd hC dX2_takeRootLimb_30 ?_
  refine v_ldI hC hf dX2_takeRootLimb_31 (fun x5 hf => ?_)
  refine v_i2l hC dX2_takeRootLimb_32 ?_
  refine v_at 33 rfl ?_
  refine v_ladd hC dX2_takeRootLimb_33 ?_
  refine v_ltL hf (fun l6 hf => ?_)
  refine v_lstore hC [(6, .long l6), (5, .int i4), (0, .ref a0), (1, .ref a1), (2, .int i2), (3, .int i3), (4, .int i4)] dX2_takeRootLimb_34 hN (Nat.le_of_ble_eq_true rfl) rfl ?_
  refine v_lload hC 0 dX2_takeRootLimb_36 rfl ?_
  refine v_aload_n hC 2 dX2_takeRootLimb_38 rfl ?_
  refine v_aload_n hC 3 dX2_takeRootLimb_39 rfl ?_
  refine v_iload_n hC 5 dX2_takeRootLimb_40 rfl ?_
  refine v_iload_n hC 4 dX2_takeRootLimb_41 rfl ?_
  refine v_iload hC 1 dX2_takeRootLimb_42 rfl ?_
  refine v_at 44 rfl ?_
  refine v_i2l hC dX2_takeRootLimb_44 ?_
  refine v_iload_n hC 5 dX2_takeRootLimb_45 rfl ?_
  refine v_cVE hC (y := y_X2_subtractTimes) (ci := 2) [.ref a1, .int i3, .int i2, .long ((i4 : Int32).toInt64), .int i3] [.long l6] (fun r => some (.long r)) (fun r => .long r :: [.long l6]) hf (fun _ _ _ _ h => m_X2_subtractTimes h) rfl (fun _ => rfl) rfl rfl hR (Nat.le_of_ble_eq_true rfl) (Nat.le_of_ble_eq_true rfl) w_397 w_394 w_396 w_11 w_59 nm_X2_subtractTimes rfl (Nat.le_of_ble_eq_true rfl) dX2_takeRootLimb_46 (fun l7 σ8 _ _ hf => ?_)
  refine v_lsub hC dX2_takeRootLimb_49 ?_
  refine v_ltL hf (fun l9 hf => ?_)
  refine v_lstore hC [(6, .long l9), (5, .int i4), (0, .ref a0), (1, .ref a1), (2, .int i2), (3, .int i3), (4, .int i4)] dX2_takeRootLimb_50 hN (Nat.le_of_ble_eq_true rfl) rfl ?_
  refine v_iconst (v := 0) hC dX2_takeRootLimb_52 (by decide) ?_
  refine v_istore hC [(8, .int 0), (6, .long l9), (5, .int i4), (0, .ref a0), (1, .ref a1), (2, .int i2), (3, .int i3), (4, .int i4)] dX2_takeRootLimb_53 hN (Nat.le_of_ble_eq_true rfl) rfl ?_
  refine v_at 55 rfl ?_
  refine v_sub [(0, .ref a0), (1, .ref a1), (2, .int i2), (3, .int i3), (5, .int i4), (6, .long l9), (8, .int 0)] [3, 4, 5, 6, 2, 1, 0] rfl ?_
  refine v_lpE hf (E_X2_takeRootLimb_L55 K a0 i2 i3) (fun _ _ _ _ _ _ h hE => v_X2_takeRootLimb_L55 hC hR hN _ _ _ _ _ _ _ _ _ _ _ _ _ h hE) (fun y16 σ17 _ _ hf => ?_)
  show V K _ _ σ17 100 [(0, .ref a0), (2, .int i2), (3, .int i3), (5, .int y16.1), (6, .long y16.2)] []
  refine v_aload_n hC 0 dX2_takeRootLimb_100 rfl ?_
  refine v_getR hC (host := "") hf fd_2_0 w_85 dX2_takeRootLimb_101 (fun r18 hf => ?_)
  refine v_iload_n hC 1 dX2_takeRootLimb_104 rfl ?_
  refine v_iload_n hC 2 dX2_takeRootLimb_105 rfl ?_
  refine v_iadd hC dX2_takeRootLimb_106 ?_
  refine v_lload hC 4 dX2_takeRootLimb_107 rfl ?_
  refine v_ldc2 hC dX2_takeRootLimb_109 w_218 ?_
  refine v_lrem hC hf dX2_takeRootLimb_112 (fun l19 hf => ?_)
  refine v_at 113 rfl ?_
  refine v_l2i hC dX2_takeRootLimb_113 ?_
  refine v_stI hC hf dX2_takeRootLimb_114 (fun σ20 hf => ?_)
  refine v_aload_n hC 0 dX2_takeRootLimb_115 rfl ?_
  refine v_getR hC (host := "") hf fd_2_0 w_85 dX2_takeRootLimb_116 (fun r21 hf => ?_)
  refine v_iload_n hC 1 dX2_takeRootLimb_119 rfl ?_
  refine v_iload_n hC 2 dX2_takeRootLimb_120 rfl ?_
  refine v_iadd hC dX2_takeRootLimb_121 ?_
  refine v_iconst (v := 1) hC dX2_takeRootLimb_122 (by decide) ?_
  refine v_at 123 rfl ?_
  refine v_iadd hC dX2_takeRootLimb_123 ?_
  refine v_lload hC 4 dX2_takeRootLimb_124 rfl ?_
  refine v_ldc2 hC dX2_takeRootLimb_126 w_218 ?_
  refine v_ldiv hC hf dX2_takeRootLimb_129 (fun l22 hf => ?_)
  refine v_l2i hC dX2_takeRootLimb_130 ?_
  refine v_stI hC hf dX2_takeRootLimb_131 (fun σ23 hf => ?_)
  refine v_iload hC 3 dX2_takeRootLimb_132 rfl ?_
  exact v_retI hC hf hE dX2_takeRootLimb_134
def E_X2_takeRoot_L157 (K : Cq) (a0 : Nat) (a1 : Nat) (i3 : Int32) (y : Unit) (σ : St) (kr sr : Nat) : Prop := V K kr sr σ 246 [(0, .ref a0), (1, .ref a1), (3, .int i3)] []
set_option maxHeartbeats 4000000 in
set_option maxRecDepth 100000 in
theorem v_X2_takeRoot_L157 {K : Cq} {k0 s0 : Nat} (hC : Cx K prog_4_method_29_code "TensMill$Natural") (hR : kR K = rmF 3 88 k0 s0) (hN : kn K = 12) {ko so : Nat} : ∀ (n : Nat) (σ : St) (a0 : Nat) (a1 : Nat) (a2 : Nat) (i3 : Int32) (i10 : Int32) (y : Unit) (σf : St) (kr sr : Nat), f_X2_takeRoot_L157 n σ a0 a1 a2 i3 i10 = some (y, σf, kr, sr) → E_X2_takeRoot_L157 K a0 a1 i3 y σf ko so → V K (kr + ko) (sr + so) σ 157 [(0, .ref a0), (1, .ref a1), (2, .ref a2), (3, .int i3), (10, .int i10)] [] := by
  intro n
  induction n with
  | zero =>
    intro σ a0 a1 a2 i3 i10 y σf kr sr hf hE
    cases hf
  | succ n ih =>
    intro σ a0 a1 a2 i3 i10 y σf kr sr hf hE
    replace hf : b_X2_takeRoot_L157 (f_X2_takeRoot_L157 n) σ a0 a1 a2 i3 i10 = some (y, σf, kr, sr) := hf
    unfold b_X2_takeRoot_L157 at hf
    refine v_iload hC 4 dX2_takeRoot_157 rfl ?_
    refine v_if_lt hC hf dX2_takeRoot_159 (tgt := 246) (by decide) (fun hf => ?_) (fun hf => ?_)
    · obtain ⟨hX, e1, e2⟩ := v_exE (E := E_X2_takeRoot_L157 K a0 a1 i3) hf hE
      rw [e1, e2]
      exact v_sub [(0, .ref a0), (1, .ref a1), (3, .int i3)] [0, 1, 3] rfl hX
    · refine v_at 162 rfl ?_
      refine v_aload_n hC 0 dX2_takeRoot_162 rfl ?_
      refine v_aload_n hC 2 dX2_takeRoot_163 rfl ?_
      refine v_getR hC (host := "") hf fd_2_0 w_85 dX2_takeRoot_164 (fun r30 hf => ?_)
      refine v_iload_n hC 3 dX2_takeRoot_167 rfl ?_
      refine v_iload hC 4 dX2_takeRoot_168 rfl ?_
      refine v_aload_n hC 0 dX2_takeRoot_170 rfl ?_
      refine v_aload_n hC 2 dX2_takeRoot_171 rfl ?_
      refine v_getR hC (host := "") hf fd_2_0 w_85 dX2_takeRoot_172 (fun r31 hf => ?_)
      refine v_at 175 rfl ?_
      refine v_iload_n hC 3 dX2_takeRoot_175 rfl ?_
      refine v_iload hC 4 dX2_takeRoot_176 rfl ?_
      refine v_cVP hC (y := y_X2_guessRootLimb) (ci := 2) [.ref r31, .int i3, .int i10] [.int i10, .int i3, .ref r30, .ref a0] (fun r => some (.int r)) (fun r => .int r :: [.int i10, .int i3, .ref r30, .ref a0]) hf (fun _ h => m_X2_guessRootLimb h) rfl (fun _ => rfl) rfl rfl hR (Nat.le_of_ble_eq_true rfl) (Nat.le_of_ble_eq_true rfl) w_488 w_485 w_487 w_19 w_59 nm_X2_guessRootLimb rfl (Nat.le_of_ble_eq_true rfl) dX2_takeRoot_178 (fun x32 hf => ?_)
      refine v_cVE hC (y := y_X2_takeRootLimb) (ci := 2) [.ref r30, .int i3, .int i10, .int x32] [] (fun r => some (.int r)) (fun r => .int r :: []) hf (fun _ _ _ _ h => m_X2_takeRootLimb h) rfl (fun _ => rfl) rfl rfl hR (Nat.le_of_ble_eq_true rfl) (Nat.le_of_ble_eq_true rfl) w_492 w_489 w_491 w_20 w_59 nm_X2_takeRootLimb rfl (Nat.le_of_ble_eq_true rfl) dX2_takeRoot_181 (fun x33 σ34 _ _ hf => ?_)
      refine v_istore hC [(11, .int x33), (0, .ref a0), (1, .ref a1), (2, .ref a2), (3, .int i3), (10, .int i10)] dX2_takeRoot_184 hN (Nat.le_of_ble_eq_true rfl) rfl ?_
      refine v_aload_n hC 2 dX2_takeRoot_186 rfl ?_
      refine v_getR hC (host := "") hf fd_2_0 w_85 dX2_takeRoot_187 (fun r35 hf => ?_)
      refine v_iload hC 5 dX2_takeRoot_190 rfl ?_
      refine v_at 192 rfl ?_
      refine v_iload hC 0 dX2_takeRoot_192 rfl ?_
      refine v_stI hC hf dX2_takeRoot_194 (fun σ36 hf => ?_)
      refine v_aload_n hC 3 dX2_takeRoot_195 rfl ?_
      refine v_getR hC (host := "") hf fd_2_0 w_85 dX2_takeRoot_196 (fun r37 hf => ?_)
      refine v_iload hC 5 dX2_takeRoot_199 rfl ?_
      refine v_iconst (v := 2) hC dX2_takeRoot_201 (by decide) ?_
      refine v_iload hC 0 dX2_takeRoot_202 rfl ?_
      refine v_imul hC dX2_takeRoot_204 ?_
      refine v_at 205 rfl ?_
      refine v_stI hC hf dX2_takeRoot_205 (fun σ38 hf => ?_)
      refine v_iconst (v := 2) hC dX2_takeRoot_206 (by decide) ?_
      refine v_iload hC 0 dX2_takeRoot_207 rfl ?_
      refine v_imul hC dX2_takeRoot_209 ?_
      refine v_ldc hC dX2_takeRoot_210 w_312 ?_
      refine v_jnE hf (fun z39 kr sr => V K (kr + ko) (sr + so) z39 240 [(0, .ref a0), (1, .ref a1), (2, .ref a2), (3, .int i3), (10, .int i10)] []) (fun z39 _ _ hf => ?_) (fun k39 hk39 hf => ?_)
      · refine v_incL hC hf 4 (fun x40 => [(10, .int x40), (0, .ref a0), (1, .ref a1), (2, .ref a2), (3, .int i3)]) dX2_takeRoot_240 rfl (by decide) hN (Nat.le_of_ble_eq_true rfl) (fun _ => rfl) (fun x40 hf => ?_)
        refine v_goto (tgt := 157) hC dX2_takeRoot_243 (by decide) ?_
        exact v_sub [(0, .ref a0), (1, .ref a1), (2, .ref a2), (3, .int i3), (10, .int x40)] [1, 2, 3, 4, 0] rfl (ih _ _ _ _ _ _ _ _ _ _ hf hE)
      · refine v_icmp_lt hC hf dX2_takeRoot_212 (tgt := 240) (by decide) (fun hf => ?_) (fun hf => ?_)
        · exact v_sub [(0, .ref a0), (1, .ref a1), (2, .ref a2), (3, .int i3), (10, .int i10)] [1, 2, 3, 4, 5] rfl (hk39 _ _ _ hf)
        · refine v_at 215 rfl ?_
          refine v_aload_n hC 3 dX2_takeRoot_215 rfl ?_
          refine v_getR hC (host := "") hf fd_2_0 w_85 dX2_takeRoot_216 (fun r41 hf => ?_)
          refine v_iload hC 5 dX2_takeRoot_219 rfl ?_
          refine v_dup2 hC dX2_takeRoot_221 rfl rfl ?_
          refine v_ldI hC hf dX2_takeRoot_222 (fun x42 hf => ?_)
          refine v_ldc hC dX2_takeRoot_223 w_312 ?_
          refine v_isub hC dX2_takeRoot_225 ?_
          refine v_stI hC hf dX2_takeRoot_226 (fun σ43 hf => ?_)
          refine v_at 227 rfl ?_
          refine v_aload_n hC 3 dX2_takeRoot_227 rfl ?_
          refine v_getR hC (host := "") hf fd_2_0 w_85 dX2_takeRoot_228 (fun r44 hf => ?_)
          refine v_iload hC 5 dX2_takeRoot_231 rfl ?_
          refine v_iconst (v := 1) hC dX2_takeRoot_233 (by decide) ?_
          refine v_iadd hC dX2_takeRoot_234 ?_
          refine v_dup2 hC dX2_takeRoot_235 rfl rfl ?_
          refine v_ldI hC hf dX2_takeRoot_236 (fun x45 hf => ?_)
          refine v_iconst (v := 1) hC dX2_takeRoot_237 (by decide) ?_
          refine v_at 238 rfl ?_
          refine v_iadd hC dX2_takeRoot_238 ?_
          refine v_stI hC hf dX2_takeRoot_239 (fun σ46 hf => ?_)
          refine v_at 240 rfl ?_
          exact v_sub [(0, .ref a0), (1, .ref a1), (2, .ref a2), (3, .int i3), (10, .int i10)] [1, 2, 3, 4, 5] rfl (hk39 _ _ _ hf)
set_option maxHeartbeats 4000000 in
set_option maxRecDepth 100000 in
theorem m_X2_takeRoot {G : Gm} {l : Launch} {σ : St} {a0 : Nat} {a1 : Nat} {a2 : Nat} {r : Unit} {σf : St} {k s : Nat} (hf : f_X2_takeRoot σ a0 a1 a2 = some (r, σf, k, s)) : (∃ fs : List Value, σ.1 a0 = some (.inr (.inl (2, fs)))) ∧ Ct G l y_X2_takeRoot prog_4_method_29_code 12 none 3 88 [.ref a0, .ref a1, .ref a2] σ none σf k s := by
  unfold f_X2_takeRoot at hf
  obtain ⟨hob, hf⟩ := ob_some hf
  refine ⟨hob, Ct.ofV pl_X2_takeRoot (Nat.le_of_ble_eq_true rfl) ?_⟩
  intro K hR hN hnm hC hE
  show V K (k + 0) (s + 0) σ 0 [(0, .ref a0), (1, .ref a1), (2, .ref a2)] []
  refine v_aload_n hC 1 dX2_takeRoot_0 rfl ?_
  refine v_iconst (v := 0) hC dX2_takeRoot_1 (by decide) ?_
  refine v_put hC hf fd_2_1 w_86 rfl rfl dX2_takeRoot_2 (fun σ1 hf => ?_)
  refine v_aload_n hC 0 dX2_takeRoot_5 rfl ?_
  refine v_getI hC (host := "") hf fd_2_1 w_86 dX2_takeRoot_6 (fun x2 hf => ?_)
  refine v_iconst (v := 2) hC dX2_takeRoot_9 (by decide) ?_
  refine v_idiv hC hf dX2_takeRoot_10 (fun x3 hf => ?_)
  refine v_istore_n hC [(3, .int x3), (0, .ref a0), (1, .ref a1), (2, .ref a2)] dX2_takeRoot_11 rfl hN (Nat.le_of_ble_eq_true rfl) rfl ?_
  refine v_at 12 rfl ?_
  refine v_iload_n hC 0 dX2_takeRoot_12 rfl ?_
  refine v_if_eq hC hf dX2_takeRoot_13 (tgt := 26) (by decide) (fun hf => ?_) (fun hf => ?_)
  · exact v_retV hC hf hE dX2_takeRoot_26
  · refine v_at 16 rfl ?_
    refine v_aload_n hC 1 dX2_takeRoot_16 rfl ?_
    refine v_getI hC (host := "") hf fd_2_1 w_86 dX2_takeRoot_17 (fun x4 hf => ?_)
    refine v_iconst (v := 2) hC dX2_takeRoot_20 (by decide) ?_
    refine v_iload_n hC 0 dX2_takeRoot_21 rfl ?_
    refine v_imul hC dX2_takeRoot_22 ?_
    refine v_icmp_eq hC hf dX2_takeRoot_23 (tgt := 27) (by decide) (fun hf => ?_) (fun hf => ?_)
    · refine v_aload_n hC 2 dX2_takeRoot_27 rfl ?_
      refine v_iload_n hC 0 dX2_takeRoot_28 rfl ?_
      refine v_cVE hC (y := y_X2_makeRoom) (ci := 2) [.int x3] [] (fun _ => none) (fun _ => []) hf (fun _ _ _ _ h => m_X2_makeRoom h) rfl (fun _ => rfl) rfl rfl hR (Nat.le_of_ble_eq_true rfl) (Nat.le_of_ble_eq_true rfl) w_249 w_246 w_248 w_1 w_59 nm_X2_makeRoom rfl (Nat.le_of_ble_eq_true rfl) dX2_takeRoot_29 (fun _ σ5 _ _ hf => ?_)
      refine v_aload_n hC 3 dX2_takeRoot_32 rfl ?_
      refine v_iload_n hC 0 dX2_takeRoot_33 rfl ?_
      refine v_cVE hC (y := y_X2_makeRoom) (ci := 2) [.int x3] [] (fun _ => none) (fun _ => []) hf (fun _ _ _ _ h => m_X2_makeRoom h) rfl (fun _ => rfl) rfl rfl hR (Nat.le_of_ble_eq_true rfl) (Nat.le_of_ble_eq_true rfl) w_249 w_246 w_248 w_1 w_59 nm_X2_makeRoom rfl (Nat.le_of_ble_eq_true rfl) dX2_takeRoot_34 (fun _ σ6 _ _ hf => ?_)
      refine v_aload_n hC 3 dX2_takeRoot_37 rfl ?_
      refine v_iconst (v := 0) hC dX2_takeRoot_38 (by decide) ?_
      refine v_at 39 rfl ?_
      refine v_put hC hf fd_2_1 w_86 rfl rfl dX2_takeRoot_39 (fun σ7 hf => ?_)
      refine v_aload_n hC 1 dX2_takeRoot_42 rfl ?_
      refine v_getR hC (host := "") hf fd_2_0 w_85 dX2_takeRoot_43 (fun r8 hf => ?_)
      refine v_aload_n hC 1 dX2_takeRoot_46 rfl ?_
      refine v_getI hC (host := "") hf fd_2_1 w_86 dX2_takeRoot_47 (fun x9 hf => ?_)
      refine v_iconst (v := 1) hC dX2_takeRoot_50 (by decide) ?_
      refine v_isub hC dX2_takeRoot_51 ?_
      refine v_ldI hC hf dX2_takeRoot_52 (fun x10 hf => ?_)
      refine v_at 53 rfl ?_
      refine v_i2l hC dX2_takeRoot_53 ?_
      refine v_ldc2 hC dX2_takeRoot_54 w_218 ?_
      refine v_lmul hC dX2_takeRoot_57 ?_
      refine v_aload_n hC 1 dX2_takeRoot_58 rfl ?_
      refine v_getR hC (host := "") hf fd_2_0 w_85 dX2_takeRoot_59 (fun r11 hf => ?_)
      refine v_aload_n hC 1 dX2_takeRoot_62 rfl ?_
      refine v_getI hC (host := "") hf fd_2_1 w_86 dX2_takeRoot_63 (fun x12 hf => ?_)
      refine v_iconst (v := 2) hC dX2_takeRoot_66 (by decide) ?_
      refine v_at 67 rfl ?_
      refine v_isub hC dX2_takeRoot_67 ?_
      refine v_ldI hC hf dX2_takeRoot_68 (fun x13 hf => ?_)
      refine v_i2l hC dX2_takeRoot_69 ?_
      refine v_ladd hC dX2_takeRoot_70 ?_
      refine v_ltL hf (fun l14 hf => ?_)
      refine v_lstore hC [(4, .long l14), (3, .int x3), (0, .ref a0), (1, .ref a1), (2, .ref a2)] dX2_takeRoot_71 hN (Nat.le_of_ble_eq_true rfl) rfl ?_
      refine v_lload hC 0 dX2_takeRoot_73 rfl ?_
      refine v_cSP hC (y := y_X2_rootOf) [.long l14] [] (fun r => some (.long r)) (fun r => .long r :: []) hf (fun _ h => m_X2_rootOf h) rfl (fun _ => rfl) hR (Nat.le_of_ble_eq_true rfl) (Nat.le_of_ble_eq_true rfl) w_483 w_481 w_482 w_59 nm_X2_rootOf rfl (Nat.le_of_ble_eq_true rfl) dX2_takeRoot_75 (fun l15 hf => ?_)
      refine v_lstore hC [(6, .long l15), (4, .long l14), (3, .int x3), (0, .ref a0), (1, .ref a1), (2, .ref a2)] dX2_takeRoot_78 hN (Nat.le_of_ble_eq_true rfl) rfl ?_
      refine v_at 80 rfl ?_
      refine v_lload hC 1 dX2_takeRoot_80 rfl ?_
      refine v_lload hC 0 dX2_takeRoot_82 rfl ?_
      refine v_lload hC 0 dX2_takeRoot_84 rfl ?_
      refine v_lmul hC dX2_takeRoot_86 ?_
      refine v_lsub hC dX2_takeRoot_87 ?_
      refine v_ltL hf (fun l16 hf => ?_)
      refine v_lstore hC [(8, .long l16), (6, .long l15), (4, .long l14), (3, .int x3), (0, .ref a0), (1, .ref a1), (2, .ref a2)] dX2_takeRoot_88 hN (Nat.le_of_ble_eq_true rfl) rfl ?_
      refine v_aload_n hC 4 dX2_takeRoot_90 rfl ?_
      refine v_getR hC (host := "") hf fd_2_0 w_85 dX2_takeRoot_91 (fun r17 hf => ?_)
      refine v_at 94 rfl ?_
      refine v_aload_n hC 4 dX2_takeRoot_94 rfl ?_
      refine v_getI hC (host := "") hf fd_2_1 w_86 dX2_takeRoot_95 (fun x18 hf => ?_)
      refine v_iconst (v := 1) hC dX2_takeRoot_98 (by decide) ?_
      refine v_isub hC dX2_takeRoot_99 ?_
      refine v_lload hC 0 dX2_takeRoot_100 rfl ?_
      refine v_ldc2 hC dX2_takeRoot_102 w_218 ?_
      refine v_ldiv hC hf dX2_takeRoot_105 (fun l19 hf => ?_)
      refine v_l2i hC dX2_takeRoot_106 ?_
      refine v_at 107 rfl ?_
      refine v_stI hC hf dX2_takeRoot_107 (fun σ20 hf => ?_)
      refine v_aload_n hC 4 dX2_takeRoot_108 rfl ?_
      refine v_getR hC (host := "") hf fd_2_0 w_85 dX2_takeRoot_109 (fun r21 hf => ?_)
      refine v_aload_n hC 4 dX2_takeRoot_112 rfl ?_
      refine v_getI hC (host := "") hf fd_2_1 w_86 dX2_takeRoot_113 (fun x22 hf => ?_)
      refine v_iconst (v := 2) hC dX2_takeRoot_116 (by decide) ?_
      refine v_isub hC dX2_takeRoot_117 ?_
      refine v_lload hC 0 dX2_takeRoot_118 rfl ?_
      refine v_at 120 rfl ?_
      refine v_ldc2 hC dX2_takeRoot_120 w_218 ?_
      refine v_lrem hC hf dX2_takeRoot_123 (fun l23 hf => ?_)
      refine v_l2i hC dX2_takeRoot_124 ?_
      refine v_stI hC hf dX2_takeRoot_125 (fun σ24 hf => ?_)
      refine v_aload_n hC 5 dX2_takeRoot_126 rfl ?_
      refine v_getR hC (host := "") hf fd_2_0 w_85 dX2_takeRoot_127 (fun r25 hf => ?_)
      refine v_iload_n hC 3 dX2_takeRoot_130 rfl ?_
      refine v_iconst (v := 1) hC dX2_takeRoot_131 (by decide) ?_
      refine v_at 132 rfl ?_
      refine v_isub hC dX2_takeRoot_132 ?_
      refine v_lload hC 1 dX2_takeRoot_133 rfl ?_
      refine v_l2i hC dX2_takeRoot_135 ?_
      refine v_stI hC hf dX2_takeRoot_136 (fun σ26 hf => ?_)
      refine v_aload_n hC 6 dX2_takeRoot_137 rfl ?_
      refine v_getR hC (host := "") hf fd_2_0 w_85 dX2_takeRoot_138 (fun r27 hf => ?_)
      refine v_iload_n hC 3 dX2_takeRoot_141 rfl ?_
      refine v_iconst (v := 1) hC dX2_takeRoot_142 (by decide) ?_
      refine v_at 143 rfl ?_
      refine v_isub hC dX2_takeRoot_143 ?_
      refine v_ldc2 hC dX2_takeRoot_144 w_484 ?_
      refine v_lload hC 1 dX2_takeRoot_147 rfl ?_
      refine v_lmul hC dX2_takeRoot_149 ?_
      refine v_l2i hC dX2_takeRoot_150 ?_
      refine v_stI hC hf dX2_takeRoot_151 (fun σ28 hf => ?_)
      refine v_iload_n hC 3 dX2_takeRoot_152 rfl ?_
      refine v_iconst (v := 2) hC dX2_takeRoot_153 (by decide) ?_
      refine v_at 154 rfl ?_
      refine v_isub hC dX2_takeRoot_154 ?_
      refine v_ltI hf (fun x29 hf => ?_)
      refine v_istore hC [(10, .int x29), (8, .long l16), (6, .long l15), (4, .long l14), (3, .int x3), (0, .ref a0), (1, .ref a1), (2, .ref a2)] dX2_takeRoot_155 hN (Nat.le_of_ble_eq_true rfl) rfl ?_
      refine v_at 157 rfl ?_
      refine v_sub [(0, .ref a0), (1, .ref a1), (2, .ref a2), (3, .int x3), (10, .int x29)] [5, 6, 7, 4, 0] rfl ?_
      refine v_lpE hf (E_X2_takeRoot_L157 K a0 a1 x3) (fun _ _ _ _ _ _ h hE => v_X2_takeRoot_L157 hC hR hN _ _ _ _ _ _ _ _ _ _ _ h hE) (fun y47 σ48 _ _ hf => ?_)
      show V K _ _ σ48 246 [(0, .ref a0), (1, .ref a1), (3, .int x3)] []
      refine v_aload_n hC 1 dX2_takeRoot_246 rfl ?_
      refine v_iload_n hC 2 dX2_takeRoot_247 rfl ?_
      refine v_put hC hf fd_2_1 w_86 rfl rfl dX2_takeRoot_248 (fun σ49 hf => ?_)
      refine v_aload_n hC 1 dX2_takeRoot_251 rfl ?_
      refine v_cVE hC (y := y_X2_trim) (ci := 2) [] [] (fun _ => none) (fun _ => []) hf (fun _ _ _ _ h => m_X2_trim h) rfl (fun _ => rfl) rfl rfl hR (Nat.le_of_ble_eq_true rfl) (Nat.le_of_ble_eq_true rfl) w_307 w_304 w_306 w_4 w_59 nm_X2_trim rfl (Nat.le_of_ble_eq_true rfl) dX2_takeRoot_252 (fun _ σ50 _ _ hf => ?_)
      refine v_aload_n hC 0 dX2_takeRoot_255 rfl ?_
      refine v_cVE hC (y := y_X2_trim) (ci := 2) [] [] (fun _ => none) (fun _ => []) hf (fun _ _ _ _ h => m_X2_trim h) rfl (fun _ => rfl) rfl rfl hR (Nat.le_of_ble_eq_true rfl) (Nat.le_of_ble_eq_true rfl) w_307 w_304 w_306 w_4 w_59 nm_X2_trim rfl (Nat.le_of_ble_eq_true rfl) dX2_takeRoot_256 (fun _ σ51 _ _ hf => ?_)
      exact v_retV hC hf hE dX2_takeRoot_259
    · refine v_at 26 rfl ?_
      exact v_retV hC hf hE dX2_takeRoot_26
set_option maxHeartbeats 4000000 in
set_option maxRecDepth 100000 in
theorem m_X3_init {G : Gm} {l : Launch} {σ : St} {a0 : Nat} {r : Unit} {σf : St} {k s : Nat} (hf : f_X3_init σ a0 = some (r, σf, k, s)) : Ct G l y_X3_init prog_5_method_1_code 1 none 1 20 [.ref a0] σ none σf k s := by
  unfold f_X3_init at hf
  refine Ct.ofV pl_X3_init (Nat.le_of_ble_eq_true rfl) ?_
  intro K hR hN hnm hC hE
  show V K (k + 0) (s + 0) σ 0 [(0, .ref a0)] []
  refine v_aload_n hC 0 dX3_init_0 rfl ?_
  refine v_oinit hC hR (Nat.le_of_ble_eq_true rfl) (Nat.le_of_ble_eq_true rfl) w_115 w_75 w_76 (Nat.le_of_ble_eq_true rfl) dX3_init_1 ?_
  exact v_retV hC hf hE dX3_init_4
set_option maxHeartbeats 4000000 in
set_option maxRecDepth 100000 in
theorem m_X4_hasSignAt {G : Gm} {l : Launch} {σ : St} {a0 : Nat} {i1 : Int32} {r : Int32} (hf : f_X4_hasSignAt σ a0 i1 = some r) : (∃ fs : List Value, σ.1 a0 = some (.inr (.inl (4, fs)))) ∧ Ct G l y_X4_hasSignAt prog_6_method_5_code 3 (some .boolean) 1 21 [.ref a0, .int i1] σ (some (.int r)) σ 0 0 := by
  unfold f_X4_hasSignAt at hf
  obtain ⟨hob, hf⟩ := ob_some hf
  refine ⟨hob, Ct.ofV pl_X4_hasSignAt (Nat.le_of_ble_eq_true rfl) ?_⟩
  intro K hR hN hnm hC hE
  show V K 0 0 σ 0 [(0, .ref a0), (1, .int i1)] []
  refine v_aload_n hC 0 dX4_hasSignAt_0 rfl ?_
  refine v_iload_n hC 1 dX4_hasSignAt_1 rfl ?_
  refine v_cVP hC (y := y_X4_codeAt) (ci := 4) [.int i1] [] (fun r => some (.int r)) (fun r => .int r :: []) hf (fun _ h => m_X4_codeAt h) rfl (fun _ => rfl) rfl rfl hR (Nat.le_of_ble_eq_true rfl) (Nat.le_of_ble_eq_true rfl) w_572 w_577 w_570 w_571 w_60 nm_X4_codeAt rfl (Nat.le_of_ble_eq_true rfl) dX4_hasSignAt_2 (fun x1 hf => ?_)
  refine v_istore_n hC [(2, .int x1), (0, .ref a0), (1, .int i1)] dX4_hasSignAt_5 rfl hN (Nat.le_of_ble_eq_true rfl) rfl ?_
  refine v_iload_n hC 0 dX4_hasSignAt_6 rfl ?_
  refine v_bipush (v := 43) hC dX4_hasSignAt_7 (by decide) ?_
  refine v_icmp_eq hC hf dX4_hasSignAt_9 (tgt := 18) (by decide) (fun hf => ?_) (fun hf => ?_)
  · refine v_iconst (v := 1) hC dX4_hasSignAt_18 (by decide) ?_
    refine v_goto (tgt := 23) hC dX4_hasSignAt_19 (by decide) ?_
    exact v_retZP hC hf hE dX4_hasSignAt_23
  · refine v_at 12 rfl ?_
    refine v_iload_n hC 0 dX4_hasSignAt_12 rfl ?_
    refine v_bipush (v := 45) hC dX4_hasSignAt_13 (by decide) ?_
    refine v_icmp_ne hC hf dX4_hasSignAt_15 (tgt := 22) (by decide) (fun hf => ?_) (fun hf => ?_)
    · refine v_iconst (v := 0) hC dX4_hasSignAt_22 (by decide) ?_
      exact v_retZP hC hf hE dX4_hasSignAt_23
    · refine v_at 18 rfl ?_
      refine v_iconst (v := 1) hC dX4_hasSignAt_18 (by decide) ?_
      refine v_goto (tgt := 23) hC dX4_hasSignAt_19 (by decide) ?_
      exact v_retZP hC hf hE dX4_hasSignAt_23
set_option maxHeartbeats 4000000 in
set_option maxRecDepth 100000 in
theorem m_X4_hasDigitAt {G : Gm} {l : Launch} {σ : St} {a0 : Nat} {i1 : Int32} {r : Int32} (hf : f_X4_hasDigitAt σ a0 i1 = some r) : (∃ fs : List Value, σ.1 a0 = some (.inr (.inl (4, fs)))) ∧ Ct G l y_X4_hasDigitAt prog_6_method_6_code 3 (some .boolean) 1 21 [.ref a0, .int i1] σ (some (.int r)) σ 0 0 := by
  unfold f_X4_hasDigitAt at hf
  obtain ⟨hob, hf⟩ := ob_some hf
  refine ⟨hob, Ct.ofV pl_X4_hasDigitAt (Nat.le_of_ble_eq_true rfl) ?_⟩
  intro K hR hN hnm hC hE
  show V K 0 0 σ 0 [(0, .ref a0), (1, .int i1)] []
  refine v_aload_n hC 0 dX4_hasDigitAt_0 rfl ?_
  refine v_iload_n hC 1 dX4_hasDigitAt_1 rfl ?_
  refine v_cVP hC (y := y_X4_codeAt) (ci := 4) [.int i1] [] (fun r => some (.int r)) (fun r => .int r :: []) hf (fun _ h => m_X4_codeAt h) rfl (fun _ => rfl) rfl rfl hR (Nat.le_of_ble_eq_true rfl) (Nat.le_of_ble_eq_true rfl) w_572 w_577 w_570 w_571 w_60 nm_X4_codeAt rfl (Nat.le_of_ble_eq_true rfl) dX4_hasDigitAt_2 (fun x1 hf => ?_)
  refine v_istore_n hC [(2, .int x1), (0, .ref a0), (1, .int i1)] dX4_hasDigitAt_5 rfl hN (Nat.le_of_ble_eq_true rfl) rfl ?_
  refine v_iload_n hC 0 dX4_hasDigitAt_6 rfl ?_
  refine v_bipush (v := 48) hC dX4_hasDigitAt_7 (by decide) ?_
  refine v_icmp_lt hC hf dX4_hasDigitAt_9 (tgt := 22) (by decide) (fun hf => ?_) (fun hf => ?_)
  · refine v_iconst (v := 0) hC dX4_hasDigitAt_22 (by decide) ?_
    exact v_retZP hC hf hE dX4_hasDigitAt_23
  · refine v_at 12 rfl ?_
    refine v_iload_n hC 0 dX4_hasDigitAt_12 rfl ?_
    refine v_bipush (v := 57) hC dX4_hasDigitAt_13 (by decide) ?_
    refine v_icmp_gt hC hf dX4_hasDigitAt_15 (tgt := 22) (by decide) (fun hf => ?_) (fun hf => ?_)
    · refine v_iconst (v := 0) hC dX4_hasDigitAt_22 (by decide) ?_
      exact v_retZP hC hf hE dX4_hasDigitAt_23
    · refine v_at 18 rfl ?_
      refine v_iconst (v := 1) hC dX4_hasDigitAt_18 (by decide) ?_
      refine v_goto (tgt := 23) hC dX4_hasDigitAt_19 (by decide) ?_
      exact v_retZP hC hf hE dX4_hasDigitAt_23
def E_X3_findDigits_L23 (K : Cq)  (y : Int32) (σ : St) (kr sr : Nat) : Prop := V K kr sr σ 96 [(2, .int y)] []
set_option maxHeartbeats 4000000 in
set_option maxRecDepth 100000 in
theorem v_X3_findDigits_L23 {K : Cq} {k0 s0 : Nat} (hC : Cx K prog_5_method_3_code "TensMill$Numeral") (hR : kR K = rmF 2 43 k0 s0) (hN : kn K = 5) {ko so : Nat} : ∀ (n : Nat) (σ : St) (a0 : Nat) (a1 : Nat) (i2 : Int32) (i3 : Int32) (i4 : Int32) (y : Int32) (σf : St) (kr sr : Nat), f_X3_findDigits_L23 n σ a0 a1 i2 i3 i4 = some (y, σf, kr, sr) → E_X3_findDigits_L23 K  y σf ko so → V K (kr + ko) (sr + so) σ 23 [(0, .ref a0), (1, .ref a1), (2, .int i2), (3, .int i3), (4, .int i4)] [] := by
  intro n
  induction n with
  | zero =>
    intro σ a0 a1 i2 i3 i4 y σf kr sr hf hE
    cases hf
  | succ n ih =>
    intro σ a0 a1 i2 i3 i4 y σf kr sr hf hE
    replace hf : b_X3_findDigits_L23 (f_X3_findDigits_L23 n) σ a0 a1 i2 i3 i4 = some (y, σf, kr, sr) := hf
    unfold b_X3_findDigits_L23 at hf
    refine v_iload hC 4 dX3_findDigits_23 rfl ?_
    refine v_aload_n hC 1 dX3_findDigits_25 rfl ?_
    refine v_getIN hC hf fd_4_1 n_2 dX3_findDigits_26 (fun x5 hf => ?_)
    refine v_icmp_ge hC hf dX3_findDigits_29 (tgt := 96) (by decide) (fun hf => ?_) (fun hf => ?_)
    · obtain ⟨hX, e1, e2⟩ := v_exE (E := E_X3_findDigits_L23 K ) hf hE
      rw [e1, e2]
      exact v_sub [(2, .int i2)] [2] rfl hX
    · refine v_at 32 rfl ?_
      refine v_aload_n hC 1 dX3_findDigits_32 rfl ?_
      refine v_iload hC 4 dX3_findDigits_33 rfl ?_
      refine v_cVP hC (y := y_X4_hasDigitAt) (ci := 4) [.int i4] [] (fun r => some (.int r)) (fun r => .int r :: []) hf (fun _ h => m_X4_hasDigitAt h) rfl (fun _ => rfl) rfl rfl hR (Nat.le_of_ble_eq_true rfl) (Nat.le_of_ble_eq_true rfl) w_585 w_582 w_583 w_584 w_60 nm_X4_hasDigitAt rfl (Nat.le_of_ble_eq_true rfl) dX3_findDigits_35 (fun x6 hf => ?_)
      refine v_jnE hf (fun z7 kr sr => V K (kr + ko) (sr + so) z7.2.2 82 [(0, .ref a0), (1, .ref a1), (2, .int z7.1), (3, .int z7.2.1), (4, .int i4)] []) (fun z7 _ _ hf => ?_) (fun k7 hk7 hf => ?_)
      · refine v_aload_n hC 0 dX3_findDigits_82 rfl ?_
        refine v_iload hC 4 dX3_findDigits_83 rfl ?_
        refine v_iconst (v := 1) hC dX3_findDigits_85 (by decide) ?_
        refine v_iadd hC dX3_findDigits_86 ?_
        refine v_put hC hf fd_3_2 w_120 rfl rfl dX3_findDigits_87 (fun σ8 hf => ?_)
        refine v_incL hC hf 4 (fun x9 => [(4, .int x9), (0, .ref a0), (1, .ref a1), (2, .int z7.1), (3, .int z7.2.1)]) dX3_findDigits_90 rfl (by decide) hN (Nat.le_of_ble_eq_true rfl) (fun _ => rfl) (fun x9 hf => ?_)
        refine v_goto (tgt := 23) hC dX3_findDigits_93 (by decide) ?_
        exact v_sub [(0, .ref a0), (1, .ref a1), (2, .int z7.1), (3, .int z7.2.1), (4, .int x9)] [1, 2, 3, 4, 0] rfl (ih _ _ _ _ _ _ _ _ _ _ hf hE)
      · refine v_if_eq hC hf dX3_findDigits_38 (tgt := 65) (by decide) (fun hf => ?_) (fun hf => ?_)
        · refine v_aload_n hC 1 dX3_findDigits_65 rfl ?_
          refine v_iload hC 4 dX3_findDigits_66 rfl ?_
          refine v_cVP hC (y := y_X4_codeAt) (ci := 4) [.int i4] [] (fun r => some (.int r)) (fun r => .int r :: []) hf (fun _ h => m_X4_codeAt h) rfl (fun _ => rfl) rfl rfl hR (Nat.le_of_ble_eq_true rfl) (Nat.le_of_ble_eq_true rfl) w_572 w_569 w_570 w_571 w_60 nm_X4_codeAt rfl (Nat.le_of_ble_eq_true rfl) dX3_findDigits_68 (fun x10 hf => ?_)
          refine v_bipush (v := 46) hC dX3_findDigits_71 (by decide) ?_
          refine v_icmp_ne hC hf dX3_findDigits_73 (tgt := 96) (by decide) (fun hf => ?_) (fun hf => ?_)
          · obtain ⟨hX, e1, e2⟩ := v_exE (E := E_X3_findDigits_L23 K ) hf hE
            rw [e1, e2]
            exact v_sub [(2, .int i2)] [2] rfl hX
          · refine v_at 76 rfl ?_
            refine v_iload_n hC 3 dX3_findDigits_76 rfl ?_
            refine v_if_ne hC hf dX3_findDigits_77 (tgt := 96) (by decide) (fun hf => ?_) (fun hf => ?_)
            · obtain ⟨hX, e1, e2⟩ := v_exE (E := E_X3_findDigits_L23 K ) hf hE
              rw [e1, e2]
              exact v_sub [(2, .int i2)] [2] rfl hX
            · refine v_at 80 rfl ?_
              refine v_iconst (v := 1) hC dX3_findDigits_80 (by decide) ?_
              refine v_istore_n hC [(3, .int 1), (0, .ref a0), (1, .ref a1), (2, .int i2), (4, .int i4)] dX3_findDigits_81 rfl hN (Nat.le_of_ble_eq_true rfl) rfl ?_
              refine v_at 82 rfl ?_
              exact v_sub [(0, .ref a0), (1, .ref a1), (2, .int i2), (3, .int 1), (4, .int i4)] [1, 2, 3, 0, 4] rfl (hk7 _ _ _ hf)
        · refine v_at 41 rfl ?_
          refine v_incL hC hf 2 (fun x11 => [(2, .int x11), (0, .ref a0), (1, .ref a1), (3, .int i3), (4, .int i4)]) dX3_findDigits_41 rfl (by decide) hN (Nat.le_of_ble_eq_true rfl) (fun _ => rfl) (fun x11 hf => ?_)
          refine v_aload_n hC 1 dX3_findDigits_44 rfl ?_
          refine v_dup hC dX3_findDigits_45 rfl ?_
          refine v_getI hC (host := "") hf fd_3_3 w_122 dX3_findDigits_46 (fun x12 hf => ?_)
          refine v_iload_n hC 3 dX3_findDigits_49 rfl ?_
          refine v_jnE hf (fun z13 kr sr => V K (kr + ko) (sr + so) σ 58 [(0, .ref a0), (1, .ref a1), (2, .int x11), (3, .int i3), (4, .int i4)] [.int z13, .int x12, .ref a0]) (fun z13 _ _ hf => ?_) (fun k13 hk13 hf => ?_)
          · refine v_iadd hC dX3_findDigits_58 ?_
            refine v_put hC hf fd_3_3 w_122 rfl rfl dX3_findDigits_59 (fun σ14 hf => ?_)
            refine v_goto (tgt := 82) hC dX3_findDigits_62 (by decide) ?_
            exact v_sub [(0, .ref a0), (1, .ref a1), (2, .int x11), (3, .int i3), (4, .int i4)] [0, 1, 2, 3, 4] rfl (hk7 _ _ _ hf)
          · refine v_if_eq hC hf dX3_findDigits_50 (tgt := 57) (by decide) (fun hf => ?_) (fun hf => ?_)
            · refine v_iconst (v := 0) hC dX3_findDigits_57 (by decide) ?_
              refine v_at 58 rfl ?_
              exact v_sub [(0, .ref a0), (1, .ref a1), (2, .int x11), (3, .int i3), (4, .int i4)] [1, 2, 0, 3, 4] rfl (hk13 _ _ _ hf)
            · refine v_at 53 rfl ?_
              refine v_iconst (v := 1) hC dX3_findDigits_53 (by decide) ?_
              refine v_goto (tgt := 58) hC dX3_findDigits_54 (by decide) ?_
              exact v_sub [(0, .ref a0), (1, .ref a1), (2, .int x11), (3, .int i3), (4, .int i4)] [1, 2, 0, 3, 4] rfl (hk13 _ _ _ hf)
set_option maxHeartbeats 4000000 in
set_option maxRecDepth 100000 in
theorem m_X3_findDigits {G : Gm} {l : Launch} {σ : St} {a0 : Nat} {a1 : Nat} {r : Int32} {σf : St} {k s : Nat} (hf : f_X3_findDigits σ a0 a1 = some (r, σf, k, s)) : (∃ fs : List Value, σ.1 a0 = some (.inr (.inl (3, fs)))) ∧ Ct G l y_X3_findDigits prog_5_method_3_code 5 (some .boolean) 2 43 [.ref a0, .ref a1] σ (some (.int r)) σf k s := by
  unfold f_X3_findDigits at hf
  obtain ⟨hob, hf⟩ := ob_some hf
  refine ⟨hob, Ct.ofV pl_X3_findDigits (Nat.le_of_ble_eq_true rfl) ?_⟩
  intro K hR hN hnm hC hE
  show V K (k + 0) (s + 0) σ 0 [(0, .ref a0), (1, .ref a1)] []
  refine v_iconst (v := 0) hC dX3_findDigits_0 (by decide) ?_
  refine v_istore_n hC [(2, .int 0), (0, .ref a0), (1, .ref a1)] dX3_findDigits_1 rfl hN (Nat.le_of_ble_eq_true rfl) rfl ?_
  refine v_iconst (v := 0) hC dX3_findDigits_2 (by decide) ?_
  refine v_istore_n hC [(3, .int 0), (2, .int 0), (0, .ref a0), (1, .ref a1)] dX3_findDigits_3 rfl hN (Nat.le_of_ble_eq_true rfl) rfl ?_
  refine v_aload_n hC 2 dX3_findDigits_4 rfl ?_
  refine v_iconst (v := 0) hC dX3_findDigits_5 (by decide) ?_
  refine v_put hC hf fd_3_3 w_122 rfl rfl dX3_findDigits_6 (fun σ1 hf => ?_)
  refine v_aload_n hC 2 dX3_findDigits_9 rfl ?_
  refine v_at 10 rfl ?_
  refine v_aload_n hC 2 dX3_findDigits_10 rfl ?_
  refine v_getI hC (host := "") hf fd_3_1 w_118 dX3_findDigits_11 (fun x2 hf => ?_)
  refine v_put hC hf fd_3_2 w_120 rfl rfl dX3_findDigits_14 (fun σ3 hf => ?_)
  refine v_aload_n hC 2 dX3_findDigits_17 rfl ?_
  refine v_getI hC (host := "") hf fd_3_1 w_118 dX3_findDigits_18 (fun x4 hf => ?_)
  refine v_istore hC [(4, .int x4), (3, .int 0), (2, .int 0), (0, .ref a0), (1, .ref a1)] dX3_findDigits_21 hN (Nat.le_of_ble_eq_true rfl) rfl ?_
  refine v_at 23 rfl ?_
  refine v_sub [(0, .ref a0), (1, .ref a1), (2, .int 0), (3, .int 0), (4, .int x4)] [3, 4, 2, 1, 0] rfl ?_
  refine v_lpE hf (E_X3_findDigits_L23 K ) (fun _ _ _ _ _ _ h hE => v_X3_findDigits_L23 hC hR hN _ _ _ _ _ _ _ _ _ _ _ h hE) (fun y15 σ16 _ _ hf => ?_)
  show V K _ _ σ16 96 [(2, .int y15)] []
  refine v_iload_n hC 0 dX3_findDigits_96 rfl ?_
  refine v_if_le hC hf dX3_findDigits_97 (tgt := 104) (by decide) (fun hf => ?_) (fun hf => ?_)
  · refine v_iconst (v := 0) hC dX3_findDigits_104 (by decide) ?_
    exact v_retZ hC hf hE dX3_findDigits_105
  · refine v_at 100 rfl ?_
    refine v_iconst (v := 1) hC dX3_findDigits_100 (by decide) ?_
    refine v_goto (tgt := 105) hC dX3_findDigits_101 (by decide) ?_
    exact v_retZ hC hf hE dX3_findDigits_105
def E_X3_findExponent_L19 (K : Cq) (a0 : Nat) (a1 : Nat) (i2 : Int32) (i3 : Int32) (y : (Unit) ⊕ (Unit)) (σ : St) (kr sr : Nat) : Prop := match y with
  | .inl z => V K kr sr σ 37 [] []
  | .inr z => V K kr sr σ 75 [(0, .ref a0), (1, .ref a1), (2, .int i2), (3, .int i3)] []
set_option maxHeartbeats 4000000 in
set_option maxRecDepth 100000 in
theorem v_X3_findExponent_L19 {K : Cq} {k0 s0 : Nat} (hC : Cx K prog_5_method_4_code "TensMill$Numeral") (hR : kR K = rmF 2 43 k0 s0) (hN : kn K = 5) {ko so : Nat} : ∀ (n : Nat) (σ : St) (a0 : Nat) (a1 : Nat) (i2 : Int32) (i3 : Int32) (i4 : Int32) (y : (Unit) ⊕ (Unit)) (σf : St) (kr sr : Nat), f_X3_findExponent_L19 n σ a0 a1 i2 i3 i4 = some (y, σf, kr, sr) → E_X3_findExponent_L19 K a0 a1 i2 i3 y σf ko so → V K (kr + ko) (sr + so) σ 19 [(0, .ref a0), (1, .ref a1), (2, .int i2), (3, .int i3), (4, .int i4)] [] := by
  intro n
  induction n with
  | zero =>
    intro σ a0 a1 i2 i3 i4 y σf kr sr hf hE
    cases hf
  | succ n ih =>
    intro σ a0 a1 i2 i3 i4 y σf kr sr hf hE
    replace hf : b_X3_findExponent_L19 (f_X3_findExponent_L19 n) σ a0 a1 i2 i3 i4 = some (y, σf, kr, sr) := hf
    unfold b_X3_findExponent_L19 at hf
    refine v_iload hC 4 dX3_findExponent_19 rfl ?_
    refine v_aload_n hC 1 dX3_findExponent_21 rfl ?_
    refine v_getIN hC hf fd_4_1 n_2 dX3_findExponent_22 (fun x3 hf => ?_)
    refine v_icmp_ge hC hf dX3_findExponent_25 (tgt := 75) (by decide) (fun hf => ?_) (fun hf => ?_)
    · obtain ⟨hX, e1, e2⟩ := v_exE (E := E_X3_findExponent_L19 K a0 a1 i2 i3) hf hE
      rw [e1, e2]
      exact v_sub [(0, .ref a0), (1, .ref a1), (2, .int i2), (3, .int i3)] [0, 1, 2, 3] rfl hX
    · refine v_at 28 rfl ?_
      refine v_aload_n hC 1 dX3_findExponent_28 rfl ?_
      refine v_iload hC 4 dX3_findExponent_29 rfl ?_
      refine v_cVP hC (y := y_X4_hasDigitAt) (ci := 4) [.int i4] [] (fun r => some (.int r)) (fun r => .int r :: []) hf (fun _ h => m_X4_hasDigitAt h) rfl (fun _ => rfl) rfl rfl hR (Nat.le_of_ble_eq_true rfl) (Nat.le_of_ble_eq_true rfl) w_585 w_582 w_583 w_584 w_60 nm_X4_hasDigitAt rfl (Nat.le_of_ble_eq_true rfl) dX3_findExponent_31 (fun x4 hf => ?_)
      refine v_if_ne hC hf dX3_findExponent_34 (tgt := 39) (by decide) (fun hf => ?_) (fun hf => ?_)
      · refine v_aload_n hC 0 dX3_findExponent_39 rfl ?_
        refine v_aload_n hC 0 dX3_findExponent_40 rfl ?_
        refine v_getL hC (host := "") hf fd_3_4 w_124 dX3_findExponent_41 (fun l5 hf => ?_)
        refine v_ldc2 hC dX3_findExponent_44 w_590 ?_
        refine v_lmul hC dX3_findExponent_47 ?_
        refine v_aload_n hC 1 dX3_findExponent_48 rfl ?_
        refine v_iload hC 4 dX3_findExponent_49 rfl ?_
        refine v_cVP hC (y := y_X4_codeAt) (ci := 4) [.int i4] [.long (l5 * 10), .ref a0] (fun r => some (.int r)) (fun r => .int r :: [.long (l5 * 10), .ref a0]) hf (fun _ h => m_X4_codeAt h) rfl (fun _ => rfl) rfl rfl hR (Nat.le_of_ble_eq_true rfl) (Nat.le_of_ble_eq_true rfl) w_572 w_569 w_570 w_571 w_60 nm_X4_codeAt rfl (Nat.le_of_ble_eq_true rfl) dX3_findExponent_51 (fun x6 hf => ?_)
        refine v_at 54 rfl ?_
        refine v_i2l hC dX3_findExponent_54 ?_
        refine v_ladd hC dX3_findExponent_55 ?_
        refine v_ldc2 hC dX3_findExponent_56 w_591 ?_
        refine v_lsub hC dX3_findExponent_59 ?_
        refine v_ldc2 hC dX3_findExponent_60 w_592 ?_
        refine v_cSP hC (y := y_J9_min_f86c9) [.long (((l5 * 10) + ((x6 : Int32).toInt64)) - 48), .long 1000000000000] [.ref a0] (fun r => some (.long r)) (fun r => .long r :: [.ref a0]) hf (fun _ h => m_J9_min_f86c9 h) rfl (fun _ => rfl) hR (Nat.le_of_ble_eq_true rfl) (Nat.le_of_ble_eq_true rfl) w_389 w_593 w_388 w_65 nm_J9_min_f86c9 rfl (Nat.le_of_ble_eq_true rfl) dX3_findExponent_63 (fun l7 hf => ?_)
        refine v_put hC hf fd_3_4 w_124 rfl rfl dX3_findExponent_66 (fun σ8 hf => ?_)
        refine v_incL hC hf 4 (fun x9 => [(4, .int x9), (0, .ref a0), (1, .ref a1), (2, .int i2), (3, .int i3)]) dX3_findExponent_69 rfl (by decide) hN (Nat.le_of_ble_eq_true rfl) (fun _ => rfl) (fun x9 hf => ?_)
        refine v_at 72 rfl ?_
        refine v_goto (tgt := 19) hC dX3_findExponent_72 (by decide) ?_
        exact v_sub [(0, .ref a0), (1, .ref a1), (2, .int i2), (3, .int i3), (4, .int x9)] [1, 2, 3, 4, 0] rfl (ih _ _ _ _ _ _ _ _ _ _ hf hE)
      · refine v_at 37 rfl ?_
        obtain ⟨hX, e1, e2⟩ := v_exE (E := E_X3_findExponent_L19 K a0 a1 i2 i3) hf hE
        rw [e1, e2]
        exact v_sub [] [] rfl hX
set_option maxHeartbeats 4000000 in
set_option maxRecDepth 100000 in
theorem m_X3_findExponent {G : Gm} {l : Launch} {σ : St} {a0 : Nat} {a1 : Nat} {i2 : Int32} {r : Int32} {σf : St} {k s : Nat} (hf : f_X3_findExponent σ a0 a1 i2 = some (r, σf, k, s)) : (∃ fs : List Value, σ.1 a0 = some (.inr (.inl (3, fs)))) ∧ Ct G l y_X3_findExponent prog_5_method_4_code 5 (some .boolean) 2 43 [.ref a0, .ref a1, .int i2] σ (some (.int r)) σf k s := by
  unfold f_X3_findExponent at hf
  obtain ⟨hob, hf⟩ := ob_some hf
  refine ⟨hob, Ct.ofV pl_X3_findExponent (Nat.le_of_ble_eq_true rfl) ?_⟩
  intro K hR hN hnm hC hE
  show V K (k + 0) (s + 0) σ 0 [(0, .ref a0), (1, .ref a1), (2, .int i2)] []
  refine v_aload_n hC 1 dX3_findExponent_0 rfl ?_
  refine v_iload_n hC 2 dX3_findExponent_1 rfl ?_
  refine v_cVP hC (y := y_X4_hasSignAt) (ci := 4) [.int i2] [] (fun r => some (.int r)) (fun r => .int r :: []) hf (fun _ h => m_X4_hasSignAt h) rfl (fun _ => rfl) rfl rfl hR (Nat.le_of_ble_eq_true rfl) (Nat.le_of_ble_eq_true rfl) w_576 w_573 w_574 w_575 w_60 nm_X4_hasSignAt rfl (Nat.le_of_ble_eq_true rfl) dX3_findExponent_2 (fun x1 hf => ?_)
  refine v_jnE hf (fun z2 kr sr => V K (kr + 0) (sr + 0) σ 15 [(0, .ref a0), (1, .ref a1), (2, .int i2)] [.int z2]) (fun z2 _ _ hf => ?_) (fun k2 hk2 hf => ?_)
  · refine v_istore_n hC [(3, .int z2), (0, .ref a0), (1, .ref a1), (2, .int i2)] dX3_findExponent_15 rfl hN (Nat.le_of_ble_eq_true rfl) rfl ?_
    refine v_iload_n hC 0 dX3_findExponent_16 rfl ?_
    refine v_istore hC [(4, .int z2), (3, .int z2), (0, .ref a0), (1, .ref a1), (2, .int i2)] dX3_findExponent_17 hN (Nat.le_of_ble_eq_true rfl) rfl ?_
    refine v_at 19 rfl ?_
    refine v_sub [(0, .ref a0), (1, .ref a1), (2, .int i2), (3, .int z2), (4, .int z2)] [2, 3, 4, 1, 0] rfl ?_
    refine v_lpE hf (E_X3_findExponent_L19 K a0 a1 i2 z2) (fun _ _ _ _ _ _ h hE => v_X3_findExponent_L19 hC hR hN _ _ _ _ _ _ _ _ _ _ _ h hE) (fun y10 σ11 _ _ hf => ?_)
    rcases y10 with z12 | z13
    · show V K _ _ σ11 37 [] []
      refine v_iconst (v := 0) hC dX3_findExponent_37 (by decide) ?_
      exact v_retZ hC hf hE dX3_findExponent_38
    · show V K _ _ σ11 75 [(0, .ref a0), (1, .ref a1), (2, .int i2), (3, .int z2)] []
      refine v_aload_n hC 1 dX3_findExponent_75 rfl ?_
      refine v_iload_n hC 2 dX3_findExponent_76 rfl ?_
      refine v_cVP hC (y := y_X4_codeAt) (ci := 4) [.int i2] [] (fun r => some (.int r)) (fun r => .int r :: []) hf (fun _ h => m_X4_codeAt h) rfl (fun _ => rfl) rfl rfl hR (Nat.le_of_ble_eq_true rfl) (Nat.le_of_ble_eq_true rfl) w_572 w_569 w_570 w_571 w_60 nm_X4_codeAt rfl (Nat.le_of_ble_eq_true rfl) dX3_findExponent_77 (fun x14 hf => ?_)
      refine v_bipush (v := 45) hC dX3_findExponent_80 (by decide) ?_
      refine v_jnE hf (fun z15 kr sr => V K (kr + 0) (sr + 0) z15 94 [(1, .ref a1), (3, .int z2)] []) (fun z15 _ _ hf => ?_) (fun k15 hk15 hf => ?_)
      · refine v_iload_n hC 1 dX3_findExponent_94 rfl ?_
        refine v_aload_n hC 0 dX3_findExponent_95 rfl ?_
        refine v_getIN hC hf fd_4_1 n_2 dX3_findExponent_96 (fun x16 hf => ?_)
        refine v_icmp_ge hC hf dX3_findExponent_99 (tgt := 106) (by decide) (fun hf => ?_) (fun hf => ?_)
        · refine v_iconst (v := 0) hC dX3_findExponent_106 (by decide) ?_
          exact v_retZ hC hf hE dX3_findExponent_107
        · refine v_at 102 rfl ?_
          refine v_iconst (v := 1) hC dX3_findExponent_102 (by decide) ?_
          refine v_goto (tgt := 107) hC dX3_findExponent_103 (by decide) ?_
          exact v_retZ hC hf hE dX3_findExponent_107
      · refine v_icmp_ne hC hf dX3_findExponent_82 (tgt := 94) (by decide) (fun hf => ?_) (fun hf => ?_)
        · exact v_sub [(1, .ref a1), (3, .int z2)] [1, 3] rfl (hk15 _ _ _ hf)
        · refine v_at 85 rfl ?_
          refine v_aload_n hC 0 dX3_findExponent_85 rfl ?_
          refine v_aload_n hC 0 dX3_findExponent_86 rfl ?_
          refine v_getL hC (host := "") hf fd_3_4 w_124 dX3_findExponent_87 (fun l17 hf => ?_)
          refine v_lneg hC dX3_findExponent_90 ?_
          refine v_put hC hf fd_3_4 w_124 rfl rfl dX3_findExponent_91 (fun σ18 hf => ?_)
          refine v_at 94 rfl ?_
          exact v_sub [(1, .ref a1), (3, .int z2)] [1, 3] rfl (hk15 _ _ _ hf)
  · refine v_if_eq hC hf dX3_findExponent_5 (tgt := 14) (by decide) (fun hf => ?_) (fun hf => ?_)
    · refine v_iload_n hC 2 dX3_findExponent_14 rfl ?_
      refine v_at 15 rfl ?_
      exact v_sub [(0, .ref a0), (1, .ref a1), (2, .int i2)] [0, 1, 2] rfl (hk2 _ _ _ hf)
    · refine v_at 8 rfl ?_
      refine v_iload_n hC 2 dX3_findExponent_8 rfl ?_
      refine v_iconst (v := 1) hC dX3_findExponent_9 (by decide) ?_
      refine v_iadd hC dX3_findExponent_10 ?_
      refine v_goto (tgt := 15) hC dX3_findExponent_11 (by decide) ?_
      exact v_sub [(0, .ref a0), (1, .ref a1), (2, .int i2)] [0, 1, 2] rfl (hk2 _ _ _ hf)
set_option maxHeartbeats 4000000 in
set_option maxRecDepth 100000 in
theorem m_X3_parse {G : Gm} {l : Launch} {σ : St} {a0 : Nat} {a1 : Nat} {r : Int32} {σf : St} {k s : Nat} (hf : f_X3_parse σ a0 a1 = some (r, σf, k, s)) : (∃ fs : List Value, σ.1 a0 = some (.inr (.inl (3, fs)))) ∧ Ct G l y_X3_parse prog_5_method_2_code 3 (some .boolean) 3 67 [.ref a0, .ref a1] σ (some (.int r)) σf k s := by
  unfold f_X3_parse at hf
  obtain ⟨hob, hf⟩ := ob_some hf
  refine ⟨hob, Ct.ofV pl_X3_parse (Nat.le_of_ble_eq_true rfl) ?_⟩
  intro K hR hN hnm hC hE
  show V K (k + 0) (s + 0) σ 0 [(0, .ref a0), (1, .ref a1)] []
  refine v_aload_n hC 0 dX3_parse_0 rfl ?_
  refine v_aload_n hC 1 dX3_parse_1 rfl ?_
  refine v_iconst (v := 0) hC dX3_parse_2 (by decide) ?_
  refine v_cVP hC (y := y_X4_codeAt) (ci := 4) [.int 0] [.ref a0] (fun r => some (.int r)) (fun r => .int r :: [.ref a0]) hf (fun _ h => m_X4_codeAt h) rfl (fun _ => rfl) rfl rfl hR (Nat.le_of_ble_eq_true rfl) (Nat.le_of_ble_eq_true rfl) w_572 w_569 w_570 w_571 w_60 nm_X4_codeAt rfl (Nat.le_of_ble_eq_true rfl) dX3_parse_3 (fun x1 hf => ?_)
  refine v_bipush (v := 45) hC dX3_parse_6 (by decide) ?_
  refine v_jnE hf (fun z2 kr sr => V K (kr + 0) (sr + 0) σ 16 [(0, .ref a0), (1, .ref a1)] [.int z2, .ref a0]) (fun z2 _ _ hf => ?_) (fun k2 hk2 hf => ?_)
  · refine v_bZ hf (fun hz1 hz2 hf => ?_)
    refine v_put hC hf fd_3_0 w_116 hz1 hz2 dX3_parse_16 (fun σ3 hf => ?_)
    refine v_aload_n hC 0 dX3_parse_19 rfl ?_
    refine v_aload_n hC 1 dX3_parse_20 rfl ?_
    refine v_iconst (v := 0) hC dX3_parse_21 (by decide) ?_
    refine v_cVP hC (y := y_X4_hasSignAt) (ci := 4) [.int 0] [.ref a0] (fun r => some (.int r)) (fun r => .int r :: [.ref a0]) hf (fun _ h => m_X4_hasSignAt h) rfl (fun _ => rfl) rfl rfl hR (Nat.le_of_ble_eq_true rfl) (Nat.le_of_ble_eq_true rfl) w_576 w_573 w_574 w_575 w_60 nm_X4_hasSignAt rfl (Nat.le_of_ble_eq_true rfl) dX3_parse_22 (fun x4 hf => ?_)
    refine v_jnE hf (fun z5 kr sr => V K (kr + 0) (sr + 0) σ3 33 [(0, .ref a0), (1, .ref a1)] [.int z5, .ref a0]) (fun z5 _ _ hf => ?_) (fun k5 hk5 hf => ?_)
    · refine v_put hC hf fd_3_1 w_118 rfl rfl dX3_parse_33 (fun σ6 hf => ?_)
      refine v_aload_n hC 0 dX3_parse_36 rfl ?_
      refine v_lconst (v := 0) hC dX3_parse_37 (by decide) ?_
      refine v_put hC hf fd_3_4 w_124 rfl rfl dX3_parse_38 (fun σ7 hf => ?_)
      refine v_aload_n hC 0 dX3_parse_41 rfl ?_
      refine v_aload_n hC 1 dX3_parse_42 rfl ?_
      refine v_cVE hC (y := y_X3_findDigits) (ci := 3) [.ref a1] [] (fun r => some (.int r)) (fun r => .int r :: []) hf (fun _ _ _ _ h => m_X3_findDigits h) rfl (fun _ => rfl) rfl rfl hR (Nat.le_of_ble_eq_true rfl) (Nat.le_of_ble_eq_true rfl) w_581 w_578 w_580 w_22 w_61 nm_X3_findDigits rfl (Nat.le_of_ble_eq_true rfl) dX3_parse_43 (fun x8 σ9 _ _ hf => ?_)
      refine v_if_ne hC hf dX3_parse_46 (tgt := 51) (by decide) (fun hf => ?_) (fun hf => ?_)
      · refine v_aload_n hC 0 dX3_parse_51 rfl ?_
        refine v_getI hC (host := "") hf fd_3_2 w_120 dX3_parse_52 (fun x10 hf => ?_)
        refine v_aload_n hC 1 dX3_parse_55 rfl ?_
        refine v_getIN hC hf fd_4_1 n_2 dX3_parse_56 (fun x11 hf => ?_)
        refine v_icmp_ne hC hf dX3_parse_59 (tgt := 64) (by decide) (fun hf => ?_) (fun hf => ?_)
        · refine v_aload_n hC 1 dX3_parse_64 rfl ?_
          refine v_aload_n hC 0 dX3_parse_65 rfl ?_
          refine v_getI hC (host := "") hf fd_3_2 w_120 dX3_parse_66 (fun x12 hf => ?_)
          refine v_cVP hC (y := y_X4_codeAt) (ci := 4) [.int x12] [] (fun r => some (.int r)) (fun r => .int r :: []) hf (fun _ h => m_X4_codeAt h) rfl (fun _ => rfl) rfl rfl hR (Nat.le_of_ble_eq_true rfl) (Nat.le_of_ble_eq_true rfl) w_572 w_569 w_570 w_571 w_60 nm_X4_codeAt rfl (Nat.le_of_ble_eq_true rfl) dX3_parse_69 (fun x13 hf => ?_)
          refine v_istore_n hC [(2, .int x13), (0, .ref a0), (1, .ref a1)] dX3_parse_72 rfl hN (Nat.le_of_ble_eq_true rfl) rfl ?_
          refine v_iload_n hC 0 dX3_parse_73 rfl ?_
          refine v_bipush (v := 101) hC dX3_parse_74 (by decide) ?_
          refine v_jnE hf (fun z14 kr sr => V K (kr + 0) (sr + 0) σ9 85 [(0, .ref a0), (1, .ref a1)] []) (fun z14 _ _ hf => ?_) (fun k14 hk14 hf => ?_)
          · refine v_aload_n hC 0 dX3_parse_85 rfl ?_
            refine v_aload_n hC 1 dX3_parse_86 rfl ?_
            refine v_aload_n hC 0 dX3_parse_87 rfl ?_
            refine v_getI hC (host := "") hf fd_3_2 w_120 dX3_parse_88 (fun x15 hf => ?_)
            refine v_iconst (v := 1) hC dX3_parse_91 (by decide) ?_
            refine v_iadd hC dX3_parse_92 ?_
            refine v_cVE hC (y := y_X3_findExponent) (ci := 3) [.ref a1, .int (x15 + 1)] [] (fun r => some (.int r)) (fun r => .int r :: []) hf (fun _ _ _ _ h => m_X3_findExponent h) rfl (fun _ => rfl) rfl rfl hR (Nat.le_of_ble_eq_true rfl) (Nat.le_of_ble_eq_true rfl) w_589 w_586 w_588 w_23 w_61 nm_X3_findExponent rfl (Nat.le_of_ble_eq_true rfl) dX3_parse_93 (fun x16 σ17 _ _ hf => ?_)
            refine v_if_eq hC hf dX3_parse_96 (tgt := 103) (by decide) (fun hf => ?_) (fun hf => ?_)
            · refine v_iconst (v := 0) hC dX3_parse_103 (by decide) ?_
              exact v_retZ hC hf hE dX3_parse_104
            · refine v_at 99 rfl ?_
              refine v_iconst (v := 1) hC dX3_parse_99 (by decide) ?_
              refine v_goto (tgt := 104) hC dX3_parse_100 (by decide) ?_
              exact v_retZ hC hf hE dX3_parse_104
          · refine v_icmp_eq hC hf dX3_parse_76 (tgt := 85) (by decide) (fun hf => ?_) (fun hf => ?_)
            · exact v_sub [(0, .ref a0), (1, .ref a1)] [1, 2] rfl (hk14 _ _ _ hf)
            · refine v_at 79 rfl ?_
              refine v_iload_n hC 0 dX3_parse_79 rfl ?_
              refine v_bipush (v := 69) hC dX3_parse_80 (by decide) ?_
              refine v_icmp_ne hC hf dX3_parse_82 (tgt := 103) (by decide) (fun hf => ?_) (fun hf => ?_)
              · refine v_iconst (v := 0) hC dX3_parse_103 (by decide) ?_
                exact v_retZ hC hf hE dX3_parse_104
              · refine v_at 85 rfl ?_
                exact v_sub [(0, .ref a0), (1, .ref a1)] [1, 2] rfl (hk14 _ _ _ hf)
        · refine v_at 62 rfl ?_
          refine v_iconst (v := 1) hC dX3_parse_62 (by decide) ?_
          exact v_retZ hC hf hE dX3_parse_63
      · refine v_at 49 rfl ?_
        refine v_iconst (v := 0) hC dX3_parse_49 (by decide) ?_
        exact v_retZ hC hf hE dX3_parse_50
    · refine v_if_eq hC hf dX3_parse_25 (tgt := 32) (by decide) (fun hf => ?_) (fun hf => ?_)
      · refine v_iconst (v := 0) hC dX3_parse_32 (by decide) ?_
        refine v_at 33 rfl ?_
        exact v_sub [(0, .ref a0), (1, .ref a1)] [0, 1] rfl (hk5 _ _ _ hf)
      · refine v_at 28 rfl ?_
        refine v_iconst (v := 1) hC dX3_parse_28 (by decide) ?_
        refine v_goto (tgt := 33) hC dX3_parse_29 (by decide) ?_
        exact v_sub [(0, .ref a0), (1, .ref a1)] [0, 1] rfl (hk5 _ _ _ hf)
  · refine v_icmp_ne hC hf dX3_parse_8 (tgt := 15) (by decide) (fun hf => ?_) (fun hf => ?_)
    · refine v_iconst (v := 0) hC dX3_parse_15 (by decide) ?_
      refine v_at 16 rfl ?_
      exact v_sub [(0, .ref a0), (1, .ref a1)] [0, 1] rfl (hk2 _ _ _ hf)
    · refine v_at 11 rfl ?_
      refine v_iconst (v := 1) hC dX3_parse_11 (by decide) ?_
      refine v_goto (tgt := 16) hC dX3_parse_12 (by decide) ?_
      exact v_sub [(0, .ref a0), (1, .ref a1)] [0, 1] rfl (hk2 _ _ _ hf)
