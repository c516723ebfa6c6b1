set_option maxHeartbeats 4000000 in
set_option maxRecDepth 100000 in
theorem m_X4_init {G : Gm} {l : Launch} {σ : St} {a0 : Nat} {r : Unit} {σf : St} {k s : Nat} (hf : f_X4_init σ a0 = some (r, σf, k, s)) : Ct G l y_X4_init prog_6_method_1_code 1 none 1 20 [.ref a0] σ none σf k s := by
  unfold f_X4_init at hf
  refine Ct.ofV pl_X4_init (Nat.le_of_ble_eq_true rfl) ?_
  intro K hR hN hnm hC hE
  show V K (k + 0) (s + 0) σ 0 [(0, .ref a0)] []
  refine v_aload_n hC 0 dX4_init_0 rfl ?_
  refine v_oinit hC hR (Nat.le_of_ble_eq_true rfl) (Nat.le_of_ble_eq_true rfl) w_98 w_75 w_76 (Nat.le_of_ble_eq_true rfl) dX4_init_1 ?_
  refine v_aload_n hC 0 dX4_init_4 rfl ?_
  refine v_bipush (v := 16) hC dX4_init_5 (by decide) ?_
  refine v_newB hC hf w_109 dX4_init_7 (fun r1 σ2 _ _ hf => ?_)
  refine v_put hC hf fd_4_0 w_99 rfl rfl dX4_init_9 (fun σ3 hf => ?_)
  exact v_retV hC hf hE dX4_init_12
def E_X5_init_L92 (K : Cq)  (y : Unit) (σ : St) (kr sr : Nat) : Prop := V K kr sr σ 120 [] []
set_option maxHeartbeats 4000000 in
set_option maxRecDepth 100000 in
theorem v_X5_init_L92 {K : Cq} {k0 s0 : Nat} (hC : Cx K prog_1_method_1_code "TensMill") (hR : kR K = rmF 3 60 k0 s0) (hN : kn K = 2) (hnm : (kt K).name = "<init>") {ko so : Nat} : ∀ (n : Nat) (σ : St) (a0 : Nat) (i1 : Int32) (y : Unit) (σf : St) (kr sr : Nat), f_X5_init_L92 n σ a0 i1 = some (y, σf, kr, sr) → E_X5_init_L92 K  y σf ko so → V K (kr + ko) (sr + so) σ 92 [(0, .ref a0), (1, .int i1)] [] := by
  intro n
  induction n with
  | zero =>
    intro σ a0 i1 y σf kr sr hf hE
    cases hf
  | succ n ih =>
    intro σ a0 i1 y σf kr sr hf hE
    replace hf : b_X5_init_L92 (f_X5_init_L92 n) σ a0 i1 = some (y, σf, kr, sr) := hf
    unfold b_X5_init_L92 at hf
    refine v_iload_n hC 1 dX5_init_92 rfl ?_
    refine v_aload_n hC 0 dX5_init_93 rfl ?_
    refine v_getR hC (host := "") hf fd_5_0 w_185 dX5_init_94 (fun r32 hf => ?_)
    refine v_aln hC hf dX5_init_97 (fun x33 hf => ?_)
    refine v_icmp_ge hC hf dX5_init_98 (tgt := 120) (by decide) (fun hf => ?_) (fun hf => ?_)
    · obtain ⟨hX, e1, e2⟩ := v_exE (E := E_X5_init_L92 K ) hf hE
      rw [e1, e2]
      exact v_sub [] [] rfl hX
    · refine v_at 101 rfl ?_
      refine v_aload_n hC 0 dX5_init_101 rfl ?_
      refine v_getR hC (host := "") hf fd_5_0 w_185 dX5_init_102 (fun r34 hf => ?_)
      refine v_iload_n hC 1 dX5_init_105 rfl ?_
      refine v_new hC hf (ty0 := tyX0) rfl ut_0 tyX0_ok (fun j hj => by rcases (show j = 0 ∨ j = 1 ∨ j = 2 by omega) with rfl | rfl | rfl <;> rfl) w_77 w_162 w_63 dX5_init_106 (fun r35 σ36 _ _ hf => ?_)
      refine v_dup hC dX5_init_109 rfl ?_
      refine v_cIN hC (y := y_X0_init) [] [.ref r35, .int i1, .ref r34] hf (fun _ _ _ _ h => m_X0_init h) rfl hR (Nat.le_of_ble_eq_true rfl) (Nat.le_of_ble_eq_true rfl) w_165 n_12 w_164 w_63 rfl nm_X0_init rfl (Nat.le_of_ble_eq_true rfl) dX5_init_110 (fun _ σ37 _ _ hf => ?_)
      refine v_stA hC hf dX5_init_113 (fun σ38 hf => ?_)
      refine v_incL hC hf 1 (fun x39 => [(1, .int x39), (0, .ref a0)]) dX5_init_114 rfl (by decide) hN (Nat.le_of_ble_eq_true rfl) (fun _ => rfl) (fun x39 hf => ?_)
      refine v_at 117 rfl ?_
      refine v_goto (tgt := 92) hC dX5_init_117 (by decide) ?_
      exact v_sub [(0, .ref a0), (1, .int x39)] [1, 0] rfl (ih _ _ _ _ _ _ _ hf hE)
set_option maxHeartbeats 4000000 in
set_option maxRecDepth 100000 in
theorem m_X5_init {G : Gm} {l : Launch} {σ : St} {a0 : Nat} {r : Unit} {σf : St} {k s : Nat} (hf : f_X5_init σ a0 = some (r, σf, k, s)) : Ct G l y_X5_init prog_1_method_1_code 2 none 3 60 [.ref a0] σ none σf k s := by
  unfold f_X5_init at hf
  refine Ct.ofV pl_X5_init (Nat.le_of_ble_eq_true rfl) ?_
  intro K hR hN hnm hC hE
  show V K (k + 0) (s + 0) σ 0 [(0, .ref a0)] []
  refine v_aload_n hC 0 dX5_init_0 rfl ?_
  refine v_oinit hC hR (Nat.le_of_ble_eq_true rfl) (Nat.le_of_ble_eq_true rfl) w_74 w_75 w_76 (Nat.le_of_ble_eq_true rfl) dX5_init_1 ?_
  refine v_aload_n hC 0 dX5_init_4 rfl ?_
  refine v_bipush (v := 8) hC dX5_init_5 (by decide) ?_
  refine v_anew hC hf w_77 dX5_init_7 (fun r1 σ2 _ _ hf => ?_)
  refine v_putF hC hf hnm rfl fd_5_0 w_185 rfl rfl dX5_init_10 (fun σ3 hf => ?_)
  refine v_aload_n hC 0 dX5_init_13 rfl ?_
  refine v_new hC hf (ty0 := tyX2) rfl ut_2 tyX2_ok (fun j hj => by rcases (show j = 0 ∨ j = 1 by omega) with rfl | rfl <;> rfl) w_79 w_80 w_59 dX5_init_14 (fun r4 σ5 _ _ hf => ?_)
  refine v_at 17 rfl ?_
  refine v_dup hC dX5_init_17 rfl ?_
  refine v_cIN hC (y := y_X2_init) [] [.ref r4, .ref a0] hf (fun _ _ _ _ h => m_X2_init h) rfl hR (Nat.le_of_ble_eq_true rfl) (Nat.le_of_ble_eq_true rfl) w_83 n_0 w_82 w_59 rfl nm_X2_init rfl (Nat.le_of_ble_eq_true rfl) dX5_init_18 (fun _ σ6 _ _ hf => ?_)
  refine v_putF hC hf hnm rfl fd_5_1 w_186 rfl rfl dX5_init_21 (fun σ7 hf => ?_)
  refine v_aload_n hC 0 dX5_init_24 rfl ?_
  refine v_new hC hf (ty0 := tyX2) rfl ut_2 tyX2_ok (fun j hj => by rcases (show j = 0 ∨ j = 1 by omega) with rfl | rfl <;> rfl) w_79 w_80 w_59 dX5_init_25 (fun r8 σ9 _ _ hf => ?_)
  refine v_dup hC dX5_init_28 rfl ?_
  refine v_cIN hC (y := y_X2_init) [] [.ref r8, .ref a0] hf (fun _ _ _ _ h => m_X2_init h) rfl hR (Nat.le_of_ble_eq_true rfl) (Nat.le_of_ble_eq_true rfl) w_83 n_0 w_82 w_59 rfl nm_X2_init rfl (Nat.le_of_ble_eq_true rfl) dX5_init_29 (fun _ σ10 _ _ hf => ?_)
  refine v_putF hC hf hnm rfl fd_5_2 w_187 rfl rfl dX5_init_32 (fun σ11 hf => ?_)
  refine v_at 35 rfl ?_
  refine v_aload_n hC 0 dX5_init_35 rfl ?_
  refine v_new hC hf (ty0 := tyX2) rfl ut_2 tyX2_ok (fun j hj => by rcases (show j = 0 ∨ j = 1 by omega) with rfl | rfl <;> rfl) w_79 w_80 w_59 dX5_init_36 (fun r12 σ13 _ _ hf => ?_)
  refine v_dup hC dX5_init_39 rfl ?_
  refine v_cIN hC (y := y_X2_init) [] [.ref r12, .ref a0] hf (fun _ _ _ _ h => m_X2_init h) rfl hR (Nat.le_of_ble_eq_true rfl) (Nat.le_of_ble_eq_true rfl) w_83 n_0 w_82 w_59 rfl nm_X2_init rfl (Nat.le_of_ble_eq_true rfl) dX5_init_40 (fun _ σ14 _ _ hf => ?_)
  refine v_putF hC hf hnm rfl fd_5_3 w_188 rfl rfl dX5_init_43 (fun σ15 hf => ?_)
  refine v_aload_n hC 0 dX5_init_46 rfl ?_
  refine v_new hC hf (ty0 := tyX4) rfl ut_4 tyX4_ok (fun j hj => by rcases (show j = 0 ∨ j = 1 by omega) with rfl | rfl <;> rfl) w_93 w_94 w_60 dX5_init_47 (fun r16 σ17 _ _ hf => ?_)
  refine v_dup hC dX5_init_50 rfl ?_
  refine v_at 51 rfl ?_
  refine v_cIN hC (y := y_X4_init) [] [.ref r16, .ref a0] hf (fun _ _ _ _ h => m_X4_init h) rfl hR (Nat.le_of_ble_eq_true rfl) (Nat.le_of_ble_eq_true rfl) w_97 n_1 w_96 w_60 rfl nm_X4_init rfl (Nat.le_of_ble_eq_true rfl) dX5_init_51 (fun _ σ18 _ _ hf => ?_)
  refine v_putF hC hf hnm rfl fd_5_4 w_189 rfl rfl dX5_init_54 (fun σ19 hf => ?_)
  refine v_aload_n hC 0 dX5_init_57 rfl ?_
  refine v_new hC hf (ty0 := tyX4) rfl ut_4 tyX4_ok (fun j hj => by rcases (show j = 0 ∨ j = 1 by omega) with rfl | rfl <;> rfl) w_93 w_94 w_60 dX5_init_58 (fun r20 σ21 _ _ hf => ?_)
  refine v_dup hC dX5_init_61 rfl ?_
  refine v_cIN hC (y := y_X4_init) [] [.ref r20, .ref a0] hf (fun _ _ _ _ h => m_X4_init h) rfl hR (Nat.le_of_ble_eq_true rfl) (Nat.le_of_ble_eq_true rfl) w_97 n_1 w_96 w_60 rfl nm_X4_init rfl (Nat.le_of_ble_eq_true rfl) dX5_init_62 (fun _ σ22 _ _ hf => ?_)
  refine v_putF hC hf hnm rfl fd_5_5 w_190 rfl rfl dX5_init_65 (fun σ23 hf => ?_)
  refine v_aload_n hC 0 dX5_init_68 rfl ?_
  refine v_at 69 rfl ?_
  refine v_new hC hf (ty0 := tyX3) rfl ut_3 tyX3_ok (fun j hj => by rcases (show j = 0 ∨ j = 1 ∨ j = 2 ∨ j = 3 ∨ j = 4 by omega) with rfl | rfl | rfl | rfl | rfl <;> rfl) w_110 w_111 w_61 dX5_init_69 (fun r24 σ25 _ _ hf => ?_)
  refine v_dup hC dX5_init_72 rfl ?_
  refine v_cIN hC (y := y_X3_init) [] [.ref r24, .ref a0] hf (fun _ _ _ _ h => m_X3_init h) rfl hR (Nat.le_of_ble_eq_true rfl) (Nat.le_of_ble_eq_true rfl) w_114 n_5 w_113 w_61 rfl nm_X3_init rfl (Nat.le_of_ble_eq_true rfl) dX5_init_73 (fun _ σ26 _ _ hf => ?_)
  refine v_putF hC hf hnm rfl fd_5_6 w_191 rfl rfl dX5_init_76 (fun σ27 hf => ?_)
  refine v_aload_n hC 0 dX5_init_79 rfl ?_
  refine v_new hC hf (ty0 := tyX1) rfl ut_1 tyX1_ok (fun j hj => by rcases (show j = 0 ∨ j = 1 ∨ j = 2 ∨ j = 3 ∨ j = 4 ∨ j = 5 by omega) with rfl | rfl | rfl | rfl | rfl | rfl <;> rfl) w_137 w_138 w_62 dX5_init_80 (fun r28 σ29 _ _ hf => ?_)
  refine v_dup hC dX5_init_83 rfl ?_
  refine v_cIN hC (y := y_X1_init) [] [.ref r28, .ref a0] hf (fun _ _ _ _ h => m_X1_init h) rfl hR (Nat.le_of_ble_eq_true rfl) (Nat.le_of_ble_eq_true rfl) w_141 n_11 w_140 w_62 rfl nm_X1_init rfl (Nat.le_of_ble_eq_true rfl) dX5_init_84 (fun _ σ30 _ _ hf => ?_)
  refine v_at 87 rfl ?_
  refine v_putF hC hf hnm rfl fd_5_7 w_192 rfl rfl dX5_init_87 (fun σ31 hf => ?_)
  refine v_iconst (v := 0) hC dX5_init_90 (by decide) ?_
  refine v_istore_n hC [(1, .int 0), (0, .ref a0)] dX5_init_91 rfl hN (Nat.le_of_ble_eq_true rfl) rfl ?_
  refine v_at 92 rfl ?_
  refine v_sub [(0, .ref a0), (1, .int 0)] [1, 0] rfl ?_
  refine v_lpE hf (E_X5_init_L92 K ) (fun _ _ _ _ _ _ h hE => v_X5_init_L92 hC hR hN hnm _ _ _ _ _ _ _ _ h hE) (fun y40 σ41 _ _ hf => ?_)
  show V K _ _ σ41 120 [] []
  exact v_retV hC hf hE dX5_init_120
set_option maxHeartbeats 4000000 in
set_option maxRecDepth 100000 in
theorem m_X5_isRegister {G : Gm} {l : Launch} {σ : St} {i0 : Int32} {r : Int32} (hf : f_X5_isRegister σ i0 = some r) : Ct G l y_X5_isRegister prog_1_method_25_code 1 (some .boolean) 0 0 [.int i0] σ (some (.int r)) σ 0 0 := by
  unfold f_X5_isRegister at hf
  refine Ct.ofV pl_X5_isRegister (Nat.le_of_ble_eq_true rfl) ?_
  intro K hR hN hnm hC hE
  show V K 0 0 σ 0 [(0, .int i0)] []
  refine v_iload_n hC 0 dX5_isRegister_0 rfl ?_
  refine v_if_lt hC hf dX5_isRegister_1 (tgt := 14) (by decide) (fun hf => ?_) (fun hf => ?_)
  · refine v_iconst (v := 0) hC dX5_isRegister_14 (by decide) ?_
    exact v_retZP hC hf hE dX5_isRegister_15
  · refine v_at 4 rfl ?_
    refine v_iload_n hC 0 dX5_isRegister_4 rfl ?_
    refine v_bipush (v := 8) hC dX5_isRegister_5 (by decide) ?_
    refine v_icmp_ge hC hf dX5_isRegister_7 (tgt := 14) (by decide) (fun hf => ?_) (fun hf => ?_)
    · refine v_iconst (v := 0) hC dX5_isRegister_14 (by decide) ?_
      exact v_retZP hC hf hE dX5_isRegister_15
    · refine v_at 10 rfl ?_
      refine v_iconst (v := 1) hC dX5_isRegister_10 (by decide) ?_
      refine v_goto (tgt := 15) hC dX5_isRegister_11 (by decide) ?_
      exact v_retZP hC hf hE dX5_isRegister_15
set_option maxHeartbeats 4000000 in
set_option maxRecDepth 100000 in
theorem m_X5_fits {G : Gm} {l : Launch} {σ : St} {a0 : Nat} {j1 : Int64} {r : Int32} (hf : f_X5_fits σ a0 j1 = some r) : Ct G l y_X5_fits prog_1_method_28_code 3 (some .boolean) 1 22 [.ref a0, .long j1] σ (some (.int r)) σ 0 0 := by
  unfold f_X5_fits at hf
  refine Ct.ofV pl_X5_fits (Nat.le_of_ble_eq_true rfl) ?_
  intro K hR hN hnm hC hE
  show V K 0 0 σ 0 [(0, .ref a0), (1, .long j1)] []
  refine v_aload_n hC 0 dX5_fits_0 rfl ?_
  refine v_cVP hC (y := y_X2_digitCount) (ci := 2) [] [] (fun r => some (.int r)) (fun r => .int r :: []) hf (fun _ h => m_X2_digitCount h) rfl (fun _ => rfl) rfl rfl hR (Nat.le_of_ble_eq_true rfl) (Nat.le_of_ble_eq_true rfl) w_235 w_232 w_233 w_234 w_59 nm_X2_digitCount rfl (Nat.le_of_ble_eq_true rfl) dX5_fits_1 (fun x1 hf => ?_)
  refine v_sipush (v := 4096) hC dX5_fits_4 (by decide) ?_
  refine v_icmp_gt hC hf dX5_fits_7 (tgt := 22) (by decide) (fun hf => ?_) (fun hf => ?_)
  · refine v_iconst (v := 0) hC dX5_fits_22 (by decide) ?_
    exact v_retZP hC hf hE dX5_fits_23
  · refine v_at 10 rfl ?_
    refine v_lload_n hC 1 dX5_fits_10 rfl ?_
    refine v_lload_n hC 1 dX5_fits_11 rfl ?_
    refine v_l2i hC dX5_fits_12 ?_
    refine v_i2l hC dX5_fits_13 ?_
    refine v_lcmp_ne hC hf dX5_fits_14 dX5_fits_15 (tgt := 22) (by decide) (fun hf => ?_) (fun hf => ?_)
    · refine v_iconst (v := 0) hC dX5_fits_22 (by decide) ?_
      exact v_retZP hC hf hE dX5_fits_23
    · refine v_at 18 rfl ?_
      refine v_iconst (v := 1) hC dX5_fits_18 (by decide) ?_
      refine v_goto (tgt := 23) hC dX5_fits_19 (by decide) ?_
      exact v_retZP hC hf hE dX5_fits_23
set_option maxHeartbeats 4000000 in
set_option maxRecDepth 100000 in
theorem m_X5_keep {G : Gm} {l : Launch} {σ : St} {a0 : Nat} {i1 : Int32} {a2 : Nat} {i3 : Int32} {j4 : Int64} {r : Int32} {σf : St} {k s : Nat} (hf : f_X5_keep σ a0 i1 a2 i3 j4 = some (r, σf, k, s)) : (∃ fs : List Value, σ.1 a0 = some (.inr (.inl (5, fs)))) ∧ Ct G l y_X5_keep prog_1_method_29_code 6 (some .boolean) 5 113 [.ref a0, .int i1, .ref a2, .int i3, .long j4] σ (some (.int r)) σf k s := by
  unfold f_X5_keep at hf
  obtain ⟨hob, hf⟩ := ob_some hf
  refine ⟨hob, Ct.ofV pl_X5_keep (Nat.le_of_ble_eq_true rfl) ?_⟩
  intro K hR hN hnm hC hE
  show V K (k + 0) (s + 0) σ 0 [(0, .ref a0), (1, .int i1), (2, .ref a2), (3, .int i3), (4, .long j4)] []
  refine v_iload_n hC 1 dX5_keep_0 rfl ?_
  refine v_cSP hC (y := y_X5_isRegister) [.int i1] [] (fun r => some (.int r)) (fun r => .int r :: []) hf (fun _ h => m_X5_isRegister h) rfl (fun _ => rfl) hR (Nat.le_of_ble_eq_true rfl) (Nat.le_of_ble_eq_true rfl) w_228 w_226 w_227 w_58 nm_X5_isRegister rfl (Nat.le_of_ble_eq_true rfl) dX5_keep_1 (fun x1 hf => ?_)
  refine v_if_eq hC hf dX5_keep_4 (tgt := 16) (by decide) (fun hf => ?_) (fun hf => ?_)
  · refine v_iconst (v := 0) hC dX5_keep_16 (by decide) ?_
    exact v_retZ hC hf hE dX5_keep_17
  · refine v_at 7 rfl ?_
    refine v_aload_n hC 2 dX5_keep_7 rfl ?_
    refine v_lload hC 4 dX5_keep_8 rfl ?_
    refine v_cSP hC (y := y_X5_fits) [.ref a2, .long j4] [] (fun r => some (.int r)) (fun r => .int r :: []) hf (fun _ h => m_X5_fits h) rfl (fun _ => rfl) hR (Nat.le_of_ble_eq_true rfl) (Nat.le_of_ble_eq_true rfl) w_231 w_229 w_230 w_58 nm_X5_fits rfl (Nat.le_of_ble_eq_true rfl) dX5_keep_10 (fun x2 hf => ?_)
    refine v_if_ne hC hf dX5_keep_13 (tgt := 18) (by decide) (fun hf => ?_) (fun hf => ?_)
    · refine v_aload_n hC 0 dX5_keep_18 rfl ?_
      refine v_getR hC (host := "") hf fd_5_0 w_185 dX5_keep_19 (fun r3 hf => ?_)
      refine v_iload_n hC 1 dX5_keep_22 rfl ?_
      refine v_ldA hC hf dX5_keep_23 (fun r4 hf => ?_)
      refine v_aload_n hC 2 dX5_keep_24 rfl ?_
      refine v_iload_n hC 3 dX5_keep_25 rfl ?_
      refine v_lload hC 4 dX5_keep_26 rfl ?_
      refine v_l2i hC dX5_keep_28 ?_
      refine v_at 29 rfl ?_
      refine v_cVE hC (y := y_X0_become) (ci := 0) [.ref a2, .int i3, .int ((j4 : Int64).toInt32)] [] (fun _ => none) (fun _ => []) hf (fun _ _ _ _ h => m_X0_become h) rfl (fun _ => rfl) rfl rfl hR (Nat.le_of_ble_eq_true rfl) (Nat.le_of_ble_eq_true rfl) w_241 w_238 w_239 w_240 w_63 nm_X0_become rfl (Nat.le_of_ble_eq_true rfl) dX5_keep_29 (fun _ σ5 _ _ hf => ?_)
      refine v_iconst (v := 1) hC dX5_keep_32 (by decide) ?_
      exact v_retZ hC hf hE dX5_keep_33
    · refine v_at 16 rfl ?_
      refine v_iconst (v := 0) hC dX5_keep_16 (by decide) ?_
      exact v_retZ hC hf hE dX5_keep_17
set_option maxHeartbeats 4000000 in
set_option maxRecDepth 100000 in
theorem m_X5_put {G : Gm} {l : Launch} {σ : St} {a0 : Nat} {i1 : Int32} {j2 : Int64} {i4 : Int32} {r : Int32} {σf : St} {k s : Nat} (hf : f_X5_put σ a0 i1 j2 i4 = some (r, σf, k, s)) : (∃ fs : List Value, σ.1 a0 = some (.inr (.inl (5, fs)))) ∧ Ct G l y_X5_put prog_1_method_2_code 5 (some .boolean) 6 138 [.ref a0, .int i1, .long j2, .int i4] σ (some (.int r)) σf k s := by
  unfold f_X5_put at hf
  obtain ⟨hob, hf⟩ := ob_some hf
  refine ⟨hob, Ct.ofV pl_X5_put (Nat.le_of_ble_eq_true rfl) ?_⟩
  intro K hR hN hnm hC hE
  show V K (k + 0) (s + 0) σ 0 [(0, .ref a0), (1, .int i1), (2, .long j2), (4, .int i4)] []
  refine v_aload_n hC 0 dX5_put_0 rfl ?_
  refine v_getR hC (host := "") hf fd_5_1 w_186 dX5_put_1 (fun r1 hf => ?_)
  refine v_lload_n hC 2 dX5_put_4 rfl ?_
  refine v_cVE hC (y := y_X2_becomeSizeOf) (ci := 2) [.long j2] [] (fun _ => none) (fun _ => []) hf (fun _ _ _ _ h => m_X2_becomeSizeOf h) rfl (fun _ => rfl) rfl rfl hR (Nat.le_of_ble_eq_true rfl) (Nat.le_of_ble_eq_true rfl) w_217 w_214 w_215 w_216 w_59 nm_X2_becomeSizeOf rfl (Nat.le_of_ble_eq_true rfl) dX5_put_5 (fun _ σ2 _ _ hf => ?_)
  refine v_aload_n hC 0 dX5_put_8 rfl ?_
  refine v_iload_n hC 1 dX5_put_9 rfl ?_
  refine v_aload_n hC 0 dX5_put_10 rfl ?_
  refine v_getR hC (host := "") hf fd_5_1 w_186 dX5_put_11 (fun r3 hf => ?_)
  refine v_at 14 rfl ?_
  refine v_lload_n hC 2 dX5_put_14 rfl ?_
  refine v_lconst (v := 0) hC dX5_put_15 (by decide) ?_
  refine v_jnE hf (fun z4 kr sr => V K (kr + 0) (sr + 0) σ2 25 [(4, .int i4)] [.int z4, .ref r3, .int i1, .ref a0]) (fun z4 _ _ hf => ?_) (fun k4 hk4 hf => ?_)
  · refine v_iload hC 0 dX5_put_25 rfl ?_
    refine v_i2l hC dX5_put_27 ?_
    refine v_cVE hC (y := y_X5_keep) (ci := 5) [.int i1, .ref r3, .int z4, .long ((i4 : Int32).toInt64)] [] (fun r => some (.int r)) (fun r => .int r :: []) hf (fun _ _ _ _ h => m_X5_keep h) rfl (fun _ => rfl) rfl rfl hR (Nat.le_of_ble_eq_true rfl) (Nat.le_of_ble_eq_true rfl) w_225 w_222 w_224 w_0 w_58 nm_X5_keep rfl (Nat.le_of_ble_eq_true rfl) dX5_put_28 (fun x5 σ6 _ _ hf => ?_)
    exact v_retZ hC hf hE dX5_put_31
  · refine v_lcmp_ge hC hf dX5_put_16 dX5_put_17 (tgt := 24) (by decide) (fun hf => ?_) (fun hf => ?_)
    · refine v_iconst (v := 0) hC dX5_put_24 (by decide) ?_
      refine v_at 25 rfl ?_
      exact v_sub [(4, .int i4)] [3] rfl (hk4 _ _ _ hf)
    · refine v_at 20 rfl ?_
      refine v_iconst (v := 1) hC dX5_put_20 (by decide) ?_
      refine v_goto (tgt := 25) hC dX5_put_21 (by decide) ?_
      exact v_sub [(4, .int i4)] [3] rfl (hk4 _ _ _ hf)
set_option maxHeartbeats 4000000 in
set_option maxRecDepth 100000 in
theorem m_X5_copy {G : Gm} {l : Launch} {σ : St} {a0 : Nat} {i1 : Int32} {i2 : Int32} {i3 : Int32} {r : Int32} {σf : St} {k s : Nat} (hf : f_X5_copy σ a0 i1 i2 i3 = some (r, σf, k, s)) : (∃ fs : List Value, σ.1 a0 = some (.inr (.inl (5, fs)))) ∧ Ct G l y_X5_copy prog_1_method_3_code 5 (some .boolean) 6 138 [.ref a0, .int i1, .int i2, .int i3] σ (some (.int r)) σf k s := by
  unfold f_X5_copy at hf
  obtain ⟨hob, hf⟩ := ob_some hf
  refine ⟨hob, Ct.ofV pl_X5_copy (Nat.le_of_ble_eq_true rfl) ?_⟩
  intro K hR hN hnm hC hE
  show V K (k + 0) (s + 0) σ 0 [(0, .ref a0), (1, .int i1), (2, .int i2), (3, .int i3)] []
  refine v_iload_n hC 2 dX5_copy_0 rfl ?_
  refine v_cSP hC (y := y_X5_isRegister) [.int i2] [] (fun r => some (.int r)) (fun r => .int r :: []) hf (fun _ h => m_X5_isRegister h) rfl (fun _ => rfl) hR (Nat.le_of_ble_eq_true rfl) (Nat.le_of_ble_eq_true rfl) w_228 w_226 w_227 w_58 nm_X5_isRegister rfl (Nat.le_of_ble_eq_true rfl) dX5_copy_1 (fun x1 hf => ?_)
  refine v_if_ne hC hf dX5_copy_4 (tgt := 9) (by decide) (fun hf => ?_) (fun hf => ?_)
  · refine v_aload_n hC 0 dX5_copy_9 rfl ?_
    refine v_getR hC (host := "") hf fd_5_0 w_185 dX5_copy_10 (fun r2 hf => ?_)
    refine v_iload_n hC 2 dX5_copy_13 rfl ?_
    refine v_ldA hC hf dX5_copy_14 (fun r3 hf => ?_)
    refine v_astore hC [(4, .ref r3), (0, .ref a0), (1, .int i1), (2, .int i2), (3, .int i3)] dX5_copy_15 hN (Nat.le_of_ble_eq_true rfl) rfl ?_
    refine v_aload_n hC 1 dX5_copy_17 rfl ?_
    refine v_iload_n hC 2 dX5_copy_18 rfl ?_
    refine v_aload hC 0 dX5_copy_19 rfl ?_
    refine v_at 21 rfl ?_
    refine v_getRN hC hf fd_0_0 n_15 dX5_copy_21 (fun r4 hf => ?_)
    refine v_aload hC 0 dX5_copy_24 rfl ?_
    refine v_getIN hC hf fd_0_1 n_17 dX5_copy_26 (fun x5 hf => ?_)
    refine v_iload_n hC 4 dX5_copy_29 rfl ?_
    refine v_jnE hf (fun z6 kr sr => V K (kr + 0) (sr + 0) σ 38 [(4, .ref r3)] [.int z6, .ref r4, .int i1, .ref a0]) (fun z6 _ _ hf => ?_) (fun k6 hk6 hf => ?_)
    · refine v_aload hC 0 dX5_copy_38 rfl ?_
      refine v_getIN hC hf fd_0_2 n_19 dX5_copy_40 (fun x7 hf => ?_)
      refine v_i2l hC dX5_copy_43 ?_
      refine v_cVE hC (y := y_X5_keep) (ci := 5) [.int i1, .ref r4, .int z6, .long ((x7 : Int32).toInt64)] [] (fun r => some (.int r)) (fun r => .int r :: []) hf (fun _ _ _ _ h => m_X5_keep h) rfl (fun _ => rfl) rfl rfl hR (Nat.le_of_ble_eq_true rfl) (Nat.le_of_ble_eq_true rfl) w_225 w_222 w_224 w_0 w_58 nm_X5_keep rfl (Nat.le_of_ble_eq_true rfl) dX5_copy_44 (fun x8 σ9 _ _ hf => ?_)
      exact v_retZ hC hf hE dX5_copy_47
    · refine v_icmp_eq hC hf dX5_copy_30 (tgt := 37) (by decide) (fun hf => ?_) (fun hf => ?_)
      · refine v_iconst (v := 0) hC dX5_copy_37 (by decide) ?_
        refine v_at 38 rfl ?_
        exact v_sub [(4, .ref r3)] [0] rfl (hk6 _ _ _ hf)
      · refine v_at 33 rfl ?_
        refine v_iconst (v := 1) hC dX5_copy_33 (by decide) ?_
        refine v_goto (tgt := 38) hC dX5_copy_34 (by decide) ?_
        exact v_sub [(4, .ref r3)] [0] rfl (hk6 _ _ _ hf)
  · refine v_at 7 rfl ?_
    refine v_iconst (v := 0) hC dX5_copy_7 (by decide) ?_
    exact v_retZ hC hf hE dX5_copy_8
set_option maxHeartbeats 4000000 in
set_option maxRecDepth 100000 in
theorem m_X5_align {G : Gm} {l : Launch} {σ : St} {a0 : Nat} {a1 : Nat} {i2 : Int32} {r : Int32} {σf : St} {k s : Nat} (hf : f_X5_align σ a0 a1 i2 = some (r, σf, k, s)) : Ct G l y_X5_align prog_1_method_31_code 5 (some .boolean) 4 99 [.ref a0, .ref a1, .int i2] σ (some (.int r)) σf k s := by
  unfold f_X5_align at hf
  refine Ct.ofV pl_X5_align (Nat.le_of_ble_eq_true rfl) ?_
  intro K hR hN hnm hC hE
  show V K (k + 0) (s + 0) σ 0 [(0, .ref a0), (1, .ref a1), (2, .int i2)] []
  refine v_aload_n hC 1 dX5_align_0 rfl ?_
  refine v_getRN hC hf fd_0_0 n_15 dX5_align_1 (fun r1 hf => ?_)
  refine v_cVP hC (y := y_X2_isZero) (ci := 2) [] [] (fun r => some (.int r)) (fun r => .int r :: []) hf (fun _ h => m_X2_isZero h) rfl (fun _ => rfl) rfl rfl hR (Nat.le_of_ble_eq_true rfl) (Nat.le_of_ble_eq_true rfl) w_273 w_290 w_271 w_272 w_59 nm_X2_isZero rfl (Nat.le_of_ble_eq_true rfl) dX5_align_4 (fun x2 hf => ?_)
  refine v_if_eq hC hf dX5_align_7 (tgt := 16) (by decide) (fun hf => ?_) (fun hf => ?_)
  · refine v_iload_n hC 2 dX5_align_16 rfl ?_
    refine v_i2l hC dX5_align_17 ?_
    refine v_aload_n hC 1 dX5_align_18 rfl ?_
    refine v_getIN hC hf fd_0_2 n_19 dX5_align_19 (fun x3 hf => ?_)
    refine v_i2l hC dX5_align_22 ?_
    refine v_lsub hC dX5_align_23 ?_
    refine v_ltL hf (fun l4 hf => ?_)
    refine v_lstore_n hC [(3, .long l4), (0, .ref a0), (1, .ref a1), (2, .int i2)] dX5_align_24 rfl hN (Nat.le_of_ble_eq_true rfl) rfl ?_
    refine v_aload_n hC 2 dX5_align_25 rfl ?_
    refine v_at 26 rfl ?_
    refine v_getRN hC hf fd_0_0 n_15 dX5_align_26 (fun r5 hf => ?_)
    refine v_cVP hC (y := y_X2_digitCount) (ci := 2) [] [] (fun r => some (.int r)) (fun r => .int r :: []) hf (fun _ h => m_X2_digitCount h) rfl (fun _ => rfl) rfl rfl hR (Nat.le_of_ble_eq_true rfl) (Nat.le_of_ble_eq_true rfl) w_235 w_232 w_233 w_234 w_59 nm_X2_digitCount rfl (Nat.le_of_ble_eq_true rfl) dX5_align_29 (fun x6 hf => ?_)
    refine v_i2l hC dX5_align_32 ?_
    refine v_lload_n hC 0 dX5_align_33 rfl ?_
    refine v_ladd hC dX5_align_34 ?_
    refine v_ldc2 hC dX5_align_35 w_295 ?_
    refine v_lcmp_le hC hf dX5_align_38 dX5_align_39 (tgt := 44) (by decide) (fun hf => ?_) (fun hf => ?_)
    · refine v_aload_n hC 1 dX5_align_44 rfl ?_
      refine v_aload_n hC 2 dX5_align_45 rfl ?_
      refine v_getRN hC hf fd_0_0 n_15 dX5_align_46 (fun r7 hf => ?_)
      refine v_lload_n hC 0 dX5_align_49 rfl ?_
      refine v_l2i hC dX5_align_50 ?_
      refine v_cVE hC (y := y_X2_raise) (ci := 2) [.ref r7, .int ((l4 : Int64).toInt32)] [] (fun _ => none) (fun _ => []) hf (fun _ _ _ _ h => m_X2_raise h) rfl (fun _ => rfl) rfl rfl hR (Nat.le_of_ble_eq_true rfl) (Nat.le_of_ble_eq_true rfl) w_299 w_296 w_297 w_298 w_59 nm_X2_raise rfl (Nat.le_of_ble_eq_true rfl) dX5_align_51 (fun _ σ8 _ _ hf => ?_)
      refine v_iconst (v := 1) hC dX5_align_54 (by decide) ?_
      exact v_retZ hC hf hE dX5_align_55
    · refine v_at 42 rfl ?_
      refine v_iconst (v := 0) hC dX5_align_42 (by decide) ?_
      exact v_retZ hC hf hE dX5_align_43
  · refine v_at 10 rfl ?_
    refine v_aload_n hC 0 dX5_align_10 rfl ?_
    refine v_cVE hC (y := y_X2_clear) (ci := 2) [] [] (fun _ => none) (fun _ => []) hf (fun _ _ _ _ h => m_X2_clear h) rfl (fun _ => rfl) rfl rfl hR (Nat.le_of_ble_eq_true rfl) (Nat.le_of_ble_eq_true rfl) w_294 w_291 w_292 w_293 w_59 nm_X2_clear rfl (Nat.le_of_ble_eq_true rfl) dX5_align_11 (fun _ σ9 _ _ hf => ?_)
    refine v_iconst (v := 1) hC dX5_align_14 (by decide) ?_
    exact v_retZ hC hf hE dX5_align_15
set_option maxHeartbeats 4000000 in
set_option maxRecDepth 100000 in
theorem m_X5_sumUp {G : Gm} {l : Launch} {σ : St} {a0 : Nat} {i1 : Int32} {i2 : Int32} {i3 : Int32} {i4 : Int32} {r : Int32} {σf : St} {k s : Nat} (hf : f_X5_sumUp σ a0 i1 i2 i3 i4 = some (r, σf, k, s)) : (∃ fs : List Value, σ.1 a0 = some (.inr (.inl (5, fs)))) ∧ Ct G l y_X5_sumUp prog_1_method_30_code 9 (some .boolean) 6 138 [.ref a0, .int i1, .int i2, .int i3, .int i4] σ (some (.int r)) σf k s := by
  unfold f_X5_sumUp at hf
  obtain ⟨hob, hf⟩ := ob_some hf
  refine ⟨hob, Ct.ofV pl_X5_sumUp (Nat.le_of_ble_eq_true rfl) ?_⟩
  intro K hR hN hnm hC hE
  show V K (k + 0) (s + 0) σ 0 [(0, .ref a0), (1, .int i1), (2, .int i2), (3, .int i3), (4, .int i4)] []
  refine v_iload_n hC 2 dX5_sumUp_0 rfl ?_
  refine v_cSP hC (y := y_X5_isRegister) [.int i2] [] (fun r => some (.int r)) (fun r => .int r :: []) hf (fun _ h => m_X5_isRegister h) rfl (fun _ => rfl) hR (Nat.le_of_ble_eq_true rfl) (Nat.le_of_ble_eq_true rfl) w_228 w_226 w_227 w_58 nm_X5_isRegister rfl (Nat.le_of_ble_eq_true rfl) dX5_sumUp_1 (fun x1 hf => ?_)
  refine v_if_eq hC hf dX5_sumUp_4 (tgt := 14) (by decide) (fun hf => ?_) (fun hf => ?_)
  · refine v_iconst (v := 0) hC dX5_sumUp_14 (by decide) ?_
    exact v_retZ hC hf hE dX5_sumUp_15
  · refine v_at 7 rfl ?_
    refine v_iload_n hC 3 dX5_sumUp_7 rfl ?_
    refine v_cSP hC (y := y_X5_isRegister) [.int i3] [] (fun r => some (.int r)) (fun r => .int r :: []) hf (fun _ h => m_X5_isRegister h) rfl (fun _ => rfl) hR (Nat.le_of_ble_eq_true rfl) (Nat.le_of_ble_eq_true rfl) w_228 w_226 w_227 w_58 nm_X5_isRegister rfl (Nat.le_of_ble_eq_true rfl) dX5_sumUp_8 (fun x2 hf => ?_)
    refine v_if_ne hC hf dX5_sumUp_11 (tgt := 16) (by decide) (fun hf => ?_) (fun hf => ?_)
    · refine v_aload_n hC 0 dX5_sumUp_16 rfl ?_
      refine v_getR hC (host := "") hf fd_5_0 w_185 dX5_sumUp_17 (fun r3 hf => ?_)
      refine v_iload_n hC 2 dX5_sumUp_20 rfl ?_
      refine v_ldA hC hf dX5_sumUp_21 (fun r4 hf => ?_)
      refine v_astore hC [(5, .ref r4), (0, .ref a0), (1, .int i1), (2, .int i2), (3, .int i3), (4, .int i4)] dX5_sumUp_22 hN (Nat.le_of_ble_eq_true rfl) rfl ?_
      refine v_aload_n hC 1 dX5_sumUp_24 rfl ?_
      refine v_getR hC (host := "") hf fd_5_0 w_185 dX5_sumUp_25 (fun r5 hf => ?_)
      refine v_iload_n hC 4 dX5_sumUp_28 rfl ?_
      refine v_at 29 rfl ?_
      refine v_ldA hC hf dX5_sumUp_29 (fun r6 hf => ?_)
      refine v_astore hC [(6, .ref r6), (5, .ref r4), (0, .ref a0), (1, .int i1), (2, .int i2), (3, .int i3), (4, .int i4)] dX5_sumUp_30 hN (Nat.le_of_ble_eq_true rfl) rfl ?_
      refine v_aload hC 1 dX5_sumUp_32 rfl ?_
      refine v_getIN hC hf fd_0_2 n_19 dX5_sumUp_34 (fun x7 hf => ?_)
      refine v_aload hC 0 dX5_sumUp_37 rfl ?_
      refine v_getIN hC hf fd_0_2 n_19 dX5_sumUp_39 (fun x8 hf => ?_)
      refine v_cSP hC (y := y_J9_max_7cf53) [.int x7, .int x8] [] (fun r => some (.int r)) (fun r => .int r :: []) hf (fun _ h => m_J9_max_7cf53 h) rfl (fun _ => rfl) hR (Nat.le_of_ble_eq_true rfl) (Nat.le_of_ble_eq_true rfl) w_252 w_286 w_251 w_65 nm_J9_max_7cf53 rfl (Nat.le_of_ble_eq_true rfl) dX5_sumUp_42 (fun x9 hf => ?_)
      refine v_istore hC [(7, .int x9), (6, .ref r6), (5, .ref r4), (0, .ref a0), (1, .int i1), (2, .int i2), (3, .int i3), (4, .int i4)] dX5_sumUp_45 hN (Nat.le_of_ble_eq_true rfl) rfl ?_
      refine v_at 47 rfl ?_
      refine v_aload_n hC 3 dX5_sumUp_47 rfl ?_
      refine v_getR hC (host := "") hf fd_5_1 w_186 dX5_sumUp_48 (fun r10 hf => ?_)
      refine v_aload hC 2 dX5_sumUp_51 rfl ?_
      refine v_iload hC 0 dX5_sumUp_53 rfl ?_
      refine v_cSE hC (y := y_X5_align) [.ref r10, .ref r4, .int x9] [] (fun r => some (.int r)) (fun r => .int r :: []) hf (fun _ _ _ _ h => m_X5_align h) rfl (fun _ => rfl) hR (Nat.le_of_ble_eq_true rfl) (Nat.le_of_ble_eq_true rfl) w_289 w_287 w_288 w_58 nm_X5_align rfl (Nat.le_of_ble_eq_true rfl) dX5_sumUp_55 (fun x11 σ12 _ _ hf => ?_)
      refine v_if_eq hC hf dX5_sumUp_58 (tgt := 75) (by decide) (fun hf => ?_) (fun hf => ?_)
      · refine v_iconst (v := 0) hC dX5_sumUp_75 (by decide) ?_
        exact v_retZ hC hf hE dX5_sumUp_76
      · refine v_at 61 rfl ?_
        refine v_aload_n hC 3 dX5_sumUp_61 rfl ?_
        refine v_getR hC (host := "") hf fd_5_3 w_188 dX5_sumUp_62 (fun r13 hf => ?_)
        refine v_aload hC 1 dX5_sumUp_65 rfl ?_
        refine v_iload hC 0 dX5_sumUp_67 rfl ?_
        refine v_cSE hC (y := y_X5_align) [.ref r13, .ref r6, .int x9] [] (fun r => some (.int r)) (fun r => .int r :: []) hf (fun _ _ _ _ h => m_X5_align h) rfl (fun _ => rfl) hR (Nat.le_of_ble_eq_true rfl) (Nat.le_of_ble_eq_true rfl) w_289 w_287 w_288 w_58 nm_X5_align rfl (Nat.le_of_ble_eq_true rfl) dX5_sumUp_69 (fun x14 σ15 _ _ hf => ?_)
        refine v_if_ne hC hf dX5_sumUp_72 (tgt := 77) (by decide) (fun hf => ?_) (fun hf => ?_)
        · refine v_aload hC 1 dX5_sumUp_77 rfl ?_
          refine v_getIN hC hf fd_0_1 n_17 dX5_sumUp_79 (fun x16 hf => ?_)
          refine v_iload hC 7 dX5_sumUp_82 rfl ?_
          refine v_jnE hf (fun z17 kr sr => V K (kr + 0) (sr + 0) σ15 92 [(0, .ref a0), (1, .int i1), (5, .ref r4), (7, .int x9)] [.int z17]) (fun z17 _ _ hf => ?_) (fun k17 hk17 hf => ?_)
          · refine v_istore hC [(8, .int z17), (0, .ref a0), (1, .int i1), (5, .ref r4), (7, .int x9)] dX5_sumUp_92 hN (Nat.le_of_ble_eq_true rfl) rfl ?_
            refine v_aload hC 3 dX5_sumUp_94 rfl ?_
            refine v_getIN hC hf fd_0_1 n_17 dX5_sumUp_96 (fun x18 hf => ?_)
            refine v_iload hC 0 dX5_sumUp_99 rfl ?_
            refine v_icmp_ne hC hf dX5_sumUp_101 (tgt := 137) (by decide) (fun hf => ?_) (fun hf => ?_)
            · refine v_aload_n hC 1 dX5_sumUp_137 rfl ?_
              refine v_getR hC (host := "") hf fd_5_1 w_186 dX5_sumUp_138 (fun r19 hf => ?_)
              refine v_aload_n hC 1 dX5_sumUp_141 rfl ?_
              refine v_getR hC (host := "") hf fd_5_3 w_188 dX5_sumUp_142 (fun r20 hf => ?_)
              refine v_cSP hC (y := y_X2_order) [.ref r19, .ref r20] [] (fun r => some (.int r)) (fun r => .int r :: []) hf (fun _ h => m_X2_order h) rfl (fun _ => rfl) hR (Nat.le_of_ble_eq_true rfl) (Nat.le_of_ble_eq_true rfl) w_315 w_313 w_314 w_59 nm_X2_order rfl (Nat.le_of_ble_eq_true rfl) dX5_sumUp_145 (fun x21 hf => ?_)
              refine v_if_lt hC hf dX5_sumUp_148 (tgt := 180) (by decide) (fun hf => ?_) (fun hf => ?_)
              · refine v_aload_n hC 1 dX5_sumUp_180 rfl ?_
                refine v_getR hC (host := "") hf fd_5_3 w_188 dX5_sumUp_181 (fun r22 hf => ?_)
                refine v_aload_n hC 1 dX5_sumUp_184 rfl ?_
                refine v_getR hC (host := "") hf fd_5_1 w_186 dX5_sumUp_185 (fun r23 hf => ?_)
                refine v_cVE hC (y := y_X2_subtract) (ci := 2) [.ref r23] [] (fun _ => none) (fun _ => []) hf (fun _ _ _ _ h => m_X2_subtract h) rfl (fun _ => rfl) rfl rfl hR (Nat.le_of_ble_eq_true rfl) (Nat.le_of_ble_eq_true rfl) w_319 w_316 w_317 w_318 w_59 nm_X2_subtract rfl (Nat.le_of_ble_eq_true rfl) dX5_sumUp_188 (fun _ σ24 _ _ hf => ?_)
                refine v_aload_n hC 1 dX5_sumUp_191 rfl ?_
                refine v_iload_n hC 2 dX5_sumUp_192 rfl ?_
                refine v_aload_n hC 1 dX5_sumUp_193 rfl ?_
                refine v_at 194 rfl ?_
                refine v_getR hC (host := "") hf fd_5_3 w_188 dX5_sumUp_194 (fun r25 hf => ?_)
                refine v_iload hC 0 dX5_sumUp_197 rfl ?_
                refine v_iload hC 4 dX5_sumUp_199 rfl ?_
                refine v_i2l hC dX5_sumUp_201 ?_
                refine v_cVE hC (y := y_X5_keep) (ci := 5) [.int i1, .ref r25, .int z17, .long ((x9 : Int32).toInt64)] [] (fun r => some (.int r)) (fun r => .int r :: []) hf (fun _ _ _ _ h => m_X5_keep h) rfl (fun _ => rfl) rfl rfl hR (Nat.le_of_ble_eq_true rfl) (Nat.le_of_ble_eq_true rfl) w_225 w_222 w_224 w_0 w_58 nm_X5_keep rfl (Nat.le_of_ble_eq_true rfl) dX5_sumUp_202 (fun x26 σ27 _ _ hf => ?_)
                exact v_retZ hC hf hE dX5_sumUp_205
              · refine v_at 151 rfl ?_
                refine v_aload_n hC 1 dX5_sumUp_151 rfl ?_
                refine v_getR hC (host := "") hf fd_5_1 w_186 dX5_sumUp_152 (fun r28 hf => ?_)
                refine v_aload_n hC 1 dX5_sumUp_155 rfl ?_
                refine v_getR hC (host := "") hf fd_5_3 w_188 dX5_sumUp_156 (fun r29 hf => ?_)
                refine v_cVE hC (y := y_X2_subtract) (ci := 2) [.ref r29] [] (fun _ => none) (fun _ => []) hf (fun _ _ _ _ h => m_X2_subtract h) rfl (fun _ => rfl) rfl rfl hR (Nat.le_of_ble_eq_true rfl) (Nat.le_of_ble_eq_true rfl) w_319 w_316 w_317 w_318 w_59 nm_X2_subtract rfl (Nat.le_of_ble_eq_true rfl) dX5_sumUp_159 (fun _ σ30 _ _ hf => ?_)
                refine v_aload_n hC 1 dX5_sumUp_162 rfl ?_
                refine v_iload_n hC 2 dX5_sumUp_163 rfl ?_
                refine v_aload_n hC 1 dX5_sumUp_164 rfl ?_
                refine v_at 165 rfl ?_
                refine v_getR hC (host := "") hf fd_5_1 w_186 dX5_sumUp_165 (fun r31 hf => ?_)
                refine v_aload hC 3 dX5_sumUp_168 rfl ?_
                refine v_getIN hC hf fd_0_1 n_17 dX5_sumUp_170 (fun x32 hf => ?_)
                refine v_iload hC 4 dX5_sumUp_173 rfl ?_
                refine v_i2l hC dX5_sumUp_175 ?_
                refine v_cVE hC (y := y_X5_keep) (ci := 5) [.int i1, .ref r31, .int x32, .long ((x9 : Int32).toInt64)] [] (fun r => some (.int r)) (fun r => .int r :: []) hf (fun _ _ _ _ h => m_X5_keep h) rfl (fun _ => rfl) rfl rfl hR (Nat.le_of_ble_eq_true rfl) (Nat.le_of_ble_eq_true rfl) w_225 w_222 w_224 w_0 w_58 nm_X5_keep rfl (Nat.le_of_ble_eq_true rfl) dX5_sumUp_176 (fun x33 σ34 _ _ hf => ?_)
                exact v_retZ hC hf hE dX5_sumUp_179
            · refine v_at 104 rfl ?_
              refine v_aload_n hC 1 dX5_sumUp_104 rfl ?_
              refine v_getR hC (host := "") hf fd_5_2 w_187 dX5_sumUp_105 (fun r35 hf => ?_)
              refine v_aload_n hC 1 dX5_sumUp_108 rfl ?_
              refine v_getR hC (host := "") hf fd_5_1 w_186 dX5_sumUp_109 (fun r36 hf => ?_)
              refine v_aload_n hC 1 dX5_sumUp_112 rfl ?_
              refine v_getR hC (host := "") hf fd_5_3 w_188 dX5_sumUp_113 (fun r37 hf => ?_)
              refine v_cVE hC (y := y_X2_becomeSum) (ci := 2) [.ref r36, .ref r37] [] (fun _ => none) (fun _ => []) hf (fun _ _ _ _ h => m_X2_becomeSum h) rfl (fun _ => rfl) rfl rfl hR (Nat.le_of_ble_eq_true rfl) (Nat.le_of_ble_eq_true rfl) w_311 w_308 w_309 w_310 w_59 nm_X2_becomeSum rfl (Nat.le_of_ble_eq_true rfl) dX5_sumUp_116 (fun _ σ38 _ _ hf => ?_)
              refine v_aload_n hC 1 dX5_sumUp_119 rfl ?_
              refine v_at 120 rfl ?_
              refine v_iload_n hC 2 dX5_sumUp_120 rfl ?_
              refine v_aload_n hC 1 dX5_sumUp_121 rfl ?_
              refine v_getR hC (host := "") hf fd_5_2 w_187 dX5_sumUp_122 (fun r39 hf => ?_)
              refine v_aload hC 3 dX5_sumUp_125 rfl ?_
              refine v_getIN hC hf fd_0_1 n_17 dX5_sumUp_127 (fun x40 hf => ?_)
              refine v_iload hC 4 dX5_sumUp_130 rfl ?_
              refine v_i2l hC dX5_sumUp_132 ?_
              refine v_cVE hC (y := y_X5_keep) (ci := 5) [.int i1, .ref r39, .int x40, .long ((x9 : Int32).toInt64)] [] (fun r => some (.int r)) (fun r => .int r :: []) hf (fun _ _ _ _ h => m_X5_keep h) rfl (fun _ => rfl) rfl rfl hR (Nat.le_of_ble_eq_true rfl) (Nat.le_of_ble_eq_true rfl) w_225 w_222 w_224 w_0 w_58 nm_X5_keep rfl (Nat.le_of_ble_eq_true rfl) dX5_sumUp_133 (fun x41 σ42 _ _ hf => ?_)
              refine v_at 136 rfl ?_
              exact v_retZ hC hf hE dX5_sumUp_136
          · refine v_icmp_eq hC hf dX5_sumUp_84 (tgt := 91) (by decide) (fun hf => ?_) (fun hf => ?_)
            · refine v_iconst (v := 0) hC dX5_sumUp_91 (by decide) ?_
              refine v_at 92 rfl ?_
              exact v_sub [(0, .ref a0), (1, .int i1), (5, .ref r4), (7, .int x9)] [3, 4, 2, 0] rfl (hk17 _ _ _ hf)
            · refine v_at 87 rfl ?_
              refine v_iconst (v := 1) hC dX5_sumUp_87 (by decide) ?_
              refine v_goto (tgt := 92) hC dX5_sumUp_88 (by decide) ?_
              exact v_sub [(0, .ref a0), (1, .int i1), (5, .ref r4), (7, .int x9)] [3, 4, 2, 0] rfl (hk17 _ _ _ hf)
        · refine v_at 75 rfl ?_
          refine v_iconst (v := 0) hC dX5_sumUp_75 (by decide) ?_
          exact v_retZ hC hf hE dX5_sumUp_76
    · refine v_at 14 rfl ?_
      refine v_iconst (v := 0) hC dX5_sumUp_14 (by decide) ?_
      exact v_retZ hC hf hE dX5_sumUp_15
set_option maxHeartbeats 4000000 in
set_option maxRecDepth 100000 in
theorem m_X5_add {G : Gm} {l : Launch} {σ : St} {a0 : Nat} {i1 : Int32} {i2 : Int32} {i3 : Int32} {r : Int32} {σf : St} {k s : Nat} (hf : f_X5_add σ a0 i1 i2 i3 = some (r, σf, k, s)) : (∃ fs : List Value, σ.1 a0 = some (.inr (.inl (5, fs)))) ∧ Ct G l y_X5_add prog_1_method_4_code 4 (some .boolean) 7 166 [.ref a0, .int i1, .int i2, .int i3] σ (some (.int r)) σf k s := by
  unfold f_X5_add at hf
  obtain ⟨hob, hf⟩ := ob_some hf
  refine ⟨hob, Ct.ofV pl_X5_add (Nat.le_of_ble_eq_true rfl) ?_⟩
  intro K hR hN hnm hC hE
  show V K (k + 0) (s + 0) σ 0 [(0, .ref a0), (1, .int i1), (2, .int i2), (3, .int i3)] []
  refine v_aload_n hC 0 dX5_add_0 rfl ?_
  refine v_iload_n hC 1 dX5_add_1 rfl ?_
  refine v_iload_n hC 2 dX5_add_2 rfl ?_
  refine v_iload_n hC 3 dX5_add_3 rfl ?_
  refine v_iconst (v := 0) hC dX5_add_4 (by decide) ?_
  refine v_cVE hC (y := y_X5_sumUp) (ci := 5) [.int i1, .int i2, .int i3, .int 0] [] (fun r => some (.int r)) (fun r => .int r :: []) hf (fun _ _ _ _ h => m_X5_sumUp h) rfl (fun _ => rfl) rfl rfl hR (Nat.le_of_ble_eq_true rfl) (Nat.le_of_ble_eq_true rfl) w_285 w_282 w_284 w_2 w_58 nm_X5_sumUp rfl (Nat.le_of_ble_eq_true rfl) dX5_add_5 (fun x1 σ2 _ _ hf => ?_)
  exact v_retZ hC hf hE dX5_add_8
set_option maxHeartbeats 4000000 in
set_option maxRecDepth 100000 in
theorem m_X5_take {G : Gm} {l : Launch} {σ : St} {a0 : Nat} {i1 : Int32} {i2 : Int32} {i3 : Int32} {r : Int32} {σf : St} {k s : Nat} (hf : f_X5_take σ a0 i1 i2 i3 = some (r, σf, k, s)) : (∃ fs : List Value, σ.1 a0 = some (.inr (.inl (5, fs)))) ∧ Ct G l y_X5_take prog_1_method_5_code 4 (some .boolean) 7 166 [.ref a0, .int i1, .int i2, .int i3] σ (some (.int r)) σf k s := by
  unfold f_X5_take at hf
  obtain ⟨hob, hf⟩ := ob_some hf
  refine ⟨hob, Ct.ofV pl_X5_take (Nat.le_of_ble_eq_true rfl) ?_⟩
  intro K hR hN hnm hC hE
  show V K (k + 0) (s + 0) σ 0 [(0, .ref a0), (1, .int i1), (2, .int i2), (3, .int i3)] []
  refine v_aload_n hC 0 dX5_take_0 rfl ?_
  refine v_iload_n hC 1 dX5_take_1 rfl ?_
  refine v_iload_n hC 2 dX5_take_2 rfl ?_
  refine v_iload_n hC 3 dX5_take_3 rfl ?_
  refine v_iconst (v := 1) hC dX5_take_4 (by decide) ?_
  refine v_cVE hC (y := y_X5_sumUp) (ci := 5) [.int i1, .int i2, .int i3, .int 1] [] (fun r => some (.int r)) (fun r => .int r :: []) hf (fun _ _ _ _ h => m_X5_sumUp h) rfl (fun _ => rfl) rfl rfl hR (Nat.le_of_ble_eq_true rfl) (Nat.le_of_ble_eq_true rfl) w_285 w_282 w_284 w_2 w_58 nm_X5_sumUp rfl (Nat.le_of_ble_eq_true rfl) dX5_take_5 (fun x1 σ2 _ _ hf => ?_)
  exact v_retZ hC hf hE dX5_take_8
set_option maxHeartbeats 4000000 in
set_option maxRecDepth 100000 in
theorem m_X5_multiply {G : Gm} {l : Launch} {σ : St} {a0 : Nat} {a1 : Nat} {a2 : Nat} {r : Int32} {σf : St} {k s : Nat} (hf : f_X5_multiply σ a0 a1 a2 = some (r, σf, k, s)) : Ct G l y_X5_multiply prog_1_method_32_code 3 (some .boolean) 4 93 [.ref a0, .ref a1, .ref a2] σ (some (.int r)) σf k s := by
  unfold f_X5_multiply at hf
  refine Ct.ofV pl_X5_multiply (Nat.le_of_ble_eq_true rfl) ?_
  intro K hR hN hnm hC hE
  show V K (k + 0) (s + 0) σ 0 [(0, .ref a0), (1, .ref a1), (2, .ref a2)] []
  refine v_aload_n hC 1 dX5_multiply_0 rfl ?_
  refine v_cVP hC (y := y_X2_isZero) (ci := 2) [] [] (fun r => some (.int r)) (fun r => .int r :: []) hf (fun _ h => m_X2_isZero h) rfl (fun _ => rfl) rfl rfl hR (Nat.le_of_ble_eq_true rfl) (Nat.le_of_ble_eq_true rfl) w_273 w_290 w_271 w_272 w_59 nm_X2_isZero rfl (Nat.le_of_ble_eq_true rfl) dX5_multiply_1 (fun x1 hf => ?_)
  refine v_jnE hf (fun z2 kr sr => V K (kr + 0) (sr + 0) σ 33 [(0, .ref a0), (1, .ref a1), (2, .ref a2)] []) (fun z2 _ _ hf => ?_) (fun k2 hk2 hf => ?_)
  · refine v_aload_n hC 0 dX5_multiply_33 rfl ?_
    refine v_aload_n hC 1 dX5_multiply_34 rfl ?_
    refine v_aload_n hC 2 dX5_multiply_35 rfl ?_
    refine v_cVE hC (y := y_X2_becomeProduct) (ci := 2) [.ref a1, .ref a2] [] (fun _ => none) (fun _ => []) hf (fun _ _ _ _ h => m_X2_becomeProduct h) rfl (fun _ => rfl) rfl rfl hR (Nat.le_of_ble_eq_true rfl) (Nat.le_of_ble_eq_true rfl) w_334 w_331 w_332 w_333 w_59 nm_X2_becomeProduct rfl (Nat.le_of_ble_eq_true rfl) dX5_multiply_36 (fun _ σ3 _ _ hf => ?_)
    refine v_iconst (v := 1) hC dX5_multiply_39 (by decide) ?_
    exact v_retZ hC hf hE dX5_multiply_40
  · refine v_if_ne hC hf dX5_multiply_4 (tgt := 33) (by decide) (fun hf => ?_) (fun hf => ?_)
    · exact v_sub [(0, .ref a0), (1, .ref a1), (2, .ref a2)] [0, 1, 2] rfl (hk2 _ _ _ hf)
    · refine v_at 7 rfl ?_
      refine v_aload_n hC 2 dX5_multiply_7 rfl ?_
      refine v_cVP hC (y := y_X2_isZero) (ci := 2) [] [] (fun r => some (.int r)) (fun r => .int r :: []) hf (fun _ h => m_X2_isZero h) rfl (fun _ => rfl) rfl rfl hR (Nat.le_of_ble_eq_true rfl) (Nat.le_of_ble_eq_true rfl) w_273 w_290 w_271 w_272 w_59 nm_X2_isZero rfl (Nat.le_of_ble_eq_true rfl) dX5_multiply_8 (fun x4 hf => ?_)
      refine v_if_ne hC hf dX5_multiply_11 (tgt := 33) (by decide) (fun hf => ?_) (fun hf => ?_)
      · exact v_sub [(0, .ref a0), (1, .ref a1), (2, .ref a2)] [0, 1, 2] rfl (hk2 _ _ _ hf)
      · refine v_at 14 rfl ?_
        refine v_aload_n hC 1 dX5_multiply_14 rfl ?_
        refine v_cVP hC (y := y_X2_digitCount) (ci := 2) [] [] (fun r => some (.int r)) (fun r => .int r :: []) hf (fun _ h => m_X2_digitCount h) rfl (fun _ => rfl) rfl rfl hR (Nat.le_of_ble_eq_true rfl) (Nat.le_of_ble_eq_true rfl) w_235 w_232 w_233 w_234 w_59 nm_X2_digitCount rfl (Nat.le_of_ble_eq_true rfl) dX5_multiply_15 (fun x5 hf => ?_)
        refine v_aload_n hC 2 dX5_multiply_18 rfl ?_
        refine v_cVP hC (y := y_X2_digitCount) (ci := 2) [] [.int x5] (fun r => some (.int r)) (fun r => .int r :: [.int x5]) hf (fun _ h => m_X2_digitCount h) rfl (fun _ => rfl) rfl rfl hR (Nat.le_of_ble_eq_true rfl) (Nat.le_of_ble_eq_true rfl) w_235 w_232 w_233 w_234 w_59 nm_X2_digitCount rfl (Nat.le_of_ble_eq_true rfl) dX5_multiply_19 (fun x6 hf => ?_)
        refine v_iadd hC dX5_multiply_22 ?_
        refine v_iconst (v := 1) hC dX5_multiply_23 (by decide) ?_
        refine v_isub hC dX5_multiply_24 ?_
        refine v_sipush (v := 4096) hC dX5_multiply_25 (by decide) ?_
        refine v_at 28 rfl ?_
        refine v_icmp_le hC hf dX5_multiply_28 (tgt := 33) (by decide) (fun hf => ?_) (fun hf => ?_)
        · exact v_sub [(0, .ref a0), (1, .ref a1), (2, .ref a2)] [0, 1, 2] rfl (hk2 _ _ _ hf)
        · refine v_at 31 rfl ?_
          refine v_iconst (v := 0) hC dX5_multiply_31 (by decide) ?_
          exact v_retZ hC hf hE dX5_multiply_32
set_option maxHeartbeats 4000000 in
set_option maxRecDepth 100000 in
theorem m_X5_times {G : Gm} {l : Launch} {σ : St} {a0 : Nat} {i1 : Int32} {i2 : Int32} {i3 : Int32} {r : Int32} {σf : St} {k s : Nat} (hf : f_X5_times σ a0 i1 i2 i3 = some (r, σf, k, s)) : (∃ fs : List Value, σ.1 a0 = some (.inr (.inl (5, fs)))) ∧ Ct G l y_X5_times prog_1_method_6_code 6 (some .boolean) 6 138 [.ref a0, .int i1, .int i2, .int i3] σ (some (.int r)) σf k s := by
  unfold f_X5_times at hf
  obtain ⟨hob, hf⟩ := ob_some hf
  refine ⟨hob, Ct.ofV pl_X5_times (Nat.le_of_ble_eq_true rfl) ?_⟩
  intro K hR hN hnm hC hE
  show V K (k + 0) (s + 0) σ 0 [(0, .ref a0), (1, .int i1), (2, .int i2), (3, .int i3)] []
  refine v_iload_n hC 2 dX5_times_0 rfl ?_
  refine v_cSP hC (y := y_X5_isRegister) [.int i2] [] (fun r => some (.int r)) (fun r => .int r :: []) hf (fun _ h => m_X5_isRegister h) rfl (fun _ => rfl) hR (Nat.le_of_ble_eq_true rfl) (Nat.le_of_ble_eq_true rfl) w_228 w_226 w_227 w_58 nm_X5_isRegister rfl (Nat.le_of_ble_eq_true rfl) dX5_times_1 (fun x1 hf => ?_)
  refine v_if_eq hC hf dX5_times_4 (tgt := 14) (by decide) (fun hf => ?_) (fun hf => ?_)
  · refine v_iconst (v := 0) hC dX5_times_14 (by decide) ?_
    exact v_retZ hC hf hE dX5_times_15
  · refine v_at 7 rfl ?_
    refine v_iload_n hC 3 dX5_times_7 rfl ?_
    refine v_cSP hC (y := y_X5_isRegister) [.int i3] [] (fun r => some (.int r)) (fun r => .int r :: []) hf (fun _ h => m_X5_isRegister h) rfl (fun _ => rfl) hR (Nat.le_of_ble_eq_true rfl) (Nat.le_of_ble_eq_true rfl) w_228 w_226 w_227 w_58 nm_X5_isRegister rfl (Nat.le_of_ble_eq_true rfl) dX5_times_8 (fun x2 hf => ?_)
    refine v_if_ne hC hf dX5_times_11 (tgt := 16) (by decide) (fun hf => ?_) (fun hf => ?_)
    · refine v_aload_n hC 0 dX5_times_16 rfl ?_
      refine v_getR hC (host := "") hf fd_5_0 w_185 dX5_times_17 (fun r3 hf => ?_)
      refine v_iload_n hC 2 dX5_times_20 rfl ?_
      refine v_ldA hC hf dX5_times_21 (fun r4 hf => ?_)
      refine v_astore hC [(4, .ref r4), (0, .ref a0), (1, .int i1), (2, .int i2), (3, .int i3)] dX5_times_22 hN (Nat.le_of_ble_eq_true rfl) rfl ?_
      refine v_aload_n hC 1 dX5_times_24 rfl ?_
      refine v_getR hC (host := "") hf fd_5_0 w_185 dX5_times_25 (fun r5 hf => ?_)
      refine v_iload_n hC 4 dX5_times_28 rfl ?_
      refine v_at 29 rfl ?_
      refine v_ldA hC hf dX5_times_29 (fun r6 hf => ?_)
      refine v_astore hC [(5, .ref r6), (4, .ref r4), (0, .ref a0), (1, .int i1), (2, .int i2), (3, .int i3)] dX5_times_30 hN (Nat.le_of_ble_eq_true rfl) rfl ?_
      refine v_aload_n hC 2 dX5_times_32 rfl ?_
      refine v_getR hC (host := "") hf fd_5_1 w_186 dX5_times_33 (fun r7 hf => ?_)
      refine v_aload hC 1 dX5_times_36 rfl ?_
      refine v_getRN hC hf fd_0_0 n_15 dX5_times_38 (fun r8 hf => ?_)
      refine v_aload hC 0 dX5_times_41 rfl ?_
      refine v_getRN hC hf fd_0_0 n_15 dX5_times_43 (fun r9 hf => ?_)
      refine v_at 46 rfl ?_
      refine v_cSE hC (y := y_X5_multiply) [.ref r7, .ref r8, .ref r9] [] (fun r => some (.int r)) (fun r => .int r :: []) hf (fun _ _ _ _ h => m_X5_multiply h) rfl (fun _ => rfl) hR (Nat.le_of_ble_eq_true rfl) (Nat.le_of_ble_eq_true rfl) w_330 w_328 w_329 w_58 nm_X5_multiply rfl (Nat.le_of_ble_eq_true rfl) dX5_times_46 (fun x10 σ11 _ _ hf => ?_)
      refine v_if_ne hC hf dX5_times_49 (tgt := 54) (by decide) (fun hf => ?_) (fun hf => ?_)
      · refine v_aload_n hC 2 dX5_times_54 rfl ?_
        refine v_iload_n hC 3 dX5_times_55 rfl ?_
        refine v_aload_n hC 2 dX5_times_56 rfl ?_
        refine v_getR hC (host := "") hf fd_5_1 w_186 dX5_times_57 (fun r12 hf => ?_)
        refine v_aload hC 1 dX5_times_60 rfl ?_
        refine v_getIN hC hf fd_0_1 n_17 dX5_times_62 (fun x13 hf => ?_)
        refine v_aload hC 0 dX5_times_65 rfl ?_
        refine v_getIN hC hf fd_0_1 n_17 dX5_times_67 (fun x14 hf => ?_)
        refine v_at 70 rfl ?_
        refine v_jnE hf (fun z15 kr sr => V K (kr + 0) (sr + 0) σ11 78 [(4, .ref r4), (5, .ref r6)] [.int z15, .ref r12, .int i1, .ref a0]) (fun z15 _ _ hf => ?_) (fun k15 hk15 hf => ?_)
        · refine v_aload hC 0 dX5_times_78 rfl ?_
          refine v_getIN hC hf fd_0_2 n_19 dX5_times_80 (fun x16 hf => ?_)
          refine v_i2l hC dX5_times_83 ?_
          refine v_aload hC 1 dX5_times_84 rfl ?_
          refine v_getIN hC hf fd_0_2 n_19 dX5_times_86 (fun x17 hf => ?_)
          refine v_i2l hC dX5_times_89 ?_
          refine v_ladd hC dX5_times_90 ?_
          refine v_cVE hC (y := y_X5_keep) (ci := 5) [.int i1, .ref r12, .int z15, .long (((x16 : Int32).toInt64) + ((x17 : Int32).toInt64))] [] (fun r => some (.int r)) (fun r => .int r :: []) hf (fun _ _ _ _ h => m_X5_keep h) rfl (fun _ => rfl) rfl rfl hR (Nat.le_of_ble_eq_true rfl) (Nat.le_of_ble_eq_true rfl) w_225 w_222 w_224 w_0 w_58 nm_X5_keep rfl (Nat.le_of_ble_eq_true rfl) dX5_times_91 (fun x18 σ19 _ _ hf => ?_)
          refine v_at 94 rfl ?_
          exact v_retZ hC hf hE dX5_times_94
        · refine v_icmp_eq hC hf dX5_times_70 (tgt := 77) (by decide) (fun hf => ?_) (fun hf => ?_)
          · refine v_iconst (v := 0) hC dX5_times_77 (by decide) ?_
            refine v_at 78 rfl ?_
            exact v_sub [(4, .ref r4), (5, .ref r6)] [1, 0] rfl (hk15 _ _ _ hf)
          · refine v_at 73 rfl ?_
            refine v_iconst (v := 1) hC dX5_times_73 (by decide) ?_
            refine v_goto (tgt := 78) hC dX5_times_74 (by decide) ?_
            exact v_sub [(4, .ref r4), (5, .ref r6)] [1, 0] rfl (hk15 _ _ _ hf)
      · refine v_at 52 rfl ?_
        refine v_iconst (v := 0) hC dX5_times_52 (by decide) ?_
        exact v_retZ hC hf hE dX5_times_53
    · refine v_at 14 rfl ?_
      refine v_iconst (v := 0) hC dX5_times_14 (by decide) ?_
      exact v_retZ hC hf hE dX5_times_15
set_option maxHeartbeats 4000000 in
set_option maxRecDepth 100000 in
theorem m_J6_numberOfLeadingZeros_0f7a4 {G : Gm} {l : Launch} {σ : St} {i0 : Int32} {r : Int32} (hf : f_J6_numberOfLeadingZeros_0f7a4 σ i0 = some r) : Ct G l y_J6_numberOfLeadingZeros_0f7a4 prog_10_method_47_code 2 (some .int) 0 0 [.int i0] σ (some (.int r)) σ 0 0 := by
  unfold f_J6_numberOfLeadingZeros_0f7a4 at hf
  refine Ct.ofV pl_J6_numberOfLeadingZeros_0f7a4 (Nat.le_of_ble_eq_true rfl) ?_
  intro K hR hN hnm hC hE
  show V K 0 0 σ 0 [(0, .int i0)] []
  refine v_iload_n hC 0 dJ6_numberOfLeadingZeros_0f7a4_0 rfl ?_
  refine v_if_gt hC hf dJ6_numberOfLeadingZeros_0f7a4_1 (tgt := 15) (by decide) (fun hf => ?_) (fun hf => ?_)
  · refine v_bipush (v := 31) hC dJ6_numberOfLeadingZeros_0f7a4_15 (by decide) ?_
    refine v_istore_n hC [(1, .int 31), (0, .int i0)] dJ6_numberOfLeadingZeros_0f7a4_17 rfl hN (Nat.le_of_ble_eq_true rfl) rfl ?_
    refine v_iload_n hC 1 dJ6_numberOfLeadingZeros_0f7a4_18 rfl ?_
    refine v_ldcw hC dJ6_numberOfLeadingZeros_0f7a4_19 w_356 ?_
    refine v_jnP hf (fun z1 => V K 0 0 σ 33 [(0, .int z1.1), (1, .int z1.2)] []) (fun z1 hf => ?_) (fun k1 hk1 hf => ?_)
    · refine v_iload_n hC 0 dJ6_numberOfLeadingZeros_0f7a4_33 rfl ?_
      refine v_sipush (v := 256) hC dJ6_numberOfLeadingZeros_0f7a4_34 (by decide) ?_
      refine v_jnP hf (fun z2 => V K 0 0 σ 48 [(0, .int z2.1), (1, .int z2.2)] []) (fun z2 hf => ?_) (fun k2 hk2 hf => ?_)
      · refine v_iload_n hC 0 dJ6_numberOfLeadingZeros_0f7a4_48 rfl ?_
        refine v_bipush (v := 16) hC dJ6_numberOfLeadingZeros_0f7a4_49 (by decide) ?_
        refine v_jnP hf (fun z3 => V K 0 0 σ 61 [(0, .int z3.1), (1, .int z3.2)] []) (fun z3 hf => ?_) (fun k3 hk3 hf => ?_)
        · refine v_iload_n hC 0 dJ6_numberOfLeadingZeros_0f7a4_61 rfl ?_
          refine v_iconst (v := 4) hC dJ6_numberOfLeadingZeros_0f7a4_62 (by decide) ?_
          refine v_jnP hf (fun z4 => V K 0 0 σ 73 [(0, .int z4.1), (1, .int z4.2)] []) (fun z4 hf => ?_) (fun k4 hk4 hf => ?_)
          · refine v_iload_n hC 1 dJ6_numberOfLeadingZeros_0f7a4_73 rfl ?_
            refine v_iload_n hC 0 dJ6_numberOfLeadingZeros_0f7a4_74 rfl ?_
            refine v_iconst (v := 1) hC dJ6_numberOfLeadingZeros_0f7a4_75 (by decide) ?_
            refine v_iushr hC dJ6_numberOfLeadingZeros_0f7a4_76 ?_
            refine v_isub hC dJ6_numberOfLeadingZeros_0f7a4_77 ?_
            exact v_retIP hC hf hE dJ6_numberOfLeadingZeros_0f7a4_78
          · refine v_icmp_lt hC hf dJ6_numberOfLeadingZeros_0f7a4_63 (tgt := 73) (by decide) (fun hf => ?_) (fun hf => ?_)
            · exact v_sub [(0, .int z3.1), (1, .int z3.2)] [0, 1] rfl (hk4 _ hf)
            · refine v_at 66 rfl ?_
              refine v_incL hC hf 1 (fun x5 => [(1, .int x5), (0, .int z3.1)]) dJ6_numberOfLeadingZeros_0f7a4_66 rfl (by decide) hN (Nat.le_of_ble_eq_true rfl) (fun _ => rfl) (fun x5 hf => ?_)
              refine v_iload_n hC 1 dJ6_numberOfLeadingZeros_0f7a4_69 rfl ?_
              refine v_iconst (v := 2) hC dJ6_numberOfLeadingZeros_0f7a4_70 (by decide) ?_
              refine v_iushr hC dJ6_numberOfLeadingZeros_0f7a4_71 ?_
              refine v_ltI hf (fun x6 hf => ?_)
              refine v_istore_n hC [(0, .int x6), (1, .int x5)] dJ6_numberOfLeadingZeros_0f7a4_72 rfl hN (Nat.le_of_ble_eq_true rfl) rfl ?_
              refine v_at 73 rfl ?_
              exact v_sub [(0, .int x6), (1, .int x5)] [0, 1] rfl (hk4 _ hf)
        · refine v_icmp_lt hC hf dJ6_numberOfLeadingZeros_0f7a4_51 (tgt := 61) (by decide) (fun hf => ?_) (fun hf => ?_)
          · exact v_sub [(0, .int z2.1), (1, .int z2.2)] [0, 1] rfl (hk3 _ hf)
          · refine v_at 54 rfl ?_
            refine v_incL hC hf 1 (fun x7 => [(1, .int x7), (0, .int z2.1)]) dJ6_numberOfLeadingZeros_0f7a4_54 rfl (by decide) hN (Nat.le_of_ble_eq_true rfl) (fun _ => rfl) (fun x7 hf => ?_)
            refine v_iload_n hC 1 dJ6_numberOfLeadingZeros_0f7a4_57 rfl ?_
            refine v_iconst (v := 4) hC dJ6_numberOfLeadingZeros_0f7a4_58 (by decide) ?_
            refine v_iushr hC dJ6_numberOfLeadingZeros_0f7a4_59 ?_
            refine v_ltI hf (fun x8 hf => ?_)
            refine v_istore_n hC [(0, .int x8), (1, .int x7)] dJ6_numberOfLeadingZeros_0f7a4_60 rfl hN (Nat.le_of_ble_eq_true rfl) rfl ?_
            refine v_at 61 rfl ?_
            exact v_sub [(0, .int x8), (1, .int x7)] [0, 1] rfl (hk3 _ hf)
      · refine v_icmp_lt hC hf dJ6_numberOfLeadingZeros_0f7a4_37 (tgt := 48) (by decide) (fun hf => ?_) (fun hf => ?_)
        · exact v_sub [(0, .int z1.1), (1, .int z1.2)] [0, 1] rfl (hk2 _ hf)
        · refine v_at 40 rfl ?_
          refine v_incL hC hf 1 (fun x9 => [(1, .int x9), (0, .int z1.1)]) dJ6_numberOfLeadingZeros_0f7a4_40 rfl (by decide) hN (Nat.le_of_ble_eq_true rfl) (fun _ => rfl) (fun x9 hf => ?_)
          refine v_iload_n hC 1 dJ6_numberOfLeadingZeros_0f7a4_43 rfl ?_
          refine v_bipush (v := 8) hC dJ6_numberOfLeadingZeros_0f7a4_44 (by decide) ?_
          refine v_iushr hC dJ6_numberOfLeadingZeros_0f7a4_46 ?_
          refine v_ltI hf (fun x10 hf => ?_)
          refine v_istore_n hC [(0, .int x10), (1, .int x9)] dJ6_numberOfLeadingZeros_0f7a4_47 rfl hN (Nat.le_of_ble_eq_true rfl) rfl ?_
          refine v_at 48 rfl ?_
          exact v_sub [(0, .int x10), (1, .int x9)] [0, 1] rfl (hk2 _ hf)
    · refine v_icmp_lt hC hf dJ6_numberOfLeadingZeros_0f7a4_22 (tgt := 33) (by decide) (fun hf => ?_) (fun hf => ?_)
      · exact v_sub [(0, .int i0), (1, .int 31)] [1, 0] rfl (hk1 _ hf)
      · refine v_at 25 rfl ?_
        refine v_incL hC hf 0 (fun x11 => [(1, .int x11), (0, .int i0)]) dJ6_numberOfLeadingZeros_0f7a4_25 rfl (by decide) hN (Nat.le_of_ble_eq_true rfl) (fun _ => rfl) (fun x11 hf => ?_)
        refine v_iload_n hC 1 dJ6_numberOfLeadingZeros_0f7a4_28 rfl ?_
        refine v_bipush (v := 16) hC dJ6_numberOfLeadingZeros_0f7a4_29 (by decide) ?_
        refine v_iushr hC dJ6_numberOfLeadingZeros_0f7a4_31 ?_
        refine v_ltI hf (fun x12 hf => ?_)
        refine v_istore_n hC [(0, .int x12), (1, .int x11)] dJ6_numberOfLeadingZeros_0f7a4_32 rfl hN (Nat.le_of_ble_eq_true rfl) rfl ?_
        refine v_at 33 rfl ?_
        exact v_sub [(0, .int x12), (1, .int x11)] [0, 1] rfl (hk1 _ hf)
  · refine v_at 4 rfl ?_
    refine v_iload_n hC 0 dJ6_numberOfLeadingZeros_0f7a4_4 rfl ?_
    refine v_if_ne hC hf dJ6_numberOfLeadingZeros_0f7a4_5 (tgt := 13) (by decide) (fun hf => ?_) (fun hf => ?_)
    · refine v_iconst (v := 0) hC dJ6_numberOfLeadingZeros_0f7a4_13 (by decide) ?_
      exact v_retIP hC hf hE dJ6_numberOfLeadingZeros_0f7a4_14
    · refine v_at 8 rfl ?_
      refine v_bipush (v := 32) hC dJ6_numberOfLeadingZeros_0f7a4_8 (by decide) ?_
      refine v_goto (tgt := 14) hC dJ6_numberOfLeadingZeros_0f7a4_10 (by decide) ?_
      exact v_retIP hC hf hE dJ6_numberOfLeadingZeros_0f7a4_14
def E_X5_keepPower_L46 (K : Cq) (a0 : Nat) (i1 : Int32) (i4 : Int32) (j5 : Int64) (y : (Unit) ⊕ (Unit) ⊕ (Nat)) (σ : St) (kr sr : Nat) : Prop := match y with
  | .inl z => V K kr sr σ 63 [] []
  | .inr (.inl z) => V K kr sr σ 97 [] []
  | .inr (.inr z) => V K kr sr σ 117 [(0, .ref a0), (1, .int i1), (4, .int i4), (5, .long j5), (7, .ref z)] []
set_option maxHeartbeats 4000000 in
set_option maxRecDepth 100000 in
theorem v_X5_keepPower_L46 {K : Cq} {k0 s0 : Nat} (hC : Cx K prog_1_method_33_code "TensMill") (hR : kR K = rmF 6 138 k0 s0) (hN : kn K = 12) {ko so : Nat} : ∀ (n : Nat) (σ : St) (a0 : Nat) (i1 : Int32) (a2 : Nat) (i3 : Int32) (i4 : Int32) (j5 : Int64) (a7 : Nat) (a8 : Nat) (i9 : Int32) (y : (Unit) ⊕ (Unit) ⊕ (Nat)) (σf : St) (kr sr : Nat), f_X5_keepPower_L46 n σ a0 i1 a2 i3 i4 j5 a7 a8 i9 = some (y, σf, kr, sr) → E_X5_keepPower_L46 K a0 i1 i4 j5 y σf ko so → V K (kr + ko) (sr + so) σ 46 [(0, .ref a0), (1, .int i1), (2, .ref a2), (3, .int i3), (4, .int i4), (5, .long j5), (7, .ref a7), (8, .ref a8), (9, .int i9)] [] := by
  intro n
  induction n with
  | zero =>
    intro σ a0 i1 a2 i3 i4 j5 a7 a8 i9 y σf kr sr hf hE
    cases hf
  | succ n ih =>
    intro σ a0 i1 a2 i3 i4 j5 a7 a8 i9 y σf kr sr hf hE
    replace hf : b_X5_keepPower_L46 (f_X5_keepPower_L46 n) σ a0 i1 a2 i3 i4 j5 a7 a8 i9 = some (y, σf, kr, sr) := hf
    unfold b_X5_keepPower_L46 at hf
    refine v_iload hC 8 dX5_keepPower_46 rfl ?_
    refine v_if_lt hC hf dX5_keepPower_48 (tgt := 117) (by decide) (fun hf => ?_) (fun hf => ?_)
    · obtain ⟨hX, e1, e2⟩ := v_exE (E := E_X5_keepPower_L46 K a0 i1 i4 j5) hf hE
      rw [e1, e2]
      exact v_sub [(0, .ref a0), (1, .int i1), (4, .int i4), (5, .long j5), (7, .ref a7)] [0, 1, 4, 5, 6] rfl hX
    · refine v_at 51 rfl ?_
      refine v_aload hC 7 dX5_keepPower_51 rfl ?_
      refine v_aload hC 6 dX5_keepPower_53 rfl ?_
      refine v_aload hC 6 dX5_keepPower_55 rfl ?_
      refine v_cSE hC (y := y_X5_multiply) [.ref a8, .ref a7, .ref a7] [] (fun r => some (.int r)) (fun r => .int r :: []) hf (fun _ _ _ _ h => m_X5_multiply h) rfl (fun _ => rfl) hR (Nat.le_of_ble_eq_true rfl) (Nat.le_of_ble_eq_true rfl) w_330 w_328 w_329 w_58 nm_X5_multiply rfl (Nat.le_of_ble_eq_true rfl) dX5_keepPower_57 (fun x7 σ8 _ _ hf => ?_)
      refine v_if_ne hC hf dX5_keepPower_60 (tgt := 65) (by decide) (fun hf => ?_) (fun hf => ?_)
      · refine v_aload hC 7 dX5_keepPower_65 rfl ?_
        refine v_astore hC [(10, .ref a8), (0, .ref a0), (1, .int i1), (2, .ref a2), (3, .int i3), (4, .int i4), (5, .long j5), (7, .ref a7), (8, .ref a8), (9, .int i9)] dX5_keepPower_67 hN (Nat.le_of_ble_eq_true rfl) rfl ?_
        refine v_aload hC 7 dX5_keepPower_69 rfl ?_
        refine v_astore hC [(8, .ref a7), (10, .ref a8), (0, .ref a0), (1, .int i1), (2, .ref a2), (3, .int i3), (4, .int i4), (5, .long j5), (7, .ref a7), (9, .int i9)] dX5_keepPower_71 hN (Nat.le_of_ble_eq_true rfl) rfl ?_
        refine v_aload hC 1 dX5_keepPower_73 rfl ?_
        refine v_astore hC [(7, .ref a8), (8, .ref a7), (10, .ref a8), (0, .ref a0), (1, .int i1), (2, .ref a2), (3, .int i3), (4, .int i4), (5, .long j5), (9, .int i9)] dX5_keepPower_75 hN (Nat.le_of_ble_eq_true rfl) rfl ?_
        refine v_iload_n hC 6 dX5_keepPower_77 rfl ?_
        refine v_iload hC 9 dX5_keepPower_78 rfl ?_
        refine v_at 80 rfl ?_
        refine v_ishr hC dX5_keepPower_80 ?_
        refine v_iconst (v := 1) hC dX5_keepPower_81 (by decide) ?_
        refine v_iand hC dX5_keepPower_82 ?_
        refine v_jnE hf (fun z9 kr sr => V K (kr + ko) (sr + so) z9.2.2 111 [(0, .ref a0), (1, .int i1), (2, .ref a2), (3, .int i3), (4, .int i4), (5, .long j5), (7, .ref z9.1), (8, .ref z9.2.1), (9, .int i9)] []) (fun z9 _ _ hf => ?_) (fun k9 hk9 hf => ?_)
        · refine v_incL hC hf 8 (fun x10 => [(9, .int x10), (0, .ref a0), (1, .int i1), (2, .ref a2), (3, .int i3), (4, .int i4), (5, .long j5), (7, .ref z9.1), (8, .ref z9.2.1)]) dX5_keepPower_111 rfl (by decide) hN (Nat.le_of_ble_eq_true rfl) (fun _ => rfl) (fun x10 hf => ?_)
          refine v_goto (tgt := 46) hC dX5_keepPower_114 (by decide) ?_
          exact v_sub [(0, .ref a0), (1, .int i1), (2, .ref a2), (3, .int i3), (4, .int i4), (5, .long j5), (7, .ref z9.1), (8, .ref z9.2.1), (9, .int x10)] [1, 2, 3, 4, 5, 6, 7, 8, 0] rfl (ih _ _ _ _ _ _ _ _ _ _ _ _ _ _ hf hE)
        · refine v_if_eq hC hf dX5_keepPower_83 (tgt := 111) (by decide) (fun hf => ?_) (fun hf => ?_)
          · exact v_sub [(0, .ref a0), (1, .int i1), (2, .ref a2), (3, .int i3), (4, .int i4), (5, .long j5), (7, .ref a8), (8, .ref a7), (9, .int i9)] [3, 4, 5, 6, 7, 8, 0, 1, 9] rfl (hk9 _ _ _ hf)
          · refine v_at 86 rfl ?_
            refine v_aload hC 1 dX5_keepPower_86 rfl ?_
            refine v_aload hC 0 dX5_keepPower_88 rfl ?_
            refine v_aload_n hC 5 dX5_keepPower_90 rfl ?_
            refine v_cSE hC (y := y_X5_multiply) [.ref a7, .ref a8, .ref a2] [] (fun r => some (.int r)) (fun r => .int r :: []) hf (fun _ _ _ _ h => m_X5_multiply h) rfl (fun _ => rfl) hR (Nat.le_of_ble_eq_true rfl) (Nat.le_of_ble_eq_true rfl) w_330 w_328 w_329 w_58 nm_X5_multiply rfl (Nat.le_of_ble_eq_true rfl) dX5_keepPower_91 (fun x11 σ12 _ _ hf => ?_)
            refine v_if_ne hC hf dX5_keepPower_94 (tgt := 99) (by decide) (fun hf => ?_) (fun hf => ?_)
            · refine v_aload hC 1 dX5_keepPower_99 rfl ?_
              refine v_astore hC [(11, .ref a7), (7, .ref a8), (8, .ref a7), (10, .ref a8), (0, .ref a0), (1, .int i1), (2, .ref a2), (3, .int i3), (4, .int i4), (5, .long j5), (9, .int i9)] dX5_keepPower_101 hN (Nat.le_of_ble_eq_true rfl) rfl ?_
              refine v_aload hC 1 dX5_keepPower_103 rfl ?_
              refine v_astore hC [(8, .ref a8), (11, .ref a7), (7, .ref a8), (10, .ref a8), (0, .ref a0), (1, .int i1), (2, .ref a2), (3, .int i3), (4, .int i4), (5, .long j5), (9, .int i9)] dX5_keepPower_105 hN (Nat.le_of_ble_eq_true rfl) rfl ?_
              refine v_aload hC 1 dX5_keepPower_107 rfl ?_
              refine v_astore hC [(7, .ref a7), (8, .ref a8), (11, .ref a7), (10, .ref a8), (0, .ref a0), (1, .int i1), (2, .ref a2), (3, .int i3), (4, .int i4), (5, .long j5), (9, .int i9)] dX5_keepPower_109 hN (Nat.le_of_ble_eq_true rfl) rfl ?_
              refine v_at 111 rfl ?_
              exact v_sub [(0, .ref a0), (1, .int i1), (2, .ref a2), (3, .int i3), (4, .int i4), (5, .long j5), (7, .ref a7), (8, .ref a8), (9, .int i9)] [4, 5, 6, 7, 8, 9, 0, 1, 10] rfl (hk9 _ _ _ hf)
            · refine v_at 97 rfl ?_
              obtain ⟨hX, e1, e2⟩ := v_exE (E := E_X5_keepPower_L46 K a0 i1 i4 j5) hf hE
              rw [e1, e2]
              exact v_sub [] [] rfl hX
      · refine v_at 63 rfl ?_
        obtain ⟨hX, e1, e2⟩ := v_exE (E := E_X5_keepPower_L46 K a0 i1 i4 j5) hf hE
        rw [e1, e2]
        exact v_sub [] [] rfl hX
set_option maxHeartbeats 4000000 in
set_option maxRecDepth 100000 in
theorem m_X5_keepPower {G : Gm} {l : Launch} {σ : St} {a0 : Nat} {i1 : Int32} {a2 : Nat} {i3 : Int32} {i4 : Int32} {j5 : Int64} {r : Int32} {σf : St} {k s : Nat} (hf : f_X5_keepPower σ a0 i1 a2 i3 i4 j5 = some (r, σf, k, s)) : (∃ fs : List Value, σ.1 a0 = some (.inr (.inl (5, fs)))) ∧ Ct G l y_X5_keepPower prog_1_method_33_code 12 (some .boolean) 6 138 [.ref a0, .int i1, .ref a2, .int i3, .int i4, .long j5] σ (some (.int r)) σf k s := by
  unfold f_X5_keepPower at hf
  obtain ⟨hob, hf⟩ := ob_some hf
  refine ⟨hob, Ct.ofV pl_X5_keepPower (Nat.le_of_ble_eq_true rfl) ?_⟩
  intro K hR hN hnm hC hE
  show V K (k + 0) (s + 0) σ 0 [(0, .ref a0), (1, .int i1), (2, .ref a2), (3, .int i3), (4, .int i4), (5, .long j5)] []
  refine v_aload_n hC 2 dX5_keepPower_0 rfl ?_
  refine v_cVP hC (y := y_X2_digitCount) (ci := 2) [] [] (fun r => some (.int r)) (fun r => .int r :: []) hf (fun _ h => m_X2_digitCount h) rfl (fun _ => rfl) rfl rfl hR (Nat.le_of_ble_eq_true rfl) (Nat.le_of_ble_eq_true rfl) w_235 w_232 w_233 w_234 w_59 nm_X2_digitCount rfl (Nat.le_of_ble_eq_true rfl) dX5_keepPower_1 (fun x1 hf => ?_)
  refine v_i2l hC dX5_keepPower_4 ?_
  refine v_lconst (v := 1) hC dX5_keepPower_5 (by decide) ?_
  refine v_lsub hC dX5_keepPower_6 ?_
  refine v_iload_n hC 3 dX5_keepPower_7 rfl ?_
  refine v_i2l hC dX5_keepPower_8 ?_
  refine v_lmul hC dX5_keepPower_9 ?_
  refine v_at 10 rfl ?_
  refine v_ldc2 hC dX5_keepPower_10 w_351 ?_
  refine v_lcmp_lt hC hf dX5_keepPower_13 dX5_keepPower_14 (tgt := 19) (by decide) (fun hf => ?_) (fun hf => ?_)
  · refine v_aload_n hC 0 dX5_keepPower_19 rfl ?_
    refine v_getR hC (host := "") hf fd_5_1 w_186 dX5_keepPower_20 (fun r2 hf => ?_)
    refine v_astore hC [(7, .ref r2), (0, .ref a0), (1, .int i1), (2, .ref a2), (3, .int i3), (4, .int i4), (5, .long j5)] dX5_keepPower_23 hN (Nat.le_of_ble_eq_true rfl) rfl ?_
    refine v_aload_n hC 1 dX5_keepPower_25 rfl ?_
    refine v_getR hC (host := "") hf fd_5_2 w_187 dX5_keepPower_26 (fun r3 hf => ?_)
    refine v_astore hC [(8, .ref r3), (7, .ref r2), (0, .ref a0), (1, .int i1), (2, .ref a2), (3, .int i3), (4, .int i4), (5, .long j5)] dX5_keepPower_29 hN (Nat.le_of_ble_eq_true rfl) rfl ?_
    refine v_aload hC 1 dX5_keepPower_31 rfl ?_
    refine v_aload_n hC 4 dX5_keepPower_33 rfl ?_
    refine v_at 34 rfl ?_
    refine v_cVE hC (y := y_X2_become) (ci := 2) [.ref a2] [] (fun _ => none) (fun _ => []) hf (fun _ _ _ _ h => m_X2_become h) rfl (fun _ => rfl) rfl rfl hR (Nat.le_of_ble_eq_true rfl) (Nat.le_of_ble_eq_true rfl) w_245 w_352 w_243 w_244 w_59 nm_X2_become rfl (Nat.le_of_ble_eq_true rfl) dX5_keepPower_34 (fun _ σ4 _ _ hf => ?_)
    refine v_bipush (v := 30) hC dX5_keepPower_37 (by decide) ?_
    refine v_iload_n hC 5 dX5_keepPower_39 rfl ?_
    refine v_cSP hC (y := y_J6_numberOfLeadingZeros_0f7a4) [.int i3] [.int 30] (fun r => some (.int r)) (fun r => .int r :: [.int 30]) hf (fun _ h => m_J6_numberOfLeadingZeros_0f7a4 h) rfl (fun _ => rfl) hR (Nat.le_of_ble_eq_true rfl) (Nat.le_of_ble_eq_true rfl) w_355 w_353 w_354 w_68 nm_J6_numberOfLeadingZeros_0f7a4 rfl (Nat.le_of_ble_eq_true rfl) dX5_keepPower_40 (fun x5 hf => ?_)
    refine v_isub hC dX5_keepPower_43 ?_
    refine v_ltI hf (fun x6 hf => ?_)
    refine v_istore hC [(9, .int x6), (8, .ref r3), (7, .ref r2), (0, .ref a0), (1, .int i1), (2, .ref a2), (3, .int i3), (4, .int i4), (5, .long j5)] dX5_keepPower_44 hN (Nat.le_of_ble_eq_true rfl) rfl ?_
    refine v_at 46 rfl ?_
    refine v_sub [(0, .ref a0), (1, .int i1), (2, .ref a2), (3, .int i3), (4, .int i4), (5, .long j5), (7, .ref r2), (8, .ref r3), (9, .int x6)] [3, 4, 5, 6, 7, 8, 2, 1, 0] rfl ?_
    refine v_lpE hf (E_X5_keepPower_L46 K a0 i1 i4 j5) (fun _ _ _ _ _ _ h hE => v_X5_keepPower_L46 hC hR hN _ _ _ _ _ _ _ _ _ _ _ _ _ _ _ h hE) (fun y13 σ14 _ _ hf => ?_)
    rcases y13 with z15 | z16 | z17
    · show V K _ _ σ14 63 [] []
      refine v_iconst (v := 0) hC dX5_keepPower_63 (by decide) ?_
      exact v_retZ hC hf hE dX5_keepPower_64
    · show V K _ _ σ14 97 [] []
      refine v_iconst (v := 0) hC dX5_keepPower_97 (by decide) ?_
      exact v_retZ hC hf hE dX5_keepPower_98
    · show V K _ _ σ14 117 [(0, .ref a0), (1, .int i1), (4, .int i4), (5, .long j5), (7, .ref z17)] []
      refine v_aload_n hC 0 dX5_keepPower_117 rfl ?_
      refine v_iload_n hC 1 dX5_keepPower_118 rfl ?_
      refine v_aload hC 4 dX5_keepPower_119 rfl ?_
      refine v_iload hC 2 dX5_keepPower_121 rfl ?_
      refine v_lload hC 3 dX5_keepPower_123 rfl ?_
      refine v_cVE hC (y := y_X5_keep) (ci := 5) [.int i1, .ref z17, .int i4, .long j5] [] (fun r => some (.int r)) (fun r => .int r :: []) hf (fun _ _ _ _ h => m_X5_keep h) rfl (fun _ => rfl) rfl rfl hR (Nat.le_of_ble_eq_true rfl) (Nat.le_of_ble_eq_true rfl) w_225 w_222 w_224 w_0 w_58 nm_X5_keep rfl (Nat.le_of_ble_eq_true rfl) dX5_keepPower_125 (fun x18 σ19 _ _ hf => ?_)
      exact v_retZ hC hf hE dX5_keepPower_128
  · refine v_at 17 rfl ?_
    refine v_iconst (v := 0) hC dX5_keepPower_17 (by decide) ?_
    exact v_retZ hC hf hE dX5_keepPower_18
set_option maxHeartbeats 4000000 in
set_option maxRecDepth 100000 in
theorem m_X5_power {G : Gm} {l : Launch} {σ : St} {a0 : Nat} {i1 : Int32} {i2 : Int32} {i3 : Int32} {r : Int32} {σf : St} {k s : Nat} (hf : f_X5_power σ a0 i1 i2 i3 = some (r, σf, k, s)) : (∃ fs : List Value, σ.1 a0 = some (.inr (.inl (5, fs)))) ∧ Ct G l y_X5_power prog_1_method_7_code 8 (some .boolean) 7 169 [.ref a0, .int i1, .int i2, .int i3] σ (some (.int r)) σf k s := by
  unfold f_X5_power at hf
  obtain ⟨hob, hf⟩ := ob_some hf
  refine ⟨hob, Ct.ofV pl_X5_power (Nat.le_of_ble_eq_true rfl) ?_⟩
  intro K hR hN hnm hC hE
  show V K (k + 0) (s + 0) σ 0 [(0, .ref a0), (1, .int i1), (2, .int i2), (3, .int i3)] []
  refine v_iload_n hC 2 dX5_power_0 rfl ?_
  refine v_cSP hC (y := y_X5_isRegister) [.int i2] [] (fun r => some (.int r)) (fun r => .int r :: []) hf (fun _ h => m_X5_isRegister h) rfl (fun _ => rfl) hR (Nat.le_of_ble_eq_true rfl) (Nat.le_of_ble_eq_true rfl) w_228 w_226 w_227 w_58 nm_X5_isRegister rfl (Nat.le_of_ble_eq_true rfl) dX5_power_1 (fun x1 hf => ?_)
  refine v_if_eq hC hf dX5_power_4 (tgt := 11) (by decide) (fun hf => ?_) (fun hf => ?_)
  · refine v_iconst (v := 0) hC dX5_power_11 (by decide) ?_
    exact v_retZ hC hf hE dX5_power_12
  · refine v_at 7 rfl ?_
    refine v_iload_n hC 3 dX5_power_7 rfl ?_
    refine v_if_ge hC hf dX5_power_8 (tgt := 13) (by decide) (fun hf => ?_) (fun hf => ?_)
    · refine v_aload_n hC 0 dX5_power_13 rfl ?_
      refine v_getR hC (host := "") hf fd_5_0 w_185 dX5_power_14 (fun r2 hf => ?_)
      refine v_iload_n hC 2 dX5_power_17 rfl ?_
      refine v_ldA hC hf dX5_power_18 (fun r3 hf => ?_)
      refine v_astore hC [(4, .ref r3), (0, .ref a0), (1, .int i1), (2, .int i2), (3, .int i3)] dX5_power_19 hN (Nat.le_of_ble_eq_true rfl) rfl ?_
      refine v_aload hC 0 dX5_power_21 rfl ?_
      refine v_getIN hC hf fd_0_1 n_17 dX5_power_23 (fun x4 hf => ?_)
      refine v_jnE hf (fun z5 kr sr => V K (kr + 0) (sr + 0) σ 40 [(0, .ref a0), (1, .int i1), (3, .int i3), (4, .ref r3)] [.int z5]) (fun z5 _ _ hf => ?_) (fun k5 hk5 hf => ?_)
      · refine v_istore hC [(5, .int z5), (0, .ref a0), (1, .int i1), (3, .int i3), (4, .ref r3)] dX5_power_40 hN (Nat.le_of_ble_eq_true rfl) rfl ?_
        refine v_aload hC 4 dX5_power_42 rfl ?_
        refine v_getIN hC hf fd_0_2 n_19 dX5_power_44 (fun x6 hf => ?_)
        refine v_i2l hC dX5_power_47 ?_
        refine v_iload_n hC 3 dX5_power_48 rfl ?_
        refine v_i2l hC dX5_power_49 ?_
        refine v_lmul hC dX5_power_50 ?_
        refine v_ltL hf (fun l7 hf => ?_)
        refine v_lstore hC [(6, .long l7), (5, .int z5), (0, .ref a0), (1, .int i1), (3, .int i3), (4, .ref r3)] dX5_power_51 hN (Nat.le_of_ble_eq_true rfl) rfl ?_
        refine v_at 53 rfl ?_
        refine v_iload_n hC 4 dX5_power_53 rfl ?_
        refine v_if_ne hC hf dX5_power_54 (tgt := 77) (by decide) (fun hf => ?_) (fun hf => ?_)
        · refine v_aload hC 5 dX5_power_77 rfl ?_
          refine v_getRN hC hf fd_0_0 n_15 dX5_power_79 (fun r8 hf => ?_)
          refine v_cVP hC (y := y_X2_isZero) (ci := 2) [] [] (fun r => some (.int r)) (fun r => .int r :: []) hf (fun _ h => m_X2_isZero h) rfl (fun _ => rfl) rfl rfl hR (Nat.le_of_ble_eq_true rfl) (Nat.le_of_ble_eq_true rfl) w_273 w_290 w_271 w_272 w_59 nm_X2_isZero rfl (Nat.le_of_ble_eq_true rfl) dX5_power_82 (fun x9 hf => ?_)
          refine v_jnE hf (fun z10 kr sr => V K (kr + 0) (sr + 0) σ 99 [(0, .ref a0), (1, .int i1), (4, .ref r3), (5, .int z5), (6, .long l7)] []) (fun z10 _ _ hf => ?_) (fun k10 hk10 hf => ?_)
          · refine v_aload_n hC 0 dX5_power_99 rfl ?_
            refine v_iload_n hC 1 dX5_power_100 rfl ?_
            refine v_aload hC 2 dX5_power_101 rfl ?_
            refine v_getRN hC hf fd_0_0 n_15 dX5_power_103 (fun r11 hf => ?_)
            refine v_iload hC 3 dX5_power_106 rfl ?_
            refine v_lload hC 4 dX5_power_108 rfl ?_
            refine v_cVE hC (y := y_X5_keep) (ci := 5) [.int i1, .ref r11, .int z5, .long l7] [] (fun r => some (.int r)) (fun r => .int r :: []) hf (fun _ _ _ _ h => m_X5_keep h) rfl (fun _ => rfl) rfl rfl hR (Nat.le_of_ble_eq_true rfl) (Nat.le_of_ble_eq_true rfl) w_225 w_222 w_224 w_0 w_58 nm_X5_keep rfl (Nat.le_of_ble_eq_true rfl) dX5_power_110 (fun x12 σ13 _ _ hf => ?_)
            exact v_retZ hC hf hE dX5_power_113
          · refine v_if_ne hC hf dX5_power_85 (tgt := 99) (by decide) (fun hf => ?_) (fun hf => ?_)
            · exact v_sub [(0, .ref a0), (1, .int i1), (4, .ref r3), (5, .int z5), (6, .long l7)] [2, 3, 5, 1, 0] rfl (hk10 _ _ _ hf)
            · refine v_at 88 rfl ?_
              refine v_aload hC 5 dX5_power_88 rfl ?_
              refine v_getRN hC hf fd_0_0 n_15 dX5_power_90 (fun r14 hf => ?_)
              refine v_cVP hC (y := y_X2_isOne) (ci := 2) [] [] (fun r => some (.int r)) (fun r => .int r :: []) hf (fun _ h => m_X2_isOne h) rfl (fun _ => rfl) rfl rfl hR (Nat.le_of_ble_eq_true rfl) (Nat.le_of_ble_eq_true rfl) w_346 w_343 w_344 w_345 w_59 nm_X2_isOne rfl (Nat.le_of_ble_eq_true rfl) dX5_power_93 (fun x15 hf => ?_)
              refine v_if_eq hC hf dX5_power_96 (tgt := 114) (by decide) (fun hf => ?_) (fun hf => ?_)
              · refine v_iload_n hC 4 dX5_power_114 rfl ?_
                refine v_sipush (v := 13606) hC dX5_power_115 (by decide) ?_
                refine v_icmp_le hC hf dX5_power_118 (tgt := 123) (by decide) (fun hf => ?_) (fun hf => ?_)
                · refine v_aload_n hC 2 dX5_power_123 rfl ?_
                  refine v_iload_n hC 3 dX5_power_124 rfl ?_
                  refine v_aload hC 5 dX5_power_125 rfl ?_
                  refine v_getRN hC hf fd_0_0 n_15 dX5_power_127 (fun r16 hf => ?_)
                  refine v_iload_n hC 4 dX5_power_130 rfl ?_
                  refine v_iload hC 1 dX5_power_131 rfl ?_
                  refine v_lload hC 0 dX5_power_133 rfl ?_
                  refine v_cVE hC (y := y_X5_keepPower) (ci := 5) [.int i1, .ref r16, .int i3, .int z5, .long l7] [] (fun r => some (.int r)) (fun r => .int r :: []) hf (fun _ _ _ _ h => m_X5_keepPower h) rfl (fun _ => rfl) rfl rfl hR (Nat.le_of_ble_eq_true rfl) (Nat.le_of_ble_eq_true rfl) w_350 w_347 w_349 w_6 w_58 nm_X5_keepPower rfl (Nat.le_of_ble_eq_true rfl) dX5_power_135 (fun x17 σ18 _ _ hf => ?_)
                  refine v_at 138 rfl ?_
                  exact v_retZ hC hf hE dX5_power_138
                · refine v_at 121 rfl ?_
                  refine v_iconst (v := 0) hC dX5_power_121 (by decide) ?_
                  exact v_retZ hC hf hE dX5_power_122
              · refine v_at 99 rfl ?_
                exact v_sub [(0, .ref a0), (1, .int i1), (4, .ref r3), (5, .int z5), (6, .long l7)] [2, 3, 5, 1, 0] rfl (hk10 _ _ _ hf)
        · refine v_at 57 rfl ?_
          refine v_aload_n hC 2 dX5_power_57 rfl ?_
          refine v_getR hC (host := "") hf fd_5_1 w_186 dX5_power_58 (fun r19 hf => ?_)
          refine v_lconst (v := 1) hC dX5_power_61 (by decide) ?_
          refine v_cVE hC (y := y_X2_becomeSizeOf) (ci := 2) [.long 1] [] (fun _ => none) (fun _ => []) hf (fun _ _ _ _ h => m_X2_becomeSizeOf h) rfl (fun _ => rfl) rfl rfl hR (Nat.le_of_ble_eq_true rfl) (Nat.le_of_ble_eq_true rfl) w_217 w_214 w_215 w_216 w_59 nm_X2_becomeSizeOf rfl (Nat.le_of_ble_eq_true rfl) dX5_power_62 (fun _ σ20 _ _ hf => ?_)
          refine v_aload_n hC 2 dX5_power_65 rfl ?_
          refine v_iload_n hC 3 dX5_power_66 rfl ?_
          refine v_aload_n hC 2 dX5_power_67 rfl ?_
          refine v_getR hC (host := "") hf fd_5_1 w_186 dX5_power_68 (fun r21 hf => ?_)
          refine v_at 71 rfl ?_
          refine v_iconst (v := 0) hC dX5_power_71 (by decide) ?_
          refine v_lconst (v := 0) hC dX5_power_72 (by decide) ?_
          refine v_cVE hC (y := y_X5_keep) (ci := 5) [.int i1, .ref r21, .int 0, .long 0] [] (fun r => some (.int r)) (fun r => .int r :: []) hf (fun _ _ _ _ h => m_X5_keep h) rfl (fun _ => rfl) rfl rfl hR (Nat.le_of_ble_eq_true rfl) (Nat.le_of_ble_eq_true rfl) w_225 w_222 w_224 w_0 w_58 nm_X5_keep rfl (Nat.le_of_ble_eq_true rfl) dX5_power_73 (fun x22 σ23 _ _ hf => ?_)
          exact v_retZ hC hf hE dX5_power_76
      · refine v_jnE hf (fun z24 kr sr => V K (kr + 0) (sr + 0) σ 39 [(0, .ref a0), (1, .int i1), (3, .int i3), (4, .ref r3)] []) (fun z24 _ _ hf => ?_) (fun k24 hk24 hf => ?_)
        · refine v_iconst (v := 0) hC dX5_power_39 (by decide) ?_
          refine v_at 40 rfl ?_
          exact v_sub [(0, .ref a0), (1, .int i1), (3, .int i3), (4, .ref r3)] [0, 1, 2, 3] rfl (hk5 _ _ _ hf)
        · refine v_if_eq hC hf dX5_power_26 (tgt := 39) (by decide) (fun hf => ?_) (fun hf => ?_)
          · exact v_sub [(0, .ref a0), (1, .int i1), (3, .int i3), (4, .ref r3)] [1, 2, 4, 0] rfl (hk24 _ _ _ hf)
          · refine v_at 29 rfl ?_
            refine v_iload_n hC 4 dX5_power_29 rfl ?_
            refine v_iconst (v := 1) hC dX5_power_30 (by decide) ?_
            refine v_iand hC dX5_power_31 ?_
            refine v_if_eq hC hf dX5_power_32 (tgt := 39) (by decide) (fun hf => ?_) (fun hf => ?_)
            · exact v_sub [(0, .ref a0), (1, .int i1), (3, .int i3), (4, .ref r3)] [1, 2, 4, 0] rfl (hk24 _ _ _ hf)
            · refine v_at 35 rfl ?_
              refine v_iconst (v := 1) hC dX5_power_35 (by decide) ?_
              refine v_goto (tgt := 40) hC dX5_power_36 (by decide) ?_
              exact v_sub [(0, .ref a0), (1, .int i1), (3, .int i3), (4, .ref r3)] [1, 2, 4, 0] rfl (hk5 _ _ _ hf)
    · refine v_at 11 rfl ?_
      refine v_iconst (v := 0) hC dX5_power_11 (by decide) ?_
      exact v_retZ hC hf hE dX5_power_12
set_option maxHeartbeats 4000000 in
set_option maxRecDepth 100000 in
theorem m_X5_isRounding {G : Gm} {l : Launch} {σ : St} {i0 : Int32} {r : Int32} (hf : f_X5_isRounding σ i0 = some r) : Ct G l y_X5_isRounding prog_1_method_26_code 1 (some .boolean) 0 0 [.int i0] σ (some (.int r)) σ 0 0 := by
  unfold f_X5_isRounding at hf
  refine Ct.ofV pl_X5_isRounding (Nat.le_of_ble_eq_true rfl) ?_
  intro K hR hN hnm hC hE
  show V K 0 0 σ 0 [(0, .int i0)] []
  refine v_iload_n hC 0 dX5_isRounding_0 rfl ?_
  refine v_if_lt hC hf dX5_isRounding_1 (tgt := 14) (by decide) (fun hf => ?_) (fun hf => ?_)
  · refine v_iconst (v := 0) hC dX5_isRounding_14 (by decide) ?_
    exact v_retZP hC hf hE dX5_isRounding_15
  · refine v_at 4 rfl ?_
    refine v_iload_n hC 0 dX5_isRounding_4 rfl ?_
    refine v_bipush (v := 7) hC dX5_isRounding_5 (by decide) ?_
    refine v_icmp_gt hC hf dX5_isRounding_7 (tgt := 14) (by decide) (fun hf => ?_) (fun hf => ?_)
    · refine v_iconst (v := 0) hC dX5_isRounding_14 (by decide) ?_
      exact v_retZP hC hf hE dX5_isRounding_15
    · refine v_at 10 rfl ?_
      refine v_iconst (v := 1) hC dX5_isRounding_10 (by decide) ?_
      refine v_goto (tgt := 15) hC dX5_isRounding_11 (by decide) ?_
      exact v_retZP hC hf hE dX5_isRounding_15
set_option maxHeartbeats 4000000 in
set_option maxRecDepth 100000 in
theorem m_X5_divideRaised {G : Gm} {l : Launch} {σ : St} {a0 : Nat} {a1 : Nat} {i2 : Int32} {a3 : Nat} {r : Int32} {σf : St} {k s : Nat} (hf : f_X5_divideRaised σ a0 a1 i2 a3 = some (r, σf, k, s)) : (∃ fs : List Value, σ.1 a0 = some (.inr (.inl (5, fs)))) ∧ Ct G l y_X5_divideRaised prog_1_method_34_code 4 (some .boolean) 5 124 [.ref a0, .ref a1, .int i2, .ref a3] σ (some (.int r)) σf k s := by
  unfold f_X5_divideRaised at hf
  obtain ⟨hob, hf⟩ := ob_some hf
  refine ⟨hob, Ct.ofV pl_X5_divideRaised (Nat.le_of_ble_eq_true rfl) ?_⟩
  intro K hR hN hnm hC hE
  show V K (k + 0) (s + 0) σ 0 [(0, .ref a0), (1, .ref a1), (2, .int i2), (3, .ref a3)] []
  refine v_aload_n hC 0 dX5_divideRaised_0 rfl ?_
  refine v_getR hC (host := "") hf fd_5_1 w_186 dX5_divideRaised_1 (fun r1 hf => ?_)
  refine v_aload_n hC 1 dX5_divideRaised_4 rfl ?_
  refine v_iload_n hC 2 dX5_divideRaised_5 rfl ?_
  refine v_cVE hC (y := y_X2_raise) (ci := 2) [.ref a1, .int i2] [] (fun _ => none) (fun _ => []) hf (fun _ _ _ _ h => m_X2_raise h) rfl (fun _ => rfl) rfl rfl hR (Nat.le_of_ble_eq_true rfl) (Nat.le_of_ble_eq_true rfl) w_299 w_296 w_297 w_298 w_59 nm_X2_raise rfl (Nat.le_of_ble_eq_true rfl) dX5_divideRaised_6 (fun _ σ2 _ _ hf => ?_)
  refine v_aload_n hC 0 dX5_divideRaised_9 rfl ?_
  refine v_getR hC (host := "") hf fd_5_1 w_186 dX5_divideRaised_10 (fun r3 hf => ?_)
  refine v_aload_n hC 0 dX5_divideRaised_13 rfl ?_
  refine v_at 14 rfl ?_
  refine v_getR hC (host := "") hf fd_5_2 w_187 dX5_divideRaised_14 (fun r4 hf => ?_)
  refine v_aload_n hC 3 dX5_divideRaised_17 rfl ?_
  refine v_cVE hC (y := y_X2_reduce) (ci := 2) [.ref r4, .ref a3] [] (fun _ => none) (fun _ => []) hf (fun _ _ _ _ h => m_X2_reduce h) rfl (fun _ => rfl) rfl rfl hR (Nat.le_of_ble_eq_true rfl) (Nat.le_of_ble_eq_true rfl) w_374 w_371 w_372 w_373 w_59 nm_X2_reduce rfl (Nat.le_of_ble_eq_true rfl) dX5_divideRaised_18 (fun _ σ5 _ _ hf => ?_)
  refine v_aload_n hC 0 dX5_divideRaised_21 rfl ?_
  refine v_getR hC (host := "") hf fd_5_1 w_186 dX5_divideRaised_22 (fun r6 hf => ?_)
  refine v_cVP hC (y := y_X2_isZero) (ci := 2) [] [] (fun r => some (.int r)) (fun r => .int r :: []) hf (fun _ h => m_X2_isZero h) rfl (fun _ => rfl) rfl rfl hR (Nat.le_of_ble_eq_true rfl) (Nat.le_of_ble_eq_true rfl) w_273 w_290 w_271 w_272 w_59 nm_X2_isZero rfl (Nat.le_of_ble_eq_true rfl) dX5_divideRaised_25 (fun x7 hf => ?_)
  refine v_if_ne hC hf dX5_divideRaised_28 (tgt := 35) (by decide) (fun hf => ?_) (fun hf => ?_)
  · refine v_iconst (v := 0) hC dX5_divideRaised_35 (by decide) ?_
    exact v_retZ hC hf hE dX5_divideRaised_36
  · refine v_at 31 rfl ?_
    refine v_iconst (v := 1) hC dX5_divideRaised_31 (by decide) ?_
    refine v_goto (tgt := 36) hC dX5_divideRaised_32 (by decide) ?_
    exact v_retZ hC hf hE dX5_divideRaised_36
