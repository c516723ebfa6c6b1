set_option maxHeartbeats 4000000 in
set_option maxRecDepth 100000 in
theorem m_X2_init {G : Gm} {l : Launch} {σ : St} {a0 : Nat} {r : Unit} {σf : St} {k s : Nat} (hf : f_X2_init σ a0 = some (r, σf, k, s)) : Ct G l y_X2_init prog_4_method_1_code 1 none 1 20 [.ref a0] σ none σf k s := by
  unfold f_X2_init at hf
  refine Ct.ofV pl_X2_init (Nat.le_of_ble_eq_true rfl) ?_
  intro K hR hN hnm hC hE
  show V K (k + 0) (s + 0) σ 0 [(0, .ref a0)] []
  refine v_aload_n hC 0 dX2_init_0 rfl ?_
  refine v_oinit hC hR (Nat.le_of_ble_eq_true rfl) (Nat.le_of_ble_eq_true rfl) w_84 w_75 w_76 (Nat.le_of_ble_eq_true rfl) dX2_init_1 ?_
  refine v_aload_n hC 0 dX2_init_4 rfl ?_
  refine v_iconst (v := 4) hC dX2_init_5 (by decide) ?_
  refine v_newI hC hf w_92 dX2_init_6 (fun r1 σ2 _ _ hf => ?_)
  refine v_put hC hf fd_2_0 w_85 rfl rfl dX2_init_8 (fun σ3 hf => ?_)
  exact v_retV hC hf hE dX2_init_11
set_option maxHeartbeats 4000000 in
set_option maxRecDepth 100000 in
theorem m_X0_init {G : Gm} {l : Launch} {σ : St} {a0 : Nat} {r : Unit} {σf : St} {k s : Nat} (hf : f_X0_init σ a0 = some (r, σf, k, s)) : Ct G l y_X0_init prog_2_method_1_code 1 none 2 40 [.ref a0] σ none σf k s := by
  unfold f_X0_init at hf
  refine Ct.ofV pl_X0_init (Nat.le_of_ble_eq_true rfl) ?_
  intro K hR hN hnm hC hE
  show V K (k + 0) (s + 0) σ 0 [(0, .ref a0)] []
  refine v_aload_n hC 0 dX0_init_0 rfl ?_
  refine v_oinit hC hR (Nat.le_of_ble_eq_true rfl) (Nat.le_of_ble_eq_true rfl) w_166 w_75 w_76 (Nat.le_of_ble_eq_true rfl) dX0_init_1 ?_
  refine v_aload_n hC 0 dX0_init_4 rfl ?_
  refine v_new hC hf (ty0 := tyX2) rfl ut_2 tyX2_ok (fun j hj => by rcases (show j = 0 ∨ j = 1 by omega) with rfl | rfl <;> rfl) w_167 w_80 w_59 dX0_init_5 (fun r1 σ2 _ _ hf => ?_)
  refine v_dup hC dX0_init_8 rfl ?_
  refine v_cIN hC (y := y_X2_init) [] [.ref r1, .ref a0] hf (fun _ _ _ _ h => m_X2_init h) rfl hR (Nat.le_of_ble_eq_true rfl) (Nat.le_of_ble_eq_true rfl) w_83 n_13 w_82 w_59 rfl nm_X2_init rfl (Nat.le_of_ble_eq_true rfl) dX0_init_9 (fun _ σ3 _ _ hf => ?_)
  refine v_putF hC hf hnm rfl fd_0_0 w_169 rfl rfl dX0_init_12 (fun σ4 hf => ?_)
  exact v_retV hC hf hE dX0_init_15
set_option maxHeartbeats 4000000 in
set_option maxRecDepth 100000 in
theorem m_X2_isZero {G : Gm} {l : Launch} {σ : St} {a0 : Nat} {r : Int32} (hf : f_X2_isZero σ a0 = some r) : (∃ fs : List Value, σ.1 a0 = some (.inr (.inl (2, fs)))) ∧ Ct G l y_X2_isZero prog_4_method_2_code 1 (some .boolean) 0 0 [.ref a0] σ (some (.int r)) σ 0 0 := by
  unfold f_X2_isZero at hf
  obtain ⟨hob, hf⟩ := ob_some hf
  refine ⟨hob, Ct.ofV pl_X2_isZero (Nat.le_of_ble_eq_true rfl) ?_⟩
  intro K hR hN hnm hC hE
  show V K 0 0 σ 0 [(0, .ref a0)] []
  refine v_aload_n hC 0 dX2_isZero_0 rfl ?_
  refine v_getI hC (host := "") hf fd_2_1 w_86 dX2_isZero_1 (fun x1 hf => ?_)
  refine v_if_ne hC hf dX2_isZero_4 (tgt := 11) (by decide) (fun hf => ?_) (fun hf => ?_)
  · refine v_iconst (v := 0) hC dX2_isZero_11 (by decide) ?_
    exact v_retZP hC hf hE dX2_isZero_12
  · refine v_at 7 rfl ?_
    refine v_iconst (v := 1) hC dX2_isZero_7 (by decide) ?_
    refine v_goto (tgt := 12) hC dX2_isZero_8 (by decide) ?_
    exact v_retZP hC hf hE dX2_isZero_12
set_option maxHeartbeats 4000000 in
set_option maxRecDepth 100000 in
theorem m_X0_signum {G : Gm} {l : Launch} {σ : St} {a0 : Nat} {r : Int32} (hf : f_X0_signum σ a0 = some r) : (∃ fs : List Value, σ.1 a0 = some (.inr (.inl (0, fs)))) ∧ Ct G l y_X0_signum prog_2_method_2_code 1 (some .int) 1 20 [.ref a0] σ (some (.int r)) σ 0 0 := by
  unfold f_X0_signum at hf
  obtain ⟨hob, hf⟩ := ob_some hf
  refine ⟨hob, Ct.ofV pl_X0_signum (Nat.le_of_ble_eq_true rfl) ?_⟩
  intro K hR hN hnm hC hE
  show V K 0 0 σ 0 [(0, .ref a0)] []
  refine v_aload_n hC 0 dX0_signum_0 rfl ?_
  refine v_getR hC (host := "") hf fd_0_0 w_169 dX0_signum_1 (fun r1 hf => ?_)
  refine v_cVP hC (y := y_X2_isZero) (ci := 2) [] [] (fun r => some (.int r)) (fun r => .int r :: []) hf (fun _ h => m_X2_isZero h) rfl (fun _ => rfl) rfl rfl hR (Nat.le_of_ble_eq_true rfl) (Nat.le_of_ble_eq_true rfl) w_273 w_270 w_271 w_272 w_59 nm_X2_isZero rfl (Nat.le_of_ble_eq_true rfl) dX0_signum_4 (fun x2 hf => ?_)
  refine v_if_eq hC hf dX0_signum_7 (tgt := 12) (by decide) (fun hf => ?_) (fun hf => ?_)
  · refine v_aload_n hC 0 dX0_signum_12 rfl ?_
    refine v_getI hC (host := "") hf fd_0_1 w_173 dX0_signum_13 (fun x3 hf => ?_)
    refine v_if_eq hC hf dX0_signum_16 (tgt := 23) (by decide) (fun hf => ?_) (fun hf => ?_)
    · refine v_iconst (v := 1) hC dX0_signum_23 (by decide) ?_
      exact v_retIP hC hf hE dX0_signum_24
    · refine v_at 19 rfl ?_
      refine v_iconst (v := (-1)) hC dX0_signum_19 (by decide) ?_
      refine v_goto (tgt := 24) hC dX0_signum_20 (by decide) ?_
      exact v_retIP hC hf hE dX0_signum_24
  · refine v_at 10 rfl ?_
    refine v_iconst (v := 0) hC dX0_signum_10 (by decide) ?_
    exact v_retIP hC hf hE dX0_signum_11
set_option maxHeartbeats 4000000 in
set_option maxRecDepth 100000 in
theorem m_J9_max_7cf53 {G : Gm} {l : Launch} {σ : St} {i0 : Int32} {i1 : Int32} {r : Int32} (hf : f_J9_max_7cf53 σ i0 i1 = some r) : Ct G l y_J9_max_7cf53 prog_11_method_65_code 2 (some .int) 0 0 [.int i0, .int i1] σ (some (.int r)) σ 0 0 := by
  unfold f_J9_max_7cf53 at hf
  refine Ct.ofV pl_J9_max_7cf53 (Nat.le_of_ble_eq_true rfl) ?_
  intro K hR hN hnm hC hE
  show V K 0 0 σ 0 [(0, .int i0), (1, .int i1)] []
  refine v_iload_n hC 0 dJ9_max_7cf53_0 rfl ?_
  refine v_iload_n hC 1 dJ9_max_7cf53_1 rfl ?_
  refine v_icmp_lt hC hf dJ9_max_7cf53_2 (tgt := 9) (by decide) (fun hf => ?_) (fun hf => ?_)
  · refine v_iload_n hC 1 dJ9_max_7cf53_9 rfl ?_
    exact v_retIP hC hf hE dJ9_max_7cf53_10
  · refine v_at 5 rfl ?_
    refine v_iload_n hC 0 dJ9_max_7cf53_5 rfl ?_
    refine v_goto (tgt := 10) hC dJ9_max_7cf53_6 (by decide) ?_
    exact v_retIP hC hf hE dJ9_max_7cf53_10
set_option maxHeartbeats 4000000 in
set_option maxRecDepth 100000 in
theorem m_J9_min_7cf53 {G : Gm} {l : Launch} {σ : St} {i0 : Int32} {i1 : Int32} {r : Int32} (hf : f_J9_min_7cf53 σ i0 i1 = some r) : Ct G l y_J9_min_7cf53 prog_11_method_69_code 2 (some .int) 0 0 [.int i0, .int i1] σ (some (.int r)) σ 0 0 := by
  unfold f_J9_min_7cf53 at hf
  refine Ct.ofV pl_J9_min_7cf53 (Nat.le_of_ble_eq_true rfl) ?_
  intro K hR hN hnm hC hE
  show V K 0 0 σ 0 [(0, .int i0), (1, .int i1)] []
  refine v_iload_n hC 0 dJ9_min_7cf53_0 rfl ?_
  refine v_iload_n hC 1 dJ9_min_7cf53_1 rfl ?_
  refine v_icmp_gt hC hf dJ9_min_7cf53_2 (tgt := 9) (by decide) (fun hf => ?_) (fun hf => ?_)
  · refine v_iload_n hC 1 dJ9_min_7cf53_9 rfl ?_
    exact v_retIP hC hf hE dJ9_min_7cf53_10
  · refine v_at 5 rfl ?_
    refine v_iload_n hC 0 dJ9_min_7cf53_5 rfl ?_
    refine v_goto (tgt := 10) hC dJ9_min_7cf53_6 (by decide) ?_
    exact v_retIP hC hf hE dJ9_min_7cf53_10
set_option maxHeartbeats 4000000 in
set_option maxRecDepth 100000 in
theorem m_J7_copyOf_59c91 {G : Gm} {l : Launch} {σ : St} {a0 : Nat} {i1 : Int32} {r : Nat} {σf : St} {k s : Nat} (hf : f_J7_copyOf_59c91 σ a0 i1 = some (r, σf, k, s)) : Ct G l y_J7_copyOf_59c91 prog_13_method_123_code 3 (some (.array .int)) 1 26 [.ref a0, .int i1] σ (some (.ref r)) σf k s := by
  unfold f_J7_copyOf_59c91 at hf
  refine Ct.ofV pl_J7_copyOf_59c91 (Nat.le_of_ble_eq_true rfl) ?_
  intro K hR hN hnm hC hE
  show V K (k + 0) (s + 0) σ 0 [(0, .ref a0), (1, .int i1)] []
  refine v_iload_n hC 1 dJ7_copyOf_59c91_0 rfl ?_
  refine v_aload_n hC 0 dJ7_copyOf_59c91_1 rfl ?_
  refine v_aln hC hf dJ7_copyOf_59c91_2 (fun x1 hf => ?_)
  refine v_icmp_ne hC hf dJ7_copyOf_59c91_3 (tgt := 14) (by decide) (fun hf => ?_) (fun hf => ?_)
  · refine v_iload_n hC 1 dJ7_copyOf_59c91_14 rfl ?_
    refine v_newI hC hf w_92 dJ7_copyOf_59c91_15 (fun r2 σ3 _ _ hf => ?_)
    refine v_astore_n hC [(2, .ref r2), (0, .ref a0), (1, .int i1)] dJ7_copyOf_59c91_17 rfl hN (Nat.le_of_ble_eq_true rfl) rfl ?_
    refine v_aload_n hC 1 dJ7_copyOf_59c91_18 rfl ?_
    refine v_iconst (v := 0) hC dJ7_copyOf_59c91_19 (by decide) ?_
    refine v_aload_n hC 0 dJ7_copyOf_59c91_20 rfl ?_
    refine v_iconst (v := 0) hC dJ7_copyOf_59c91_21 (by decide) ?_
    refine v_aload_n hC 1 dJ7_copyOf_59c91_22 rfl ?_
    refine v_at 23 rfl ?_
    refine v_aln hC hf dJ7_copyOf_59c91_23 (fun x4 hf => ?_)
    refine v_iload_n hC 2 dJ7_copyOf_59c91_24 rfl ?_
    refine v_cSP hC (y := y_J9_min_7cf53) [.int x4, .int i1] [.int 0, .ref r2, .int 0, .ref a0] (fun r => some (.int r)) (fun r => .int r :: [.int 0, .ref r2, .int 0, .ref a0]) hf (fun _ h => m_J9_min_7cf53 h) rfl (fun _ => rfl) hR (Nat.le_of_ble_eq_true rfl) (Nat.le_of_ble_eq_true rfl) w_265 w_263 w_264 w_65 nm_J9_min_7cf53 rfl (Nat.le_of_ble_eq_true rfl) dJ7_copyOf_59c91_25 (fun x5 hf => ?_)
    refine v_cpy hC hf hR (Nat.le_of_ble_eq_true rfl) (Nat.le_of_ble_eq_true rfl) w_266 w_268 w_267 w_67 (Nat.le_of_ble_eq_true rfl) dJ7_copyOf_59c91_28 (fun σ6 hf => ?_)
    refine v_aload_n hC 0 dJ7_copyOf_59c91_31 rfl ?_
    exact v_retA hC hf hE dJ7_copyOf_59c91_32
  · refine v_at 6 rfl ?_
    refine v_aload_n hC 0 dJ7_copyOf_59c91_6 rfl ?_
    cases hf
set_option maxHeartbeats 4000000 in
set_option maxRecDepth 100000 in
theorem m_X2_makeRoom {G : Gm} {l : Launch} {σ : St} {a0 : Nat} {i1 : Int32} {r : Unit} {σf : St} {k s : Nat} (hf : f_X2_makeRoom σ a0 i1 = some (r, σf, k, s)) : (∃ fs : List Value, σ.1 a0 = some (.inr (.inl (2, fs)))) ∧ Ct G l y_X2_makeRoom prog_4_method_35_code 2 none 2 48 [.ref a0, .int i1] σ none σf k s := by
  unfold f_X2_makeRoom at hf
  obtain ⟨hob, hf⟩ := ob_some hf
  refine ⟨hob, Ct.ofV pl_X2_makeRoom (Nat.le_of_ble_eq_true rfl) ?_⟩
  intro K hR hN hnm hC hE
  show V K (k + 0) (s + 0) σ 0 [(0, .ref a0), (1, .int i1)] []
  refine v_iload_n hC 1 dX2_makeRoom_0 rfl ?_
  refine v_aload_n hC 0 dX2_makeRoom_1 rfl ?_
  refine v_getR hC (host := "") hf fd_2_0 w_85 dX2_makeRoom_2 (fun r1 hf => ?_)
  refine v_aln hC hf dX2_makeRoom_5 (fun x2 hf => ?_)
  refine v_icmp_le hC hf dX2_makeRoom_6 (tgt := 31) (by decide) (fun hf => ?_) (fun hf => ?_)
  · exact v_retV hC hf hE dX2_makeRoom_31
  · refine v_at 9 rfl ?_
    refine v_aload_n hC 0 dX2_makeRoom_9 rfl ?_
    refine v_aload_n hC 0 dX2_makeRoom_10 rfl ?_
    refine v_getR hC (host := "") hf fd_2_0 w_85 dX2_makeRoom_11 (fun r3 hf => ?_)
    refine v_iload_n hC 1 dX2_makeRoom_14 rfl ?_
    refine v_iconst (v := 2) hC dX2_makeRoom_15 (by decide) ?_
    refine v_aload_n hC 0 dX2_makeRoom_16 rfl ?_
    refine v_getR hC (host := "") hf fd_2_0 w_85 dX2_makeRoom_17 (fun r4 hf => ?_)
    refine v_aln hC hf dX2_makeRoom_20 (fun x5 hf => ?_)
    refine v_at 21 rfl ?_
    refine v_imul hC dX2_makeRoom_21 ?_
    refine v_cSP hC (y := y_J9_max_7cf53) [.int i1, .int (2 * x5)] [.ref r3, .ref a0] (fun r => some (.int r)) (fun r => .int r :: [.ref r3, .ref a0]) hf (fun _ h => m_J9_max_7cf53 h) rfl (fun _ => rfl) hR (Nat.le_of_ble_eq_true rfl) (Nat.le_of_ble_eq_true rfl) w_252 w_250 w_251 w_65 nm_J9_max_7cf53 rfl (Nat.le_of_ble_eq_true rfl) dX2_makeRoom_22 (fun x6 hf => ?_)
    refine v_cSE hC (y := y_J7_copyOf_59c91) [.ref r3, .int x6] [.ref a0] (fun r => some (.ref r)) (fun r => .ref r :: [.ref a0]) hf (fun _ _ _ _ h => m_J7_copyOf_59c91 h) rfl (fun _ => rfl) hR (Nat.le_of_ble_eq_true rfl) (Nat.le_of_ble_eq_true rfl) w_255 w_253 w_254 w_66 nm_J7_copyOf_59c91 rfl (Nat.le_of_ble_eq_true rfl) dX2_makeRoom_25 (fun r7 σ8 _ _ hf => ?_)
    refine v_put hC hf fd_2_0 w_85 rfl rfl dX2_makeRoom_28 (fun σ9 hf => ?_)
    exact v_retV hC hf hE dX2_makeRoom_31
set_option maxHeartbeats 4000000 in
set_option maxRecDepth 100000 in
theorem m_X2_become {G : Gm} {l : Launch} {σ : St} {a0 : Nat} {a1 : Nat} {r : Unit} {σf : St} {k s : Nat} (hf : f_X2_become σ a0 a1 = some (r, σf, k, s)) : (∃ fs : List Value, σ.1 a0 = some (.inr (.inl (2, fs)))) ∧ Ct G l y_X2_become prog_4_method_10_code 2 none 3 69 [.ref a0, .ref a1] σ none σf k s := by
  unfold f_X2_become at hf
  obtain ⟨hob, hf⟩ := ob_some hf
  refine ⟨hob, Ct.ofV pl_X2_become (Nat.le_of_ble_eq_true rfl) ?_⟩
  intro K hR hN hnm hC hE
  show V K (k + 0) (s + 0) σ 0 [(0, .ref a0), (1, .ref a1)] []
  refine v_aload_n hC 0 dX2_become_0 rfl ?_
  refine v_aload_n hC 1 dX2_become_1 rfl ?_
  refine v_getI hC (host := "") hf fd_2_1 w_86 dX2_become_2 (fun x1 hf => ?_)
  refine v_cVE hC (y := y_X2_makeRoom) (ci := 2) [.int x1] [] (fun _ => none) (fun _ => []) hf (fun _ _ _ _ h => m_X2_makeRoom h) rfl (fun _ => rfl) rfl rfl hR (Nat.le_of_ble_eq_true rfl) (Nat.le_of_ble_eq_true rfl) w_249 w_246 w_248 w_1 w_59 nm_X2_makeRoom rfl (Nat.le_of_ble_eq_true rfl) dX2_become_5 (fun _ σ2 _ _ hf => ?_)
  refine v_aload_n hC 1 dX2_become_8 rfl ?_
  refine v_getR hC (host := "") hf fd_2_0 w_85 dX2_become_9 (fun r3 hf => ?_)
  refine v_iconst (v := 0) hC dX2_become_12 (by decide) ?_
  refine v_aload_n hC 0 dX2_become_13 rfl ?_
  refine v_at 14 rfl ?_
  refine v_getR hC (host := "") hf fd_2_0 w_85 dX2_become_14 (fun r4 hf => ?_)
  refine v_iconst (v := 0) hC dX2_become_17 (by decide) ?_
  refine v_aload_n hC 1 dX2_become_18 rfl ?_
  refine v_getI hC (host := "") hf fd_2_1 w_86 dX2_become_19 (fun x5 hf => ?_)
  refine v_cpy hC hf hR (Nat.le_of_ble_eq_true rfl) (Nat.le_of_ble_eq_true rfl) w_269 w_268 w_267 w_67 (Nat.le_of_ble_eq_true rfl) dX2_become_22 (fun σ6 hf => ?_)
  refine v_aload_n hC 0 dX2_become_25 rfl ?_
  refine v_aload_n hC 1 dX2_become_26 rfl ?_
  refine v_getI hC (host := "") hf fd_2_1 w_86 dX2_become_27 (fun x7 hf => ?_)
  refine v_at 30 rfl ?_
  refine v_put hC hf fd_2_1 w_86 rfl rfl dX2_become_30 (fun σ8 hf => ?_)
  exact v_retV hC hf hE dX2_become_33
set_option maxHeartbeats 4000000 in
set_option maxRecDepth 100000 in
theorem m_X0_become {G : Gm} {l : Launch} {σ : St} {a0 : Nat} {a1 : Nat} {i2 : Int32} {i3 : Int32} {r : Unit} {σf : St} {k s : Nat} (hf : f_X0_become σ a0 a1 i2 i3 = some (r, σf, k, s)) : (∃ fs : List Value, σ.1 a0 = some (.inr (.inl (0, fs)))) ∧ Ct G l y_X0_become prog_2_method_3_code 4 none 4 90 [.ref a0, .ref a1, .int i2, .int i3] σ none σf k s := by
  unfold f_X0_become at hf
  obtain ⟨hob, hf⟩ := ob_some hf
  refine ⟨hob, Ct.ofV pl_X0_become (Nat.le_of_ble_eq_true rfl) ?_⟩
  intro K hR hN hnm hC hE
  show V K (k + 0) (s + 0) σ 0 [(0, .ref a0), (1, .ref a1), (2, .int i2), (3, .int i3)] []
  refine v_aload_n hC 0 dX0_become_0 rfl ?_
  refine v_getR hC (host := "") hf fd_0_0 w_169 dX0_become_1 (fun r1 hf => ?_)
  refine v_aload_n hC 1 dX0_become_4 rfl ?_
  refine v_cVE hC (y := y_X2_become) (ci := 2) [.ref a1] [] (fun _ => none) (fun _ => []) hf (fun _ _ _ _ h => m_X2_become h) rfl (fun _ => rfl) rfl rfl hR (Nat.le_of_ble_eq_true rfl) (Nat.le_of_ble_eq_true rfl) w_245 w_242 w_243 w_244 w_59 nm_X2_become rfl (Nat.le_of_ble_eq_true rfl) dX0_become_5 (fun _ σ2 _ _ hf => ?_)
  refine v_aload_n hC 0 dX0_become_8 rfl ?_
  refine v_iload_n hC 2 dX0_become_9 rfl ?_
  refine v_jnE hf (fun z3 kr sr => V K (kr + 0) (sr + 0) σ2 28 [(0, .ref a0), (3, .int i3)] [.int z3, .ref a0]) (fun z3 _ _ hf => ?_) (fun k3 hk3 hf => ?_)
  · refine v_bZ hf (fun hz1 hz2 hf => ?_)
    refine v_put hC hf fd_0_1 w_173 hz1 hz2 dX0_become_28 (fun σ4 hf => ?_)
    refine v_aload_n hC 0 dX0_become_31 rfl ?_
    refine v_iload_n hC 1 dX0_become_32 rfl ?_
    refine v_put hC hf fd_0_2 w_176 rfl rfl dX0_become_33 (fun σ5 hf => ?_)
    exact v_retV hC hf hE dX0_become_36
  · refine v_jnE hf (fun z6 kr sr => V K (kr + 0) (sr + 0) σ2 27 [(0, .ref a0), (3, .int i3)] [.ref a0]) (fun z6 _ _ hf => ?_) (fun k6 hk6 hf => ?_)
    · refine v_iconst (v := 0) hC dX0_become_27 (by decide) ?_
      refine v_at 28 rfl ?_
      exact v_sub [(0, .ref a0), (3, .int i3)] [0, 1] rfl (hk3 _ _ _ hf)
    · refine v_if_eq hC hf dX0_become_10 (tgt := 27) (by decide) (fun hf => ?_) (fun hf => ?_)
      · exact v_sub [(0, .ref a0), (3, .int i3)] [0, 3] rfl (hk6 _ _ _ hf)
      · refine v_at 13 rfl ?_
        refine v_aload_n hC 0 dX0_become_13 rfl ?_
        refine v_getR hC (host := "") hf fd_0_0 w_169 dX0_become_14 (fun r7 hf => ?_)
        refine v_cVP hC (y := y_X2_isZero) (ci := 2) [] [.ref a0] (fun r => some (.int r)) (fun r => .int r :: [.ref a0]) hf (fun _ h => m_X2_isZero h) rfl (fun _ => rfl) rfl rfl hR (Nat.le_of_ble_eq_true rfl) (Nat.le_of_ble_eq_true rfl) w_273 w_270 w_271 w_272 w_59 nm_X2_isZero rfl (Nat.le_of_ble_eq_true rfl) dX0_become_17 (fun x8 hf => ?_)
        refine v_if_ne hC hf dX0_become_20 (tgt := 27) (by decide) (fun hf => ?_) (fun hf => ?_)
        · exact v_sub [(0, .ref a0), (3, .int i3)] [0, 3] rfl (hk6 _ _ _ hf)
        · refine v_at 23 rfl ?_
          refine v_iconst (v := 1) hC dX0_become_23 (by decide) ?_
          refine v_goto (tgt := 28) hC dX0_become_24 (by decide) ?_
          exact v_sub [(0, .ref a0), (3, .int i3)] [0, 3] rfl (hk3 _ _ _ hf)
set_option maxHeartbeats 4000000 in
set_option maxRecDepth 100000 in
theorem m_X1_init {G : Gm} {l : Launch} {σ : St} {a0 : Nat} {r : Unit} {σf : St} {k s : Nat} (hf : f_X1_init σ a0 = some (r, σf, k, s)) : Ct G l y_X1_init prog_3_method_1_code 1 none 1 20 [.ref a0] σ none σf k s := by
  unfold f_X1_init at hf
  refine Ct.ofV pl_X1_init (Nat.le_of_ble_eq_true rfl) ?_
  intro K hR hN hnm hC hE
  show V K (k + 0) (s + 0) σ 0 [(0, .ref a0)] []
  refine v_aload_n hC 0 dX1_init_0 rfl ?_
  refine v_oinit hC hR (Nat.le_of_ble_eq_true rfl) (Nat.le_of_ble_eq_true rfl) w_142 w_75 w_76 (Nat.le_of_ble_eq_true rfl) dX1_init_1 ?_
  exact v_retV hC hf hE dX1_init_4
def E_X2_digitCount_L23 (K : Cq) (kr sr : Nat) (σ : St) (a0 : Nat) (y : Int32) : Prop := V K kr sr σ 44 [(0, .ref a0), (2, .int y)] []
set_option maxHeartbeats 4000000 in
set_option maxRecDepth 100000 in
theorem v_X2_digitCount_L23 {K : Cq} {k0 s0 : Nat} (hC : Cx K prog_4_method_5_code "TensMill$Natural") (hR : kR K = rmF 0 0 k0 s0) (hN : kn K = 3) {kr sr : Nat} : ∀ (n : Nat) (σ : St) (a0 : Nat) (i1 : Int32) (i2 : Int32) (y : Int32), f_X2_digitCount_L23 n σ a0 i1 i2 = some y → E_X2_digitCount_L23 K kr sr σ a0 y → V K kr sr σ 23 [(0, .ref a0), (1, .int i1), (2, .int i2)] [] := by
  intro n
  induction n with
  | zero =>
    intro σ a0 i1 i2 y hf hE
    cases hf
  | succ n ih =>
    intro σ a0 i1 i2 y hf hE
    replace hf : b_X2_digitCount_L23 (f_X2_digitCount_L23 n) σ a0 i1 i2 = some y := hf
    unfold b_X2_digitCount_L23 at hf
    refine v_iload_n hC 2 dX2_digitCount_23 rfl ?_
    refine v_bipush (v := 9) hC dX2_digitCount_24 (by decide) ?_
    refine v_icmp_ge hC hf dX2_digitCount_26 (tgt := 44) (by decide) (fun hf => ?_) (fun hf => ?_)
    · exact v_sub [(0, .ref a0), (2, .int i2)] [0, 2] rfl (v_exP (E := E_X2_digitCount_L23 K _ _ _ a0) hf hE)
    · refine v_at 29 rfl ?_
      refine v_iload_n hC 1 dX2_digitCount_29 rfl ?_
      refine v_getsN hC n_20 dX2_digitCount_30 ?_
      refine v_iload_n hC 2 dX2_digitCount_33 rfl ?_
      refine v_ldI hC hf dX2_digitCount_34 (fun x5 hf => ?_)
      refine v_icmp_lt hC hf dX2_digitCount_35 (tgt := 44) (by decide) (fun hf => ?_) (fun hf => ?_)
      · exact v_sub [(0, .ref a0), (2, .int i2)] [0, 2] rfl (v_exP (E := E_X2_digitCount_L23 K _ _ _ a0) hf hE)
      · refine v_at 38 rfl ?_
        refine v_incL hC hf 2 (fun x6 => [(2, .int x6), (0, .ref a0), (1, .int i1)]) dX2_digitCount_38 rfl (by decide) hN (Nat.le_of_ble_eq_true rfl) (fun _ => rfl) (fun x6 hf => ?_)
        refine v_goto (tgt := 23) hC dX2_digitCount_41 (by decide) ?_
        exact v_sub [(0, .ref a0), (1, .int i1), (2, .int x6)] [1, 2, 0] rfl (ih _ _ _ _ _ hf hE)
set_option maxHeartbeats 4000000 in
set_option maxRecDepth 100000 in
theorem m_X2_digitCount {G : Gm} {l : Launch} {σ : St} {a0 : Nat} {r : Int32} (hf : f_X2_digitCount σ a0 = some r) : (∃ fs : List Value, σ.1 a0 = some (.inr (.inl (2, fs)))) ∧ Ct G l y_X2_digitCount prog_4_method_5_code 3 (some .int) 0 0 [.ref a0] σ (some (.int r)) σ 0 0 := by
  unfold f_X2_digitCount at hf
  obtain ⟨hob, hf⟩ := ob_some hf
  refine ⟨hob, Ct.ofV pl_X2_digitCount (Nat.le_of_ble_eq_true rfl) ?_⟩
  intro K hR hN hnm hC hE
  show V K 0 0 σ 0 [(0, .ref a0)] []
  refine v_aload_n hC 0 dX2_digitCount_0 rfl ?_
  refine v_getI hC (host := "") hf fd_2_1 w_86 dX2_digitCount_1 (fun x1 hf => ?_)
  refine v_if_ne hC hf dX2_digitCount_4 (tgt := 9) (by decide) (fun hf => ?_) (fun hf => ?_)
  · refine v_aload_n hC 0 dX2_digitCount_9 rfl ?_
    refine v_getR hC (host := "") hf fd_2_0 w_85 dX2_digitCount_10 (fun r2 hf => ?_)
    refine v_aload_n hC 0 dX2_digitCount_13 rfl ?_
    refine v_getI hC (host := "") hf fd_2_1 w_86 dX2_digitCount_14 (fun x3 hf => ?_)
    refine v_iconst (v := 1) hC dX2_digitCount_17 (by decide) ?_
    refine v_isub hC dX2_digitCount_18 ?_
    refine v_ldI hC hf dX2_digitCount_19 (fun x4 hf => ?_)
    refine v_istore_n hC [(1, .int x4), (0, .ref a0)] dX2_digitCount_20 rfl hN (Nat.le_of_ble_eq_true rfl) rfl ?_
    refine v_at 21 rfl ?_
    refine v_iconst (v := 1) hC dX2_digitCount_21 (by decide) ?_
    refine v_istore_n hC [(2, .int 1), (1, .int x4), (0, .ref a0)] dX2_digitCount_22 rfl hN (Nat.le_of_ble_eq_true rfl) rfl ?_
    refine v_at 23 rfl ?_
    refine v_sub [(0, .ref a0), (1, .int x4), (2, .int 1)] [2, 1, 0] rfl ?_
    refine v_lpP hf (E_X2_digitCount_L23 K _ _ σ a0) (fun _ h hE => v_X2_digitCount_L23 hC hR hN _ _ _ _ _ _ h hE) (fun y7 hf => ?_)
    show V K _ _ σ 44 [(0, .ref a0), (2, .int y7)] []
    refine v_aload_n hC 0 dX2_digitCount_44 rfl ?_
    refine v_getI hC (host := "") hf fd_2_1 w_86 dX2_digitCount_45 (fun x8 hf => ?_)
    refine v_iconst (v := 1) hC dX2_digitCount_48 (by decide) ?_
    refine v_isub hC dX2_digitCount_49 ?_
    refine v_bipush (v := 9) hC dX2_digitCount_50 (by decide) ?_
    refine v_imul hC dX2_digitCount_52 ?_
    refine v_iload_n hC 1 dX2_digitCount_53 rfl ?_
    refine v_iadd hC dX2_digitCount_54 ?_
    refine v_at 55 rfl ?_
    exact v_retIP hC hf hE dX2_digitCount_55
  · refine v_at 7 rfl ?_
    refine v_iconst (v := 1) hC dX2_digitCount_7 (by decide) ?_
    exact v_retIP hC hf hE dX2_digitCount_8
set_option maxHeartbeats 4000000 in
set_option maxRecDepth 100000 in
theorem m_J9_max_f86c9 {G : Gm} {l : Launch} {σ : St} {j0 : Int64} {j2 : Int64} {r : Int64} (hf : f_J9_max_f86c9 σ j0 j2 = some r) : Ct G l y_J9_max_f86c9 prog_11_method_66_code 4 (some .long) 0 0 [.long j0, .long j2] σ (some (.long r)) σ 0 0 := by
  unfold f_J9_max_f86c9 at hf
  refine Ct.ofV pl_J9_max_f86c9 (Nat.le_of_ble_eq_true rfl) ?_
  intro K hR hN hnm hC hE
  show V K 0 0 σ 0 [(0, .long j0), (2, .long j2)] []
  refine v_lload_n hC 0 dJ9_max_f86c9_0 rfl ?_
  refine v_lload_n hC 1 dJ9_max_f86c9_1 rfl ?_
  refine v_lcmp_lt hC hf dJ9_max_f86c9_2 dJ9_max_f86c9_3 (tgt := 10) (by decide) (fun hf => ?_) (fun hf => ?_)
  · refine v_lload_n hC 1 dJ9_max_f86c9_10 rfl ?_
    exact v_retLP hC hf hE dJ9_max_f86c9_11
  · refine v_at 6 rfl ?_
    refine v_lload_n hC 0 dJ9_max_f86c9_6 rfl ?_
    refine v_goto (tgt := 11) hC dJ9_max_f86c9_7 (by decide) ?_
    exact v_retLP hC hf hE dJ9_max_f86c9_11
set_option maxHeartbeats 4000000 in
set_option maxRecDepth 100000 in
theorem m_X1_planPlain {G : Gm} {l : Launch} {σ : St} {a0 : Nat} {a1 : Nat} {r : Unit} {σf : St} {k s : Nat} (hf : f_X1_planPlain σ a0 a1 = some (r, σf, k, s)) : (∃ fs : List Value, σ.1 a0 = some (.inr (.inl (1, fs)))) ∧ Ct G l y_X1_planPlain prog_3_method_3_code 2 none 1 23 [.ref a0, .ref a1] σ none σf k s := by
  unfold f_X1_planPlain at hf
  obtain ⟨hob, hf⟩ := ob_some hf
  refine ⟨hob, Ct.ofV pl_X1_planPlain (Nat.le_of_ble_eq_true rfl) ?_⟩
  intro K hR hN hnm hC hE
  show V K (k + 0) (s + 0) σ 0 [(0, .ref a0), (1, .ref a1)] []
  refine v_aload_n hC 0 dX1_planPlain_0 rfl ?_
  refine v_lconst (v := 0) hC dX1_planPlain_1 (by decide) ?_
  refine v_put hC hf fd_1_5 w_148 rfl rfl dX1_planPlain_2 (fun σ1 hf => ?_)
  refine v_aload_n hC 1 dX1_planPlain_5 rfl ?_
  refine v_getIN hC hf fd_0_2 n_18 dX1_planPlain_6 (fun x2 hf => ?_)
  refine v_if_lt hC hf dX1_planPlain_9 (tgt := 59) (by decide) (fun hf => ?_) (fun hf => ?_)
  · refine v_aload_n hC 0 dX1_planPlain_59 rfl ?_
    refine v_lconst (v := 0) hC dX1_planPlain_60 (by decide) ?_
    refine v_put hC hf fd_1_2 w_145 rfl rfl dX1_planPlain_61 (fun σ3 hf => ?_)
    refine v_aload_n hC 0 dX1_planPlain_64 rfl ?_
    refine v_aload_n hC 1 dX1_planPlain_65 rfl ?_
    refine v_getRN hC hf fd_0_0 n_14 dX1_planPlain_66 (fun r4 hf => ?_)
    refine v_cVP hC (y := y_X2_isZero) (ci := 2) [] [.ref a0] (fun r => some (.int r)) (fun r => .int r :: [.ref a0]) hf (fun _ h => m_X2_isZero h) rfl (fun _ => rfl) rfl rfl hR (Nat.le_of_ble_eq_true rfl) (Nat.le_of_ble_eq_true rfl) w_273 w_614 w_271 w_272 w_59 nm_X2_isZero rfl (Nat.le_of_ble_eq_true rfl) dX1_planPlain_69 (fun x5 hf => ?_)
    refine v_jnE hf (fun z6 kr sr => V K (kr + 0) (sr + 0) σ3 85 [(0, .ref a0)] [.long z6, .ref a0]) (fun z6 _ _ hf => ?_) (fun k6 hk6 hf => ?_)
    · refine v_put hC hf fd_1_3 w_146 rfl rfl dX1_planPlain_85 (fun σ7 hf => ?_)
      refine v_aload_n hC 0 dX1_planPlain_88 rfl ?_
      refine v_aload_n hC 0 dX1_planPlain_89 rfl ?_
      refine v_getI hC (host := "") hf fd_1_1 w_144 dX1_planPlain_90 (fun x8 hf => ?_)
      refine v_i2l hC dX1_planPlain_93 ?_
      refine v_aload_n hC 0 dX1_planPlain_94 rfl ?_
      refine v_getL hC (host := "") hf fd_1_3 w_146 dX1_planPlain_95 (fun l9 hf => ?_)
      refine v_ladd hC dX1_planPlain_98 ?_
      refine v_at 99 rfl ?_
      refine v_put hC hf fd_1_4 w_147 rfl rfl dX1_planPlain_99 (fun σ10 hf => ?_)
      exact v_retV hC hf hE dX1_planPlain_102
    · refine v_if_eq hC hf dX1_planPlain_72 (tgt := 79) (by decide) (fun hf => ?_) (fun hf => ?_)
      · refine v_aload_n hC 1 dX1_planPlain_79 rfl ?_
        refine v_getIN hC hf fd_0_2 n_18 dX1_planPlain_80 (fun x11 hf => ?_)
        refine v_i2l hC dX1_planPlain_83 ?_
        refine v_lneg hC dX1_planPlain_84 ?_
        refine v_at 85 rfl ?_
        exact v_sub [(0, .ref a0)] [0] rfl (hk6 _ _ _ hf)
      · refine v_at 75 rfl ?_
        refine v_lconst (v := 0) hC dX1_planPlain_75 (by decide) ?_
        refine v_goto (tgt := 85) hC dX1_planPlain_76 (by decide) ?_
        exact v_sub [(0, .ref a0)] [0] rfl (hk6 _ _ _ hf)
  · refine v_at 12 rfl ?_
    refine v_aload_n hC 0 dX1_planPlain_12 rfl ?_
    refine v_lconst (v := 0) hC dX1_planPlain_13 (by decide) ?_
    refine v_aload_n hC 1 dX1_planPlain_14 rfl ?_
    refine v_getIN hC hf fd_0_2 n_18 dX1_planPlain_15 (fun x12 hf => ?_)
    refine v_i2l hC dX1_planPlain_18 ?_
    refine v_lconst (v := 1) hC dX1_planPlain_19 (by decide) ?_
    refine v_ladd hC dX1_planPlain_20 ?_
    refine v_aload_n hC 0 dX1_planPlain_21 rfl ?_
    refine v_at 22 rfl ?_
    refine v_getI hC (host := "") hf fd_1_1 w_144 dX1_planPlain_22 (fun x13 hf => ?_)
    refine v_i2l hC dX1_planPlain_25 ?_
    refine v_lsub hC dX1_planPlain_26 ?_
    refine v_cSP hC (y := y_J9_max_f86c9) [.long 0, .long ((((x12 : Int32).toInt64) + 1) - ((x13 : Int32).toInt64))] [.ref a0] (fun r => some (.long r)) (fun r => .long r :: [.ref a0]) hf (fun _ h => m_J9_max_f86c9 h) rfl (fun _ => rfl) hR (Nat.le_of_ble_eq_true rfl) (Nat.le_of_ble_eq_true rfl) w_366 w_613 w_365 w_65 nm_J9_max_f86c9 rfl (Nat.le_of_ble_eq_true rfl) dX1_planPlain_27 (fun l14 hf => ?_)
    refine v_put hC hf fd_1_2 w_145 rfl rfl dX1_planPlain_30 (fun σ15 hf => ?_)
    refine v_aload_n hC 0 dX1_planPlain_33 rfl ?_
    refine v_lconst (v := 0) hC dX1_planPlain_34 (by decide) ?_
    refine v_put hC hf fd_1_3 w_146 rfl rfl dX1_planPlain_35 (fun σ16 hf => ?_)
    refine v_at 38 rfl ?_
    refine v_aload_n hC 0 dX1_planPlain_38 rfl ?_
    refine v_aload_n hC 0 dX1_planPlain_39 rfl ?_
    refine v_getL hC (host := "") hf fd_1_2 w_145 dX1_planPlain_40 (fun l17 hf => ?_)
    refine v_aload_n hC 0 dX1_planPlain_43 rfl ?_
    refine v_getI hC (host := "") hf fd_1_1 w_144 dX1_planPlain_44 (fun x18 hf => ?_)
    refine v_i2l hC dX1_planPlain_47 ?_
    refine v_ladd hC dX1_planPlain_48 ?_
    refine v_aload_n hC 1 dX1_planPlain_49 rfl ?_
    refine v_at 50 rfl ?_
    refine v_getIN hC hf fd_0_2 n_18 dX1_planPlain_50 (fun x19 hf => ?_)
    refine v_i2l hC dX1_planPlain_53 ?_
    refine v_lsub hC dX1_planPlain_54 ?_
    refine v_put hC hf fd_1_4 w_147 rfl rfl dX1_planPlain_55 (fun σ20 hf => ?_)
    exact v_retV hC hf hE dX1_planPlain_58
set_option maxHeartbeats 4000000 in
set_option maxRecDepth 100000 in
theorem m_J9_floorMod_f86c9 {G : Gm} {l : Launch} {σ : St} {j0 : Int64} {j2 : Int64} {r : Int64} (hf : f_J9_floorMod_f86c9 σ j0 j2 = some r) : Ct G l y_J9_floorMod_f86c9 prog_11_method_52_code 6 (some .long) 0 0 [.long j0, .long j2] σ (some (.long r)) σ 0 0 := by
  unfold f_J9_floorMod_f86c9 at hf
  refine Ct.ofV pl_J9_floorMod_f86c9 (Nat.le_of_ble_eq_true rfl) ?_
  intro K hR hN hnm hC hE
  show V K 0 0 σ 0 [(0, .long j0), (2, .long j2)] []
  refine v_lload_n hC 0 dJ9_floorMod_f86c9_0 rfl ?_
  refine v_lload_n hC 1 dJ9_floorMod_f86c9_1 rfl ?_
  refine v_lrem hC hf dJ9_floorMod_f86c9_2 (fun l1 hf => ?_)
  refine v_lstore hC [(4, .long l1), (0, .long j0), (2, .long j2)] dJ9_floorMod_f86c9_3 hN (Nat.le_of_ble_eq_true rfl) rfl ?_
  refine v_lload_n hC 1 dJ9_floorMod_f86c9_5 rfl ?_
  refine v_lload_n hC 2 dJ9_floorMod_f86c9_6 rfl ?_
  refine v_lxor hC dJ9_floorMod_f86c9_7 ?_
  refine v_lconst (v := 0) hC dJ9_floorMod_f86c9_8 (by decide) ?_
  refine v_at 9 rfl ?_
  refine v_lcmp_ge hC hf dJ9_floorMod_f86c9_9 dJ9_floorMod_f86c9_10 (tgt := 25) (by decide) (fun hf => ?_) (fun hf => ?_)
  · refine v_lload hC 0 dJ9_floorMod_f86c9_25 rfl ?_
    exact v_retLP hC hf hE dJ9_floorMod_f86c9_27
  · refine v_at 13 rfl ?_
    refine v_lload hC 0 dJ9_floorMod_f86c9_13 rfl ?_
    refine v_lconst (v := 0) hC dJ9_floorMod_f86c9_15 (by decide) ?_
    refine v_lcmp_eq hC hf dJ9_floorMod_f86c9_16 dJ9_floorMod_f86c9_17 (tgt := 25) (by decide) (fun hf => ?_) (fun hf => ?_)
    · refine v_lload hC 0 dJ9_floorMod_f86c9_25 rfl ?_
      exact v_retLP hC hf hE dJ9_floorMod_f86c9_27
    · refine v_at 20 rfl ?_
      refine v_lload hC 0 dJ9_floorMod_f86c9_20 rfl ?_
      refine v_lload_n hC 2 dJ9_floorMod_f86c9_22 rfl ?_
      refine v_ladd hC dJ9_floorMod_f86c9_23 ?_
      exact v_retLP hC hf hE dJ9_floorMod_f86c9_24
set_option maxHeartbeats 4000000 in
set_option maxRecDepth 100000 in
theorem m_X1_plan {G : Gm} {l : Launch} {σ : St} {a0 : Nat} {a1 : Nat} {i2 : Int32} {r : Unit} {σf : St} {k s : Nat} (hf : f_X1_plan σ a0 a1 i2 = some (r, σf, k, s)) : (∃ fs : List Value, σ.1 a0 = some (.inr (.inl (1, fs)))) ∧ Ct G l y_X1_plan prog_3_method_2_code 7 none 2 44 [.ref a0, .ref a1, .int i2] σ none σf k s := by
  unfold f_X1_plan at hf
  obtain ⟨hob, hf⟩ := ob_some hf
  refine ⟨hob, Ct.ofV pl_X1_plan (Nat.le_of_ble_eq_true rfl) ?_⟩
  intro K hR hN hnm hC hE
  show V K (k + 0) (s + 0) σ 0 [(0, .ref a0), (1, .ref a1), (2, .int i2)] []
  refine v_aload_n hC 0 dX1_plan_0 rfl ?_
  refine v_aload_n hC 1 dX1_plan_1 rfl ?_
  refine v_getIN hC hf fd_0_1 n_16 dX1_plan_2 (fun x1 hf => ?_)
  refine v_bZ hf (fun hz1 hz2 hf => ?_)
  refine v_put hC hf fd_1_0 w_143 hz1 hz2 dX1_plan_5 (fun σ2 hf => ?_)
  refine v_aload_n hC 0 dX1_plan_8 rfl ?_
  refine v_aload_n hC 1 dX1_plan_9 rfl ?_
  refine v_getRN hC hf fd_0_0 n_14 dX1_plan_10 (fun r3 hf => ?_)
  refine v_cVP hC (y := y_X2_digitCount) (ci := 2) [] [.ref a0] (fun r => some (.int r)) (fun r => .int r :: [.ref a0]) hf (fun _ h => m_X2_digitCount h) rfl (fun _ => rfl) rfl rfl hR (Nat.le_of_ble_eq_true rfl) (Nat.le_of_ble_eq_true rfl) w_235 w_607 w_233 w_234 w_59 nm_X2_digitCount rfl (Nat.le_of_ble_eq_true rfl) dX1_plan_13 (fun x4 hf => ?_)
  refine v_at 16 rfl ?_
  refine v_put hC hf fd_1_1 w_144 rfl rfl dX1_plan_16 (fun σ5 hf => ?_)
  refine v_aload_n hC 0 dX1_plan_19 rfl ?_
  refine v_getI hC (host := "") hf fd_1_1 w_144 dX1_plan_20 (fun x6 hf => ?_)
  refine v_i2l hC dX1_plan_23 ?_
  refine v_lconst (v := 1) hC dX1_plan_24 (by decide) ?_
  refine v_lsub hC dX1_plan_25 ?_
  refine v_aload_n hC 1 dX1_plan_26 rfl ?_
  refine v_getIN hC hf fd_0_2 n_18 dX1_plan_27 (fun x7 hf => ?_)
  refine v_at 30 rfl ?_
  refine v_i2l hC dX1_plan_30 ?_
  refine v_lsub hC dX1_plan_31 ?_
  refine v_ltL hf (fun l8 hf => ?_)
  refine v_lstore_n hC [(3, .long l8), (0, .ref a0), (1, .ref a1), (2, .int i2)] dX1_plan_32 rfl hN (Nat.le_of_ble_eq_true rfl) rfl ?_
  refine v_iload_n hC 3 dX1_plan_33 rfl ?_
  refine v_iconst (v := 2) hC dX1_plan_34 (by decide) ?_
  refine v_jnE hf (fun z9 kr sr => V K (kr + 0) (sr + 0) σ5 53 [(0, .ref a0), (1, .ref a1)] []) (fun z9 _ _ hf => ?_) (fun k9 hk9 hf => ?_)
  · refine v_aload_n hC 0 dX1_plan_53 rfl ?_
    refine v_aload_n hC 1 dX1_plan_54 rfl ?_
    refine v_cVE hC (y := y_X1_planPlain) (ci := 1) [.ref a1] [] (fun _ => none) (fun _ => []) hf (fun _ _ _ _ h => m_X1_planPlain h) rfl (fun _ => rfl) rfl rfl hR (Nat.le_of_ble_eq_true rfl) (Nat.le_of_ble_eq_true rfl) w_612 w_609 w_611 w_24 w_62 nm_X1_planPlain rfl (Nat.le_of_ble_eq_true rfl) dX1_plan_55 (fun _ σ10 _ _ hf => ?_)
    exact v_retV hC hf hE dX1_plan_58
  · refine v_icmp_eq hC hf dX1_plan_35 (tgt := 53) (by decide) (fun hf => ?_) (fun hf => ?_)
    · exact v_sub [(0, .ref a0), (1, .ref a1)] [1, 2] rfl (hk9 _ _ _ hf)
    · refine v_at 38 rfl ?_
      refine v_aload_n hC 2 dX1_plan_38 rfl ?_
      refine v_getIN hC hf fd_0_2 n_18 dX1_plan_39 (fun x11 hf => ?_)
      refine v_jnE hf (fun z12 kr sr => V K (kr + 0) (sr + 0) σ5 59 [(0, .ref a0), (1, .ref a1), (2, .int i2), (3, .long l8)] []) (fun z12 _ _ hf => ?_) (fun k12 hk12 hf => ?_)
      · refine v_aload_n hC 0 dX1_plan_59 rfl ?_
        refine v_lconst (v := 0) hC dX1_plan_60 (by decide) ?_
        refine v_put hC hf fd_1_2 w_145 rfl rfl dX1_plan_61 (fun σ13 hf => ?_)
        refine v_aload_n hC 1 dX1_plan_64 rfl ?_
        refine v_getRN hC hf fd_0_0 n_14 dX1_plan_65 (fun r14 hf => ?_)
        refine v_cVP hC (y := y_X2_isZero) (ci := 2) [] [] (fun r => some (.int r)) (fun r => .int r :: []) hf (fun _ h => m_X2_isZero h) rfl (fun _ => rfl) rfl rfl hR (Nat.le_of_ble_eq_true rfl) (Nat.le_of_ble_eq_true rfl) w_273 w_614 w_271 w_272 w_59 nm_X2_isZero rfl (Nat.le_of_ble_eq_true rfl) dX1_plan_68 (fun x15 hf => ?_)
        refine v_if_eq hC hf dX1_plan_71 (tgt := 111) (by decide) (fun hf => ?_) (fun hf => ?_)
        · refine v_iload_n hC 2 dX1_plan_111 rfl ?_
          refine v_iconst (v := 1) hC dX1_plan_112 (by decide) ?_
          refine v_jnE hf (fun z16 kr sr => V K (kr + 0) (sr + 0) σ13 127 [(0, .ref a0), (3, .long l8)] [.long z16]) (fun z16 _ _ hf => ?_) (fun k16 hk16 hf => ?_)
          · refine v_lstore hC [(5, .long z16), (0, .ref a0), (3, .long l8)] dX1_plan_127 hN (Nat.le_of_ble_eq_true rfl) rfl ?_
            refine v_aload_n hC 1 dX1_plan_129 rfl ?_
            refine v_lconst (v := 1) hC dX1_plan_130 (by decide) ?_
            refine v_lload hC 0 dX1_plan_131 rfl ?_
            refine v_ladd hC dX1_plan_133 ?_
            refine v_put hC hf fd_1_4 w_147 rfl rfl dX1_plan_134 (fun σ17 hf => ?_)
            refine v_aload_n hC 1 dX1_plan_137 rfl ?_
            refine v_lconst (v := 0) hC dX1_plan_138 (by decide) ?_
            refine v_at 139 rfl ?_
            refine v_aload_n hC 1 dX1_plan_139 rfl ?_
            refine v_getL hC (host := "") hf fd_1_4 w_147 dX1_plan_140 (fun l18 hf => ?_)
            refine v_aload_n hC 1 dX1_plan_143 rfl ?_
            refine v_getI hC (host := "") hf fd_1_1 w_144 dX1_plan_144 (fun x19 hf => ?_)
            refine v_i2l hC dX1_plan_147 ?_
            refine v_lsub hC dX1_plan_148 ?_
            refine v_cSP hC (y := y_J9_max_f86c9) [.long 0, .long (l18 - ((x19 : Int32).toInt64))] [.ref a0] (fun r => some (.long r)) (fun r => .long r :: [.ref a0]) hf (fun _ h => m_J9_max_f86c9 h) rfl (fun _ => rfl) hR (Nat.le_of_ble_eq_true rfl) (Nat.le_of_ble_eq_true rfl) w_366 w_613 w_365 w_65 nm_J9_max_f86c9 rfl (Nat.le_of_ble_eq_true rfl) dX1_plan_149 (fun l20 hf => ?_)
            refine v_put hC hf fd_1_3 w_146 rfl rfl dX1_plan_152 (fun σ21 hf => ?_)
            refine v_at 155 rfl ?_
            refine v_aload_n hC 1 dX1_plan_155 rfl ?_
            refine v_lload_n hC 2 dX1_plan_156 rfl ?_
            refine v_lload hC 0 dX1_plan_157 rfl ?_
            refine v_lsub hC dX1_plan_159 ?_
            refine v_put hC hf fd_1_5 w_148 rfl rfl dX1_plan_160 (fun σ22 hf => ?_)
            exact v_retV hC hf hE dX1_plan_163
          · refine v_icmp_ne hC hf dX1_plan_113 (tgt := 126) (by decide) (fun hf => ?_) (fun hf => ?_)
            · refine v_lconst (v := 0) hC dX1_plan_126 (by decide) ?_
              refine v_at 127 rfl ?_
              exact v_sub [(0, .ref a0), (3, .long l8)] [0, 3] rfl (hk16 _ _ _ hf)
            · refine v_at 116 rfl ?_
              refine v_lload_n hC 3 dX1_plan_116 rfl ?_
              refine v_ldc2 hC dX1_plan_117 w_615 ?_
              refine v_cSP hC (y := y_J9_floorMod_f86c9) [.long l8, .long 3] [] (fun r => some (.long r)) (fun r => .long r :: []) hf (fun _ h => m_J9_floorMod_f86c9 h) rfl (fun _ => rfl) hR (Nat.le_of_ble_eq_true rfl) (Nat.le_of_ble_eq_true rfl) w_618 w_616 w_617 w_65 nm_J9_floorMod_f86c9 rfl (Nat.le_of_ble_eq_true rfl) dX1_plan_120 (fun l23 hf => ?_)
              refine v_goto (tgt := 127) hC dX1_plan_123 (by decide) ?_
              exact v_sub [(0, .ref a0), (3, .long l8)] [0, 3] rfl (hk16 _ _ _ hf)
        · refine v_at 74 rfl ?_
          refine v_aload_n hC 0 dX1_plan_74 rfl ?_
          refine v_iload_n hC 2 dX1_plan_75 rfl ?_
          refine v_iconst (v := 1) hC dX1_plan_76 (by decide) ?_
          refine v_jnE hf (fun z24 kr sr => V K (kr + 0) (sr + 0) σ13 92 [(0, .ref a0), (3, .long l8)] [.long z24, .ref a0]) (fun z24 _ _ hf => ?_) (fun k24 hk24 hf => ?_)
          · refine v_put hC hf fd_1_3 w_146 rfl rfl dX1_plan_92 (fun σ25 hf => ?_)
            refine v_aload_n hC 0 dX1_plan_95 rfl ?_
            refine v_lconst (v := 1) hC dX1_plan_96 (by decide) ?_
            refine v_put hC hf fd_1_4 w_147 rfl rfl dX1_plan_97 (fun σ26 hf => ?_)
            refine v_aload_n hC 0 dX1_plan_100 rfl ?_
            refine v_lload_n hC 1 dX1_plan_101 rfl ?_
            refine v_aload_n hC 0 dX1_plan_102 rfl ?_
            refine v_getL hC (host := "") hf fd_1_3 w_146 dX1_plan_103 (fun l27 hf => ?_)
            refine v_at 106 rfl ?_
            refine v_ladd hC dX1_plan_106 ?_
            refine v_put hC hf fd_1_5 w_148 rfl rfl dX1_plan_107 (fun σ28 hf => ?_)
            exact v_retV hC hf hE dX1_plan_110
          · refine v_icmp_ne hC hf dX1_plan_77 (tgt := 91) (by decide) (fun hf => ?_) (fun hf => ?_)
            · refine v_lconst (v := 0) hC dX1_plan_91 (by decide) ?_
              refine v_at 92 rfl ?_
              exact v_sub [(0, .ref a0), (3, .long l8)] [0, 3] rfl (hk24 _ _ _ hf)
            · refine v_at 80 rfl ?_
              refine v_lload_n hC 3 dX1_plan_80 rfl ?_
              refine v_lneg hC dX1_plan_81 ?_
              refine v_ldc2 hC dX1_plan_82 w_615 ?_
              refine v_cSP hC (y := y_J9_floorMod_f86c9) [.long (-l8), .long 3] [.ref a0] (fun r => some (.long r)) (fun r => .long r :: [.ref a0]) hf (fun _ h => m_J9_floorMod_f86c9 h) rfl (fun _ => rfl) hR (Nat.le_of_ble_eq_true rfl) (Nat.le_of_ble_eq_true rfl) w_618 w_616 w_617 w_65 nm_J9_floorMod_f86c9 rfl (Nat.le_of_ble_eq_true rfl) dX1_plan_85 (fun l29 hf => ?_)
              refine v_goto (tgt := 92) hC dX1_plan_88 (by decide) ?_
              exact v_sub [(0, .ref a0), (3, .long l8)] [0, 3] rfl (hk24 _ _ _ hf)
      · refine v_if_lt hC hf dX1_plan_42 (tgt := 59) (by decide) (fun hf => ?_) (fun hf => ?_)
        · exact v_sub [(0, .ref a0), (1, .ref a1), (2, .int i2), (3, .long l8)] [1, 2, 3, 0] rfl (hk12 _ _ _ hf)
        · refine v_at 45 rfl ?_
          refine v_lload_n hC 0 dX1_plan_45 rfl ?_
          refine v_ldc2 hC dX1_plan_46 w_608 ?_
          refine v_lcmp_lt hC hf dX1_plan_49 dX1_plan_50 (tgt := 59) (by decide) (fun hf => ?_) (fun hf => ?_)
          · exact v_sub [(0, .ref a0), (1, .ref a1), (2, .int i2), (3, .long l8)] [1, 2, 3, 0] rfl (hk12 _ _ _ hf)
          · refine v_at 53 rfl ?_
            exact v_sub [(0, .ref a0), (1, .ref a1)] [1, 2] rfl (hk9 _ _ _ hf)
set_option maxHeartbeats 4000000 in
set_option maxRecDepth 100000 in
theorem m_J9_abs_067f4 {G : Gm} {l : Launch} {σ : St} {j0 : Int64} {r : Int64} (hf : f_J9_abs_067f4 σ j0 = some r) : Ct G l y_J9_abs_067f4 prog_11_method_61_code 2 (some .long) 0 0 [.long j0] σ (some (.long r)) σ 0 0 := by
  unfold f_J9_abs_067f4 at hf
  refine Ct.ofV pl_J9_abs_067f4 (Nat.le_of_ble_eq_true rfl) ?_
  intro K hR hN hnm hC hE
  show V K 0 0 σ 0 [(0, .long j0)] []
  refine v_lload_n hC 0 dJ9_abs_067f4_0 rfl ?_
  refine v_lconst (v := 0) hC dJ9_abs_067f4_1 (by decide) ?_
  refine v_lcmp_ge hC hf dJ9_abs_067f4_2 dJ9_abs_067f4_3 (tgt := 11) (by decide) (fun hf => ?_) (fun hf => ?_)
  · refine v_lload_n hC 0 dJ9_abs_067f4_11 rfl ?_
    exact v_retLP hC hf hE dJ9_abs_067f4_12
  · refine v_at 6 rfl ?_
    refine v_lload_n hC 0 dJ9_abs_067f4_6 rfl ?_
    refine v_lneg hC dJ9_abs_067f4_7 ?_
    refine v_goto (tgt := 12) hC dJ9_abs_067f4_8 (by decide) ?_
    exact v_retLP hC hf hE dJ9_abs_067f4_12
def E_X1_highestUnit_L10 (K : Cq) (kr sr : Nat) (σ : St)  (y : Int64) : Prop := V K kr sr σ 37 [(3, .long y)] []
set_option maxHeartbeats 4000000 in
set_option maxRecDepth 100000 in
theorem v_X1_highestUnit_L10 {K : Cq} {k0 s0 : Nat} (hC : Cx K prog_3_method_7_code "TensMill$Layout") (hR : kR K = rmF 1 21 k0 s0) (hN : kn K = 5) {kr sr : Nat} : ∀ (n : Nat) (σ : St) (j1 : Int64) (j3 : Int64) (y : Int64), f_X1_highestUnit_L10 n σ j1 j3 = some y → E_X1_highestUnit_L10 K kr sr σ  y → V K kr sr σ 10 [(1, .long j1), (3, .long j3)] [] := by
  intro n
  induction n with
  | zero =>
    intro σ j1 j3 y hf hE
    cases hf
  | succ n ih =>
    intro σ j1 j3 y hf hE
    replace hf : b_X1_highestUnit_L10 (f_X1_highestUnit_L10 n) σ j1 j3 = some y := hf
    unfold b_X1_highestUnit_L10 at hf
    refine v_lload_n hC 1 dX1_highestUnit_10 rfl ?_
    refine v_ldc2 hC dX1_highestUnit_11 w_630 ?_
    refine v_lcmp_ge hC hf dX1_highestUnit_14 dX1_highestUnit_15 (tgt := 37) (by decide) (fun hf => ?_) (fun hf => ?_)
    · exact v_sub [(3, .long j3)] [1] rfl (v_exP (E := E_X1_highestUnit_L10 K _ _ _ ) hf hE)
    · refine v_at 18 rfl ?_
      refine v_lload_n hC 0 dX1_highestUnit_18 rfl ?_
      refine v_lload_n hC 1 dX1_highestUnit_19 rfl ?_
      refine v_ldiv hC hf dX1_highestUnit_20 (fun l3 hf => ?_)
      refine v_ldc2 hC dX1_highestUnit_21 w_631 ?_
      refine v_lcmp_lt hC hf dX1_highestUnit_24 dX1_highestUnit_25 (tgt := 37) (by decide) (fun hf => ?_) (fun hf => ?_)
      · exact v_sub [(3, .long j3)] [1] rfl (v_exP (E := E_X1_highestUnit_L10 K _ _ _ ) hf hE)
      · refine v_at 28 rfl ?_
        refine v_lload_n hC 1 dX1_highestUnit_28 rfl ?_
        refine v_ldc2 hC dX1_highestUnit_29 w_631 ?_
        refine v_lmul hC dX1_highestUnit_32 ?_
        refine v_ltL hf (fun l4 hf => ?_)
        refine v_lstore_n hC [(3, .long l4), (1, .long j1)] dX1_highestUnit_33 rfl hN (Nat.le_of_ble_eq_true rfl) rfl ?_
        refine v_goto (tgt := 10) hC dX1_highestUnit_34 (by decide) ?_
        exact v_sub [(1, .long j1), (3, .long l4)] [1, 0] rfl (ih _ _ _ _ hf hE)
set_option maxHeartbeats 4000000 in
set_option maxRecDepth 100000 in
theorem m_X1_highestUnit {G : Gm} {l : Launch} {σ : St} {a0 : Nat} {r : Int64} (hf : f_X1_highestUnit σ a0 = some r) : (∃ fs : List Value, σ.1 a0 = some (.inr (.inl (1, fs)))) ∧ Ct G l y_X1_highestUnit prog_3_method_7_code 5 (some .long) 1 21 [.ref a0] σ (some (.long r)) σ 0 0 := by
  unfold f_X1_highestUnit at hf
  obtain ⟨hob, hf⟩ := ob_some hf
  refine ⟨hob, Ct.ofV pl_X1_highestUnit (Nat.le_of_ble_eq_true rfl) ?_⟩
  intro K hR hN hnm hC hE
  show V K 0 0 σ 0 [(0, .ref a0)] []
  refine v_aload_n hC 0 dX1_highestUnit_0 rfl ?_
  refine v_getL hC (host := "") hf fd_1_5 w_148 dX1_highestUnit_1 (fun l1 hf => ?_)
  refine v_cSP hC (y := y_J9_abs_067f4) [.long l1] [] (fun r => some (.long r)) (fun r => .long r :: []) hf (fun _ h => m_J9_abs_067f4 h) rfl (fun _ => rfl) hR (Nat.le_of_ble_eq_true rfl) (Nat.le_of_ble_eq_true rfl) w_629 w_627 w_628 w_65 nm_J9_abs_067f4 rfl (Nat.le_of_ble_eq_true rfl) dX1_highestUnit_4 (fun l2 hf => ?_)
  refine v_lstore_n hC [(1, .long l2), (0, .ref a0)] dX1_highestUnit_7 rfl hN (Nat.le_of_ble_eq_true rfl) rfl ?_
  refine v_lconst (v := 1) hC dX1_highestUnit_8 (by decide) ?_
  refine v_lstore_n hC [(3, .long 1), (1, .long l2), (0, .ref a0)] dX1_highestUnit_9 rfl hN (Nat.le_of_ble_eq_true rfl) rfl ?_
  refine v_at 10 rfl ?_
  refine v_sub [(1, .long l2), (3, .long 1)] [1, 0] rfl ?_
  refine v_lpP hf (E_X1_highestUnit_L10 K _ _ σ ) (fun _ h hE => v_X1_highestUnit_L10 hC hR hN _ _ _ _ _ h hE) (fun y5 hf => ?_)
  show V K _ _ σ 37 [(3, .long y5)] []
  refine v_lload_n hC 0 dX1_highestUnit_37 rfl ?_
  exact v_retLP hC hf hE dX1_highestUnit_38
def E_X1_length_L69 (K : Cq) (kr sr : Nat) (σ : St)  (y : Int64) : Prop := V K kr sr σ 91 [(3, .long y)] []
set_option maxHeartbeats 4000000 in
set_option maxRecDepth 100000 in
theorem v_X1_length_L69 {K : Cq} {k0 s0 : Nat} (hC : Cx K prog_3_method_4_code "TensMill$Layout") (hR : kR K = rmF 2 45 k0 s0) (hN : kn K = 7) {kr sr : Nat} : ∀ (n : Nat) (σ : St) (j3 : Int64) (j5 : Int64) (y : Int64), f_X1_length_L69 n σ j3 j5 = some y → E_X1_length_L69 K kr sr σ  y → V K kr sr σ 69 [(3, .long j3), (5, .long j5)] [] := by
  intro n
  induction n with
  | zero =>
    intro σ j3 j5 y hf hE
    cases hf
  | succ n ih =>
    intro σ j3 j5 y hf hE
    replace hf : b_X1_length_L69 (f_X1_length_L69 n) σ j3 j5 = some y := hf
    unfold b_X1_length_L69 at hf
    refine v_lload hC 1 dX1_length_69 rfl ?_
    refine v_lconst (v := 1) hC dX1_length_71 (by decide) ?_
    refine v_lcmp_le hC hf dX1_length_72 dX1_length_73 (tgt := 91) (by decide) (fun hf => ?_) (fun hf => ?_)
    · exact v_sub [(3, .long j3)] [0] rfl (v_exP (E := E_X1_length_L69 K _ _ _ ) hf hE)
    · refine v_at 76 rfl ?_
      refine v_lload_n hC 0 dX1_length_76 rfl ?_
      refine v_lconst (v := 1) hC dX1_length_77 (by decide) ?_
      refine v_ladd hC dX1_length_78 ?_
      refine v_ltL hf (fun l13 hf => ?_)
      refine v_lstore_n hC [(3, .long l13), (5, .long j5)] dX1_length_79 rfl hN (Nat.le_of_ble_eq_true rfl) rfl ?_
      refine v_lload hC 1 dX1_length_80 rfl ?_
      refine v_ldc2 hC dX1_length_82 w_631 ?_
      refine v_ldiv hC hf dX1_length_85 (fun l14 hf => ?_)
      refine v_lstore hC [(5, .long l14), (3, .long l13)] dX1_length_86 hN (Nat.le_of_ble_eq_true rfl) rfl ?_
      refine v_at 88 rfl ?_
      refine v_goto (tgt := 69) hC dX1_length_88 (by decide) ?_
      exact v_sub [(3, .long l13), (5, .long l14)] [1, 0] rfl (ih _ _ _ _ hf hE)
set_option maxHeartbeats 4000000 in
set_option maxRecDepth 100000 in
theorem m_X1_length {G : Gm} {l : Launch} {σ : St} {a0 : Nat} {r : Int64} (hf : f_X1_length σ a0 = some r) : (∃ fs : List Value, σ.1 a0 = some (.inr (.inl (1, fs)))) ∧ Ct G l y_X1_length prog_3_method_4_code 7 (some .long) 2 45 [.ref a0] σ (some (.long r)) σ 0 0 := by
  unfold f_X1_length at hf
  obtain ⟨hob, hf⟩ := ob_some hf
  refine ⟨hob, Ct.ofV pl_X1_length (Nat.le_of_ble_eq_true rfl) ?_⟩
  intro K hR hN hnm hC hE
  show V K 0 0 σ 0 [(0, .ref a0)] []
  refine v_aload_n hC 0 dX1_length_0 rfl ?_
  refine v_getL hC (host := "") hf fd_1_2 w_145 dX1_length_1 (fun l1 hf => ?_)
  refine v_aload_n hC 0 dX1_length_4 rfl ?_
  refine v_getI hC (host := "") hf fd_1_1 w_144 dX1_length_5 (fun x2 hf => ?_)
  refine v_i2l hC dX1_length_8 ?_
  refine v_ladd hC dX1_length_9 ?_
  refine v_aload_n hC 0 dX1_length_10 rfl ?_
  refine v_getL hC (host := "") hf fd_1_3 w_146 dX1_length_11 (fun l3 hf => ?_)
  refine v_at 14 rfl ?_
  refine v_ladd hC dX1_length_14 ?_
  refine v_ltL hf (fun l4 hf => ?_)
  refine v_lstore_n hC [(1, .long l4), (0, .ref a0)] dX1_length_15 rfl hN (Nat.le_of_ble_eq_true rfl) rfl ?_
  refine v_lload_n hC 0 dX1_length_16 rfl ?_
  refine v_aload_n hC 1 dX1_length_17 rfl ?_
  refine v_getI hC (host := "") hf fd_1_0 w_143 dX1_length_18 (fun x5 hf => ?_)
  refine v_jnP hf (fun z6 => V K 0 0 σ 29 [(0, .ref a0), (1, .long l4)] [.int z6, .long l4]) (fun z6 hf => ?_) (fun k6 hk6 hf => ?_)
  · refine v_i2l hC dX1_length_29 ?_
    refine v_ladd hC dX1_length_30 ?_
    refine v_lload_n hC 1 dX1_length_31 rfl ?_
    refine v_aload_n hC 0 dX1_length_32 rfl ?_
    refine v_getL hC (host := "") hf fd_1_4 w_147 dX1_length_33 (fun l7 hf => ?_)
    refine v_jnP hf (fun z8 => V K 0 0 σ 45 [(0, .ref a0)] [.int z8, .long (l4 + ((z6 : Int32).toInt64))]) (fun z8 hf => ?_) (fun k8 hk8 hf => ?_)
    · refine v_i2l hC dX1_length_45 ?_
      refine v_ladd hC dX1_length_46 ?_
      refine v_ltL hf (fun l9 hf => ?_)
      refine v_lstore_n hC [(3, .long l9), (0, .ref a0)] dX1_length_47 rfl hN (Nat.le_of_ble_eq_true rfl) rfl ?_
      refine v_aload_n hC 1 dX1_length_48 rfl ?_
      refine v_getL hC (host := "") hf fd_1_5 w_148 dX1_length_49 (fun l10 hf => ?_)
      refine v_lconst (v := 0) hC dX1_length_52 (by decide) ?_
      refine v_lcmp_eq hC hf dX1_length_53 dX1_length_54 (tgt := 91) (by decide) (fun hf => ?_) (fun hf => ?_)
      · refine v_lload_n hC 0 dX1_length_91 rfl ?_
        exact v_retLP hC hf hE dX1_length_92
      · refine v_at 57 rfl ?_
        refine v_lload_n hC 0 dX1_length_57 rfl ?_
        refine v_ldc2 hC dX1_length_58 w_615 ?_
        refine v_ladd hC dX1_length_61 ?_
        refine v_ltL hf (fun l11 hf => ?_)
        refine v_lstore_n hC [(3, .long l11), (0, .ref a0)] dX1_length_62 rfl hN (Nat.le_of_ble_eq_true rfl) rfl ?_
        refine v_aload_n hC 1 dX1_length_63 rfl ?_
        refine v_cVP hC (y := y_X1_highestUnit) (ci := 1) [] [] (fun r => some (.long r)) (fun r => .long r :: []) hf (fun _ h => m_X1_highestUnit h) rfl (fun _ => rfl) rfl rfl hR (Nat.le_of_ble_eq_true rfl) (Nat.le_of_ble_eq_true rfl) w_626 w_623 w_625 w_25 w_62 nm_X1_highestUnit rfl (Nat.le_of_ble_eq_true rfl) dX1_length_64 (fun l12 hf => ?_)
        refine v_lstore hC [(5, .long l12), (3, .long l11), (0, .ref a0)] dX1_length_67 hN (Nat.le_of_ble_eq_true rfl) rfl ?_
        refine v_at 69 rfl ?_
        refine v_sub [(3, .long l11), (5, .long l12)] [1, 0] rfl ?_
        refine v_lpP hf (E_X1_length_L69 K _ _ σ ) (fun _ h hE => v_X1_length_L69 hC hR hN _ _ _ _ _ h hE) (fun y15 hf => ?_)
        show V K _ _ σ 91 [(3, .long y15)] []
        refine v_lload_n hC 0 dX1_length_91 rfl ?_
        exact v_retLP hC hf hE dX1_length_92
    · refine v_lcmp_le hC hf dX1_length_36 dX1_length_37 (tgt := 44) (by decide) (fun hf => ?_) (fun hf => ?_)
      · refine v_iconst (v := 0) hC dX1_length_44 (by decide) ?_
        refine v_at 45 rfl ?_
        exact v_sub [(0, .ref a0)] [0] rfl (hk8 _ hf)
      · refine v_at 40 rfl ?_
        refine v_iconst (v := 1) hC dX1_length_40 (by decide) ?_
        refine v_goto (tgt := 45) hC dX1_length_41 (by decide) ?_
        exact v_sub [(0, .ref a0)] [0] rfl (hk8 _ hf)
  · refine v_if_eq hC hf dX1_length_21 (tgt := 28) (by decide) (fun hf => ?_) (fun hf => ?_)
    · refine v_iconst (v := 0) hC dX1_length_28 (by decide) ?_
      refine v_at 29 rfl ?_
      exact v_sub [(0, .ref a0), (1, .long l4)] [1, 0] rfl (hk6 _ hf)
    · refine v_at 24 rfl ?_
      refine v_iconst (v := 1) hC dX1_length_24 (by decide) ?_
      refine v_goto (tgt := 29) hC dX1_length_25 (by decide) ?_
      exact v_sub [(0, .ref a0), (1, .long l4)] [1, 0] rfl (hk6 _ hf)
set_option maxHeartbeats 4000000 in
set_option maxRecDepth 100000 in
theorem m_J7_copyOf_9075b {G : Gm} {l : Launch} {σ : St} {a0 : Nat} {i1 : Int32} {r : Nat} {σf : St} {k s : Nat} (hf : f_J7_copyOf_9075b σ a0 i1 = some (r, σf, k, s)) : Ct G l y_J7_copyOf_9075b prog_13_method_121_code 3 (some (.array .byte)) 1 26 [.ref a0, .int i1] σ (some (.ref r)) σf k s := by
  unfold f_J7_copyOf_9075b at hf
  refine Ct.ofV pl_J7_copyOf_9075b (Nat.le_of_ble_eq_true rfl) ?_
  intro K hR hN hnm hC hE
  show V K (k + 0) (s + 0) σ 0 [(0, .ref a0), (1, .int i1)] []
  refine v_iload_n hC 1 dJ7_copyOf_9075b_0 rfl ?_
  refine v_aload_n hC 0 dJ7_copyOf_9075b_1 rfl ?_
  refine v_aln hC hf dJ7_copyOf_9075b_2 (fun x1 hf => ?_)
  refine v_icmp_ne hC hf dJ7_copyOf_9075b_3 (tgt := 14) (by decide) (fun hf => ?_) (fun hf => ?_)
  · refine v_iload_n hC 1 dJ7_copyOf_9075b_14 rfl ?_
    refine v_newB hC hf w_109 dJ7_copyOf_9075b_15 (fun r2 σ3 _ _ hf => ?_)
    refine v_astore_n hC [(2, .ref r2), (0, .ref a0), (1, .int i1)] dJ7_copyOf_9075b_17 rfl hN (Nat.le_of_ble_eq_true rfl) rfl ?_
    refine v_aload_n hC 1 dJ7_copyOf_9075b_18 rfl ?_
    refine v_iconst (v := 0) hC dJ7_copyOf_9075b_19 (by decide) ?_
    refine v_aload_n hC 0 dJ7_copyOf_9075b_20 rfl ?_
    refine v_iconst (v := 0) hC dJ7_copyOf_9075b_21 (by decide) ?_
    refine v_aload_n hC 1 dJ7_copyOf_9075b_22 rfl ?_
    refine v_at 23 rfl ?_
    refine v_aln hC hf dJ7_copyOf_9075b_23 (fun x4 hf => ?_)
    refine v_iload_n hC 2 dJ7_copyOf_9075b_24 rfl ?_
    refine v_cSP hC (y := y_J9_min_7cf53) [.int x4, .int i1] [.int 0, .ref r2, .int 0, .ref a0] (fun r => some (.int r)) (fun r => .int r :: [.int 0, .ref r2, .int 0, .ref a0]) hf (fun _ h => m_J9_min_7cf53 h) rfl (fun _ => rfl) hR (Nat.le_of_ble_eq_true rfl) (Nat.le_of_ble_eq_true rfl) w_265 w_263 w_264 w_65 nm_J9_min_7cf53 rfl (Nat.le_of_ble_eq_true rfl) dJ7_copyOf_9075b_25 (fun x5 hf => ?_)
    refine v_cpyB hC hf hR (Nat.le_of_ble_eq_true rfl) (Nat.le_of_ble_eq_true rfl) w_266 w_268 w_267 w_67 (Nat.le_of_ble_eq_true rfl) dJ7_copyOf_9075b_28 (fun σ6 hf => ?_)
    refine v_aload_n hC 0 dJ7_copyOf_9075b_31 rfl ?_
    exact v_retA hC hf hE dJ7_copyOf_9075b_32
  · refine v_at 6 rfl ?_
    refine v_aload_n hC 0 dJ7_copyOf_9075b_6 rfl ?_
    cases hf
set_option maxHeartbeats 4000000 in
set_option maxRecDepth 100000 in
theorem m_X4_makeRoom {G : Gm} {l : Launch} {σ : St} {a0 : Nat} {i1 : Int32} {r : Unit} {σf : St} {k s : Nat} (hf : f_X4_makeRoom σ a0 i1 = some (r, σf, k, s)) : (∃ fs : List Value, σ.1 a0 = some (.inr (.inl (4, fs)))) ∧ Ct G l y_X4_makeRoom prog_6_method_3_code 2 none 2 48 [.ref a0, .int i1] σ none σf k s := by
  unfold f_X4_makeRoom at hf
  obtain ⟨hob, hf⟩ := ob_some hf
  refine ⟨hob, Ct.ofV pl_X4_makeRoom (Nat.le_of_ble_eq_true rfl) ?_⟩
  intro K hR hN hnm hC hE
  show V K (k + 0) (s + 0) σ 0 [(0, .ref a0), (1, .int i1)] []
  refine v_iload_n hC 1 dX4_makeRoom_0 rfl ?_
  refine v_aload_n hC 0 dX4_makeRoom_1 rfl ?_
  refine v_getR hC (host := "") hf fd_4_0 w_99 dX4_makeRoom_2 (fun r1 hf => ?_)
  refine v_aln hC hf dX4_makeRoom_5 (fun x2 hf => ?_)
  refine v_icmp_le hC hf dX4_makeRoom_6 (tgt := 31) (by decide) (fun hf => ?_) (fun hf => ?_)
  · exact v_retV hC hf hE dX4_makeRoom_31
  · refine v_at 9 rfl ?_
    refine v_aload_n hC 0 dX4_makeRoom_9 rfl ?_
    refine v_aload_n hC 0 dX4_makeRoom_10 rfl ?_
    refine v_getR hC (host := "") hf fd_4_0 w_99 dX4_makeRoom_11 (fun r3 hf => ?_)
    refine v_iload_n hC 1 dX4_makeRoom_14 rfl ?_
    refine v_iconst (v := 2) hC dX4_makeRoom_15 (by decide) ?_
    refine v_aload_n hC 0 dX4_makeRoom_16 rfl ?_
    refine v_getR hC (host := "") hf fd_4_0 w_99 dX4_makeRoom_17 (fun r4 hf => ?_)
    refine v_aln hC hf dX4_makeRoom_20 (fun x5 hf => ?_)
    refine v_at 21 rfl ?_
    refine v_imul hC dX4_makeRoom_21 ?_
    refine v_cSP hC (y := y_J9_max_7cf53) [.int i1, .int (2 * x5)] [.ref r3, .ref a0] (fun r => some (.int r)) (fun r => .int r :: [.ref r3, .ref a0]) hf (fun _ h => m_J9_max_7cf53 h) rfl (fun _ => rfl) hR (Nat.le_of_ble_eq_true rfl) (Nat.le_of_ble_eq_true rfl) w_252 w_547 w_251 w_65 nm_J9_max_7cf53 rfl (Nat.le_of_ble_eq_true rfl) dX4_makeRoom_22 (fun x6 hf => ?_)
    refine v_cSE hC (y := y_J7_copyOf_9075b) [.ref r3, .int x6] [.ref a0] (fun r => some (.ref r)) (fun r => .ref r :: [.ref a0]) hf (fun _ _ _ _ h => m_J7_copyOf_9075b h) rfl (fun _ => rfl) hR (Nat.le_of_ble_eq_true rfl) (Nat.le_of_ble_eq_true rfl) w_550 w_548 w_549 w_66 nm_J7_copyOf_9075b rfl (Nat.le_of_ble_eq_true rfl) dX4_makeRoom_25 (fun r7 σ8 _ _ hf => ?_)
    refine v_put hC hf fd_4_0 w_99 rfl rfl dX4_makeRoom_28 (fun σ9 hf => ?_)
    exact v_retV hC hf hE dX4_makeRoom_31
set_option maxHeartbeats 4000000 in
set_option maxRecDepth 100000 in
theorem m_X4_append {G : Gm} {l : Launch} {σ : St} {a0 : Nat} {i1 : Int32} {r : Unit} {σf : St} {k s : Nat} (hf : f_X4_append σ a0 i1 = some (r, σf, k, s)) : (∃ fs : List Value, σ.1 a0 = some (.inr (.inl (4, fs)))) ∧ Ct G l y_X4_append prog_6_method_4_code 2 none 3 69 [.ref a0, .int i1] σ none σf k s := by
  unfold f_X4_append at hf
  obtain ⟨hob, hf⟩ := ob_some hf
  refine ⟨hob, Ct.ofV pl_X4_append (Nat.le_of_ble_eq_true rfl) ?_⟩
  intro K hR hN hnm hC hE
  show V K (k + 0) (s + 0) σ 0 [(0, .ref a0), (1, .int i1)] []
  refine v_aload_n hC 0 dX4_append_0 rfl ?_
  refine v_aload_n hC 0 dX4_append_1 rfl ?_
  refine v_getI hC (host := "") hf fd_4_1 w_100 dX4_append_2 (fun x1 hf => ?_)
  refine v_iconst (v := 1) hC dX4_append_5 (by decide) ?_
  refine v_iadd hC dX4_append_6 ?_
  refine v_cVE hC (y := y_X4_makeRoom) (ci := 4) [.int (x1 + 1)] [] (fun _ => none) (fun _ => []) hf (fun _ _ _ _ h => m_X4_makeRoom h) rfl (fun _ => rfl) rfl rfl hR (Nat.le_of_ble_eq_true rfl) (Nat.le_of_ble_eq_true rfl) w_546 w_560 w_544 w_545 w_60 nm_X4_makeRoom rfl (Nat.le_of_ble_eq_true rfl) dX4_append_7 (fun _ σ2 _ _ hf => ?_)
  refine v_aload_n hC 0 dX4_append_10 rfl ?_
  refine v_getR hC (host := "") hf fd_4_0 w_99 dX4_append_11 (fun r3 hf => ?_)
  refine v_at 14 rfl ?_
  refine v_aload_n hC 0 dX4_append_14 rfl ?_
  refine v_getI hC (host := "") hf fd_4_1 w_100 dX4_append_15 (fun x4 hf => ?_)
  refine v_iload_n hC 1 dX4_append_18 rfl ?_
  refine v_i2b hC dX4_append_19 ?_
  refine v_stB hC hf dX4_append_20 (fun σ5 hf => ?_)
  refine v_aload_n hC 0 dX4_append_21 rfl ?_
  refine v_dup hC dX4_append_22 rfl ?_
  refine v_getI hC (host := "") hf fd_4_1 w_100 dX4_append_23 (fun x6 hf => ?_)
  refine v_at 26 rfl ?_
  refine v_iconst (v := 1) hC dX4_append_26 (by decide) ?_
  refine v_iadd hC dX4_append_27 ?_
  refine v_put hC hf fd_4_1 w_100 rfl rfl dX4_append_28 (fun σ7 hf => ?_)
  exact v_retV hC hf hE dX4_append_31
set_option maxHeartbeats 4000000 in
set_option maxRecDepth 100000 in
theorem m_X2_digitAt {G : Gm} {l : Launch} {σ : St} {a0 : Nat} {i1 : Int32} {r : Int32} (hf : f_X2_digitAt σ a0 i1 = some r) : (∃ fs : List Value, σ.1 a0 = some (.inr (.inl (2, fs)))) ∧ Ct G l y_X2_digitAt prog_4_method_6_code 2 (some .int) 0 0 [.ref a0, .int i1] σ (some (.int r)) σ 0 0 := by
  unfold f_X2_digitAt at hf
  obtain ⟨hob, hf⟩ := ob_some hf
  refine ⟨hob, Ct.ofV pl_X2_digitAt (Nat.le_of_ble_eq_true rfl) ?_⟩
  intro K hR hN hnm hC hE
  show V K 0 0 σ 0 [(0, .ref a0), (1, .int i1)] []
  refine v_iload_n hC 1 dX2_digitAt_0 rfl ?_
  refine v_if_lt hC hf dX2_digitAt_1 (tgt := 15) (by decide) (fun hf => ?_) (fun hf => ?_)
  · refine v_iconst (v := 0) hC dX2_digitAt_15 (by decide) ?_
    exact v_retIP hC hf hE dX2_digitAt_16
  · refine v_at 4 rfl ?_
    refine v_iload_n hC 1 dX2_digitAt_4 rfl ?_
    refine v_bipush (v := 9) hC dX2_digitAt_5 (by decide) ?_
    refine v_idiv hC hf dX2_digitAt_7 (fun x1 hf => ?_)
    refine v_aload_n hC 0 dX2_digitAt_8 rfl ?_
    refine v_getI hC (host := "") hf fd_2_1 w_86 dX2_digitAt_9 (fun x2 hf => ?_)
    refine v_icmp_lt hC hf dX2_digitAt_12 (tgt := 17) (by decide) (fun hf => ?_) (fun hf => ?_)
    · refine v_aload_n hC 0 dX2_digitAt_17 rfl ?_
      refine v_getR hC (host := "") hf fd_2_0 w_85 dX2_digitAt_18 (fun r3 hf => ?_)
      refine v_iload_n hC 1 dX2_digitAt_21 rfl ?_
      refine v_bipush (v := 9) hC dX2_digitAt_22 (by decide) ?_
      refine v_idiv hC hf dX2_digitAt_24 (fun x4 hf => ?_)
      refine v_ldI hC hf dX2_digitAt_25 (fun x5 hf => ?_)
      refine v_getsN hC n_20 dX2_digitAt_26 ?_
      refine v_iload_n hC 1 dX2_digitAt_29 rfl ?_
      refine v_at 30 rfl ?_
      refine v_bipush (v := 9) hC dX2_digitAt_30 (by decide) ?_
      refine v_irem hC hf dX2_digitAt_32 (fun x6 hf => ?_)
      refine v_ldI hC hf dX2_digitAt_33 (fun x7 hf => ?_)
      refine v_idiv hC hf dX2_digitAt_34 (fun x8 hf => ?_)
      refine v_bipush (v := 10) hC dX2_digitAt_35 (by decide) ?_
      refine v_irem hC hf dX2_digitAt_37 (fun x9 hf => ?_)
      exact v_retIP hC hf hE dX2_digitAt_38
    · refine v_at 15 rfl ?_
      refine v_iconst (v := 0) hC dX2_digitAt_15 (by decide) ?_
      exact v_retIP hC hf hE dX2_digitAt_16
def E_X1_layExponent_L50 (K : Cq)  (y : Unit) (σ : St) (kr sr : Nat) : Prop := V K kr sr σ 84 [] []
set_option maxHeartbeats 4000000 in
set_option maxRecDepth 100000 in
theorem v_X1_layExponent_L50 {K : Cq} {k0 s0 : Nat} (hC : Cx K prog_3_method_6_code "TensMill$Layout") (hR : kR K = rmF 4 90 k0 s0) (hN : kn K = 6) {ko so : Nat} : ∀ (n : Nat) (σ : St) (a1 : Nat) (j2 : Int64) (j4 : Int64) (y : Unit) (σf : St) (kr sr : Nat), f_X1_layExponent_L50 n σ a1 j2 j4 = some (y, σf, kr, sr) → E_X1_layExponent_L50 K  y σf ko so → V K (kr + ko) (sr + so) σ 50 [(1, .ref a1), (2, .long j2), (4, .long j4)] [] := by
  intro n
  induction n with
  | zero =>
    intro σ a1 j2 j4 y σf kr sr hf hE
    cases hf
  | succ n ih =>
    intro σ a1 j2 j4 y σf kr sr hf hE
    replace hf : b_X1_layExponent_L50 (f_X1_layExponent_L50 n) σ a1 j2 j4 = some (y, σf, kr, sr) := hf
    unfold b_X1_layExponent_L50 at hf
    refine v_lload hC 2 dX1_layExponent_50 rfl ?_
    refine v_lconst (v := 0) hC dX1_layExponent_52 (by decide) ?_
    refine v_lcmp_le hC hf dX1_layExponent_53 dX1_layExponent_54 (tgt := 84) (by decide) (fun hf => ?_) (fun hf => ?_)
    · obtain ⟨hX, e1, e2⟩ := v_exE (E := E_X1_layExponent_L50 K ) hf hE
      rw [e1, e2]
      exact v_sub [] [] rfl hX
    · refine v_at 57 rfl ?_
      refine v_aload_n hC 0 dX1_layExponent_57 rfl ?_
      refine v_bipush (v := 48) hC dX1_layExponent_58 (by decide) ?_
      refine v_lload_n hC 1 dX1_layExponent_60 rfl ?_
      refine v_lload hC 2 dX1_layExponent_61 rfl ?_
      refine v_ldiv hC hf dX1_layExponent_63 (fun l9 hf => ?_)
      refine v_ldc2 hC dX1_layExponent_64 w_631 ?_
      refine v_lrem hC hf dX1_layExponent_67 (fun l10 hf => ?_)
      refine v_l2i hC dX1_layExponent_68 ?_
      refine v_at 69 rfl ?_
      refine v_iadd hC dX1_layExponent_69 ?_
      refine v_cVE hC (y := y_X4_append) (ci := 4) [.int (48 + ((l10 : Int64).toInt32))] [] (fun _ => none) (fun _ => []) hf (fun _ _ _ _ h => m_X4_append h) rfl (fun _ => rfl) rfl rfl hR (Nat.le_of_ble_eq_true rfl) (Nat.le_of_ble_eq_true rfl) w_559 w_639 w_557 w_558 w_60 nm_X4_append rfl (Nat.le_of_ble_eq_true rfl) dX1_layExponent_70 (fun _ σ11 _ _ hf => ?_)
      refine v_lload hC 2 dX1_layExponent_73 rfl ?_
      refine v_ldc2 hC dX1_layExponent_75 w_631 ?_
      refine v_ldiv hC hf dX1_layExponent_78 (fun l12 hf => ?_)
      refine v_lstore hC [(4, .long l12), (1, .ref a1), (2, .long j2)] dX1_layExponent_79 hN (Nat.le_of_ble_eq_true rfl) rfl ?_
      refine v_goto (tgt := 50) hC dX1_layExponent_81 (by decide) ?_
      exact v_sub [(1, .ref a1), (2, .long j2), (4, .long l12)] [1, 2, 0] rfl (ih _ _ _ _ _ _ _ _ hf hE)
set_option maxHeartbeats 4000000 in
set_option maxRecDepth 100000 in
theorem m_X1_layExponent {G : Gm} {l : Launch} {σ : St} {a0 : Nat} {a1 : Nat} {r : Unit} {σf : St} {k s : Nat} (hf : f_X1_layExponent σ a0 a1 = some (r, σf, k, s)) : (∃ fs : List Value, σ.1 a0 = some (.inr (.inl (1, fs)))) ∧ Ct G l y_X1_layExponent prog_3_method_6_code 6 none 4 90 [.ref a0, .ref a1] σ none σf k s := by
  unfold f_X1_layExponent at hf
  obtain ⟨hob, hf⟩ := ob_some hf
  refine ⟨hob, Ct.ofV pl_X1_layExponent (Nat.le_of_ble_eq_true rfl) ?_⟩
  intro K hR hN hnm hC hE
  show V K (k + 0) (s + 0) σ 0 [(0, .ref a0), (1, .ref a1)] []
  refine v_aload_n hC 0 dX1_layExponent_0 rfl ?_
  refine v_getL hC (host := "") hf fd_1_5 w_148 dX1_layExponent_1 (fun l1 hf => ?_)
  refine v_lconst (v := 0) hC dX1_layExponent_4 (by decide) ?_
  refine v_lcmp_ne hC hf dX1_layExponent_5 dX1_layExponent_6 (tgt := 10) (by decide) (fun hf => ?_) (fun hf => ?_)
  · refine v_aload_n hC 1 dX1_layExponent_10 rfl ?_
    refine v_bipush (v := 69) hC dX1_layExponent_11 (by decide) ?_
    refine v_cVE hC (y := y_X4_append) (ci := 4) [.int 69] [] (fun _ => none) (fun _ => []) hf (fun _ _ _ _ h => m_X4_append h) rfl (fun _ => rfl) rfl rfl hR (Nat.le_of_ble_eq_true rfl) (Nat.le_of_ble_eq_true rfl) w_559 w_639 w_557 w_558 w_60 nm_X4_append rfl (Nat.le_of_ble_eq_true rfl) dX1_layExponent_13 (fun _ σ2 _ _ hf => ?_)
    refine v_aload_n hC 1 dX1_layExponent_16 rfl ?_
    refine v_aload_n hC 0 dX1_layExponent_17 rfl ?_
    refine v_getL hC (host := "") hf fd_1_5 w_148 dX1_layExponent_18 (fun l3 hf => ?_)
    refine v_lconst (v := 0) hC dX1_layExponent_21 (by decide) ?_
    refine v_jnE hf (fun z4 kr sr => V K (kr + 0) (sr + 0) σ2 33 [(0, .ref a0), (1, .ref a1)] [.int z4, .ref a1]) (fun z4 _ _ hf => ?_) (fun k4 hk4 hf => ?_)
    · refine v_cVE hC (y := y_X4_append) (ci := 4) [.int z4] [] (fun _ => none) (fun _ => []) hf (fun _ _ _ _ h => m_X4_append h) rfl (fun _ => rfl) rfl rfl hR (Nat.le_of_ble_eq_true rfl) (Nat.le_of_ble_eq_true rfl) w_559 w_639 w_557 w_558 w_60 nm_X4_append rfl (Nat.le_of_ble_eq_true rfl) dX1_layExponent_33 (fun _ σ5 _ _ hf => ?_)
      refine v_aload_n hC 0 dX1_layExponent_36 rfl ?_
      refine v_getL hC (host := "") hf fd_1_5 w_148 dX1_layExponent_37 (fun l6 hf => ?_)
      refine v_cSP hC (y := y_J9_abs_067f4) [.long l6] [] (fun r => some (.long r)) (fun r => .long r :: []) hf (fun _ h => m_J9_abs_067f4 h) rfl (fun _ => rfl) hR (Nat.le_of_ble_eq_true rfl) (Nat.le_of_ble_eq_true rfl) w_629 w_627 w_628 w_65 nm_J9_abs_067f4 rfl (Nat.le_of_ble_eq_true rfl) dX1_layExponent_40 (fun l7 hf => ?_)
      refine v_lstore_n hC [(2, .long l7), (0, .ref a0), (1, .ref a1)] dX1_layExponent_43 rfl hN (Nat.le_of_ble_eq_true rfl) rfl ?_
      refine v_aload_n hC 1 dX1_layExponent_44 rfl ?_
      refine v_cVP hC (y := y_X1_highestUnit) (ci := 1) [] [] (fun r => some (.long r)) (fun r => .long r :: []) hf (fun _ h => m_X1_highestUnit h) rfl (fun _ => rfl) rfl rfl hR (Nat.le_of_ble_eq_true rfl) (Nat.le_of_ble_eq_true rfl) w_626 w_623 w_625 w_25 w_62 nm_X1_highestUnit rfl (Nat.le_of_ble_eq_true rfl) dX1_layExponent_45 (fun l8 hf => ?_)
      refine v_lstore hC [(4, .long l8), (2, .long l7), (0, .ref a0), (1, .ref a1)] dX1_layExponent_48 hN (Nat.le_of_ble_eq_true rfl) rfl ?_
      refine v_at 50 rfl ?_
      refine v_sub [(1, .ref a1), (2, .long l7), (4, .long l8)] [3, 1, 0] rfl ?_
      refine v_lpE hf (E_X1_layExponent_L50 K ) (fun _ _ _ _ _ _ h hE => v_X1_layExponent_L50 hC hR hN _ _ _ _ _ _ _ _ _ h hE) (fun y13 σ14 _ _ hf => ?_)
      show V K _ _ σ14 84 [] []
      exact v_retV hC hf hE dX1_layExponent_84
    · refine v_lcmp_ge hC hf dX1_layExponent_22 dX1_layExponent_23 (tgt := 31) (by decide) (fun hf => ?_) (fun hf => ?_)
      · refine v_bipush (v := 43) hC dX1_layExponent_31 (by decide) ?_
        refine v_at 33 rfl ?_
        exact v_sub [(0, .ref a0), (1, .ref a1)] [0, 1] rfl (hk4 _ _ _ hf)
      · refine v_at 26 rfl ?_
        refine v_bipush (v := 45) hC dX1_layExponent_26 (by decide) ?_
        refine v_goto (tgt := 33) hC dX1_layExponent_28 (by decide) ?_
        exact v_sub [(0, .ref a0), (1, .ref a1)] [0, 1] rfl (hk4 _ _ _ hf)
  · refine v_at 9 rfl ?_
    exact v_retV hC hf hE dX1_layExponent_9
def E_X1_lay_L46 (K : Cq) (a0 : Nat) (a2 : Nat) (y : Unit) (σ : St) (kr sr : Nat) : Prop := V K kr sr σ 105 [(0, .ref a0), (2, .ref a2)] []
set_option maxHeartbeats 4000000 in
set_option maxRecDepth 100000 in
theorem v_X1_lay_L46 {K : Cq} {k0 s0 : Nat} (hC : Cx K prog_3_method_5_code "TensMill$Layout") (hR : kR K = rmF 5 115 k0 s0) (hN : kn K = 6) {ko so : Nat} : ∀ (n : Nat) (σ : St) (a0 : Nat) (a1 : Nat) (a2 : Nat) (j3 : Int64) (i5 : Int32) (y : Unit) (σf : St) (kr sr : Nat), f_X1_lay_L46 n σ a0 a1 a2 j3 i5 = some (y, σf, kr, sr) → E_X1_lay_L46 K a0 a2 y σf ko so → V K (kr + ko) (sr + so) σ 46 [(0, .ref a0), (1, .ref a1), (2, .ref a2), (3, .long j3), (5, .int i5)] [] := by
  intro n
  induction n with
  | zero =>
    intro σ a0 a1 a2 j3 i5 y σf kr sr hf hE
    cases hf
  | succ n ih =>
    intro σ a0 a1 a2 j3 i5 y σf kr sr hf hE
    replace hf : b_X1_lay_L46 (f_X1_lay_L46 n) σ a0 a1 a2 j3 i5 = some (y, σf, kr, sr) := hf
    unfold b_X1_lay_L46 at hf
    refine v_iload hC 4 dX1_lay_46 rfl ?_
    refine v_i2l hC dX1_lay_48 ?_
    refine v_lload_n hC 3 dX1_lay_49 rfl ?_
    refine v_lcmp_ge hC hf dX1_lay_50 dX1_lay_51 (tgt := 105) (by decide) (fun hf => ?_) (fun hf => ?_)
    · obtain ⟨hX, e1, e2⟩ := v_exE (E := E_X1_lay_L46 K a0 a2) hf hE
      rw [e1, e2]
      exact v_sub [(0, .ref a0), (2, .ref a2)] [0, 2] rfl hX
    · refine v_at 54 rfl ?_
      refine v_iload hC 4 dX1_lay_54 rfl ?_
      refine v_i2l hC dX1_lay_56 ?_
      refine v_aload_n hC 0 dX1_lay_57 rfl ?_
      refine v_getL hC (host := "") hf fd_1_4 w_147 dX1_lay_58 (fun l10 hf => ?_)
      refine v_jnE hf (fun z11 kr sr => V K (kr + ko) (sr + so) z11 71 [(0, .ref a0), (1, .ref a1), (2, .ref a2), (3, .long j3), (5, .int i5)] []) (fun z11 _ _ hf => ?_) (fun k11 hk11 hf => ?_)
      · refine v_aload_n hC 2 dX1_lay_71 rfl ?_
        refine v_bipush (v := 48) hC dX1_lay_72 (by decide) ?_
        refine v_aload_n hC 1 dX1_lay_74 rfl ?_
        refine v_aload_n hC 0 dX1_lay_75 rfl ?_
        refine v_getL hC (host := "") hf fd_1_2 w_145 dX1_lay_76 (fun l12 hf => ?_)
        refine v_aload_n hC 0 dX1_lay_79 rfl ?_
        refine v_getI hC (host := "") hf fd_1_1 w_144 dX1_lay_80 (fun x13 hf => ?_)
        refine v_i2l hC dX1_lay_83 ?_
        refine v_at 84 rfl ?_
        refine v_ladd hC dX1_lay_84 ?_
        refine v_lconst (v := 1) hC dX1_lay_85 (by decide) ?_
        refine v_lsub hC dX1_lay_86 ?_
        refine v_iload hC 4 dX1_lay_87 rfl ?_
        refine v_i2l hC dX1_lay_89 ?_
        refine v_lsub hC dX1_lay_90 ?_
        refine v_l2i hC dX1_lay_91 ?_
        refine v_cVP hC (y := y_X2_digitAt) (ci := 2) [.int ((((l12 + ((x13 : Int32).toInt64)) - 1) - ((i5 : Int32).toInt64) : Int64).toInt32)] [.int 48, .ref a2] (fun r => some (.int r)) (fun r => .int r :: [.int 48, .ref a2]) hf (fun _ h => m_X2_digitAt h) rfl (fun _ => rfl) rfl rfl hR (Nat.le_of_ble_eq_true rfl) (Nat.le_of_ble_eq_true rfl) w_415 w_640 w_413 w_414 w_59 nm_X2_digitAt rfl (Nat.le_of_ble_eq_true rfl) dX1_lay_92 (fun x14 hf => ?_)
        refine v_at 95 rfl ?_
        refine v_iadd hC dX1_lay_95 ?_
        refine v_cVE hC (y := y_X4_append) (ci := 4) [.int (48 + x14)] [] (fun _ => none) (fun _ => []) hf (fun _ _ _ _ h => m_X4_append h) rfl (fun _ => rfl) rfl rfl hR (Nat.le_of_ble_eq_true rfl) (Nat.le_of_ble_eq_true rfl) w_559 w_639 w_557 w_558 w_60 nm_X4_append rfl (Nat.le_of_ble_eq_true rfl) dX1_lay_96 (fun _ σ15 _ _ hf => ?_)
        refine v_incL hC hf 4 (fun x16 => [(5, .int x16), (0, .ref a0), (1, .ref a1), (2, .ref a2), (3, .long j3)]) dX1_lay_99 rfl (by decide) hN (Nat.le_of_ble_eq_true rfl) (fun _ => rfl) (fun x16 hf => ?_)
        refine v_goto (tgt := 46) hC dX1_lay_102 (by decide) ?_
        exact v_sub [(0, .ref a0), (1, .ref a1), (2, .ref a2), (3, .long j3), (5, .int x16)] [1, 2, 3, 4, 0] rfl (ih _ _ _ _ _ _ _ _ _ _ hf hE)
      · refine v_lcmp_ne hC hf dX1_lay_61 dX1_lay_62 (tgt := 71) (by decide) (fun hf => ?_) (fun hf => ?_)
        · exact v_sub [(0, .ref a0), (1, .ref a1), (2, .ref a2), (3, .long j3), (5, .int i5)] [0, 1, 2, 3, 4] rfl (hk11 _ _ _ hf)
        · refine v_at 65 rfl ?_
          refine v_aload_n hC 2 dX1_lay_65 rfl ?_
          refine v_bipush (v := 46) hC dX1_lay_66 (by decide) ?_
          refine v_cVE hC (y := y_X4_append) (ci := 4) [.int 46] [] (fun _ => none) (fun _ => []) hf (fun _ _ _ _ h => m_X4_append h) rfl (fun _ => rfl) rfl rfl hR (Nat.le_of_ble_eq_true rfl) (Nat.le_of_ble_eq_true rfl) w_559 w_639 w_557 w_558 w_60 nm_X4_append rfl (Nat.le_of_ble_eq_true rfl) dX1_lay_68 (fun _ σ17 _ _ hf => ?_)
          refine v_at 71 rfl ?_
          exact v_sub [(0, .ref a0), (1, .ref a1), (2, .ref a2), (3, .long j3), (5, .int i5)] [0, 1, 2, 3, 4] rfl (hk11 _ _ _ hf)
set_option maxHeartbeats 4000000 in
set_option maxRecDepth 100000 in
theorem m_X1_lay {G : Gm} {l : Launch} {σ : St} {a0 : Nat} {a1 : Nat} {a2 : Nat} {r : Unit} {σf : St} {k s : Nat} (hf : f_X1_lay σ a0 a1 a2 = some (r, σf, k, s)) : (∃ fs : List Value, σ.1 a0 = some (.inr (.inl (1, fs)))) ∧ Ct G l y_X1_lay prog_3_method_5_code 6 none 5 115 [.ref a0, .ref a1, .ref a2] σ none σf k s := by
  unfold f_X1_lay at hf
  obtain ⟨hob, hf⟩ := ob_some hf
  refine ⟨hob, Ct.ofV pl_X1_lay (Nat.le_of_ble_eq_true rfl) ?_⟩
  intro K hR hN hnm hC hE
  show V K (k + 0) (s + 0) σ 0 [(0, .ref a0), (1, .ref a1), (2, .ref a2)] []
  refine v_aload_n hC 2 dX1_lay_0 rfl ?_
  refine v_iconst (v := 0) hC dX1_lay_1 (by decide) ?_
  refine v_putN hC hf fd_4_1 n_3 rfl rfl dX1_lay_2 (fun σ1 hf => ?_)
  refine v_aload_n hC 2 dX1_lay_5 rfl ?_
  refine v_aload_n hC 0 dX1_lay_6 rfl ?_
  refine v_cVP hC (y := y_X1_length) (ci := 1) [] [.ref a2] (fun r => some (.long r)) (fun r => .long r :: [.ref a2]) hf (fun _ h => m_X1_length h) rfl (fun _ => rfl) rfl rfl hR (Nat.le_of_ble_eq_true rfl) (Nat.le_of_ble_eq_true rfl) w_622 w_637 w_620 w_621 w_62 nm_X1_length rfl (Nat.le_of_ble_eq_true rfl) dX1_lay_7 (fun l2 hf => ?_)
  refine v_l2i hC dX1_lay_10 ?_
  refine v_cVE hC (y := y_X4_makeRoom) (ci := 4) [.int ((l2 : Int64).toInt32)] [] (fun _ => none) (fun _ => []) hf (fun _ _ _ _ h => m_X4_makeRoom h) rfl (fun _ => rfl) rfl rfl hR (Nat.le_of_ble_eq_true rfl) (Nat.le_of_ble_eq_true rfl) w_546 w_638 w_544 w_545 w_60 nm_X4_makeRoom rfl (Nat.le_of_ble_eq_true rfl) dX1_lay_11 (fun _ σ3 _ _ hf => ?_)
  refine v_at 14 rfl ?_
  refine v_aload_n hC 0 dX1_lay_14 rfl ?_
  refine v_getI hC (host := "") hf fd_1_0 w_143 dX1_lay_15 (fun x4 hf => ?_)
  refine v_jnE hf (fun z5 kr sr => V K (kr + 0) (sr + 0) z5 27 [(0, .ref a0), (1, .ref a1), (2, .ref a2)] []) (fun z5 _ _ hf => ?_) (fun k5 hk5 hf => ?_)
  · refine v_aload_n hC 0 dX1_lay_27 rfl ?_
    refine v_getL hC (host := "") hf fd_1_2 w_145 dX1_lay_28 (fun l6 hf => ?_)
    refine v_aload_n hC 0 dX1_lay_31 rfl ?_
    refine v_getI hC (host := "") hf fd_1_1 w_144 dX1_lay_32 (fun x7 hf => ?_)
    refine v_i2l hC dX1_lay_35 ?_
    refine v_ladd hC dX1_lay_36 ?_
    refine v_aload_n hC 0 dX1_lay_37 rfl ?_
    refine v_getL hC (host := "") hf fd_1_3 w_146 dX1_lay_38 (fun l8 hf => ?_)
    refine v_at 41 rfl ?_
    refine v_ladd hC dX1_lay_41 ?_
    refine v_ltL hf (fun l9 hf => ?_)
    refine v_lstore_n hC [(3, .long l9), (0, .ref a0), (1, .ref a1), (2, .ref a2)] dX1_lay_42 rfl hN (Nat.le_of_ble_eq_true rfl) rfl ?_
    refine v_iconst (v := 0) hC dX1_lay_43 (by decide) ?_
    refine v_istore hC [(5, .int 0), (3, .long l9), (0, .ref a0), (1, .ref a1), (2, .ref a2)] dX1_lay_44 hN (Nat.le_of_ble_eq_true rfl) rfl ?_
    refine v_at 46 rfl ?_
    refine v_sub [(0, .ref a0), (1, .ref a1), (2, .ref a2), (3, .long l9), (5, .int 0)] [2, 3, 4, 1, 0] rfl ?_
    refine v_lpE hf (E_X1_lay_L46 K a0 a2) (fun _ _ _ _ _ _ h hE => v_X1_lay_L46 hC hR hN _ _ _ _ _ _ _ _ _ _ _ h hE) (fun y18 σ19 _ _ hf => ?_)
    show V K _ _ σ19 105 [(0, .ref a0), (2, .ref a2)] []
    refine v_aload_n hC 0 dX1_lay_105 rfl ?_
    refine v_aload_n hC 1 dX1_lay_106 rfl ?_
    refine v_cVE hC (y := y_X1_layExponent) (ci := 1) [.ref a2] [] (fun _ => none) (fun _ => []) hf (fun _ _ _ _ h => m_X1_layExponent h) rfl (fun _ => rfl) rfl rfl hR (Nat.le_of_ble_eq_true rfl) (Nat.le_of_ble_eq_true rfl) w_644 w_641 w_643 w_26 w_62 nm_X1_layExponent rfl (Nat.le_of_ble_eq_true rfl) dX1_lay_107 (fun _ σ20 _ _ hf => ?_)
    exact v_retV hC hf hE dX1_lay_110
  · refine v_if_eq hC hf dX1_lay_18 (tgt := 27) (by decide) (fun hf => ?_) (fun hf => ?_)
    · exact v_sub [(0, .ref a0), (1, .ref a1), (2, .ref a2)] [0, 1, 2] rfl (hk5 _ _ _ hf)
    · refine v_at 21 rfl ?_
      refine v_aload_n hC 2 dX1_lay_21 rfl ?_
      refine v_bipush (v := 45) hC dX1_lay_22 (by decide) ?_
      refine v_cVE hC (y := y_X4_append) (ci := 4) [.int 45] [] (fun _ => none) (fun _ => []) hf (fun _ _ _ _ h => m_X4_append h) rfl (fun _ => rfl) rfl rfl hR (Nat.le_of_ble_eq_true rfl) (Nat.le_of_ble_eq_true rfl) w_559 w_639 w_557 w_558 w_60 nm_X4_append rfl (Nat.le_of_ble_eq_true rfl) dX1_lay_24 (fun _ σ21 _ _ hf => ?_)
      refine v_at 27 rfl ?_
      exact v_sub [(0, .ref a0), (1, .ref a1), (2, .ref a2)] [0, 1, 2] rfl (hk5 _ _ _ hf)
