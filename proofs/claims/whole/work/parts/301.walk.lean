set_option maxHeartbeats 4000000 in
set_option maxRecDepth 100000 in
theorem m_X2_isOne {G : Gm} {l : Launch} {σ : St} {a0 : Nat} {r : Int32} (hf : f_X2_isOne σ a0 = some r) : (∃ fs : List Value, σ.1 a0 = some (.inr (.inl (2, fs)))) ∧ Ct G l y_X2_isOne prog_4_method_3_code 1 (some .boolean) 0 0 [.ref a0] σ (some (.int r)) σ 0 0 := by
  unfold f_X2_isOne at hf
  obtain ⟨hob, hf⟩ := ob_some hf
  refine ⟨hob, Ct.ofV pl_X2_isOne (Nat.le_of_ble_eq_true rfl) ?_⟩
  intro K hR hN hnm hC hE
  show V K 0 0 σ 0 [(0, .ref a0)] []
  refine v_aload_n hC 0 dX2_isOne_0 rfl ?_
  refine v_getI hC (host := "") hf fd_2_1 w_86 dX2_isOne_1 (fun x1 hf => ?_)
  refine v_iconst (v := 1) hC dX2_isOne_4 (by decide) ?_
  refine v_icmp_ne hC hf dX2_isOne_5 (tgt := 22) (by decide) (fun hf => ?_) (fun hf => ?_)
  · refine v_iconst (v := 0) hC dX2_isOne_22 (by decide) ?_
    exact v_retZP hC hf hE dX2_isOne_23
  · refine v_at 8 rfl ?_
    refine v_aload_n hC 0 dX2_isOne_8 rfl ?_
    refine v_getR hC (host := "") hf fd_2_0 w_85 dX2_isOne_9 (fun r2 hf => ?_)
    refine v_iconst (v := 0) hC dX2_isOne_12 (by decide) ?_
    refine v_ldI hC hf dX2_isOne_13 (fun x3 hf => ?_)
    refine v_iconst (v := 1) hC dX2_isOne_14 (by decide) ?_
    refine v_icmp_ne hC hf dX2_isOne_15 (tgt := 22) (by decide) (fun hf => ?_) (fun hf => ?_)
    · refine v_iconst (v := 0) hC dX2_isOne_22 (by decide) ?_
      exact v_retZP hC hf hE dX2_isOne_23
    · refine v_at 18 rfl ?_
      refine v_iconst (v := 1) hC dX2_isOne_18 (by decide) ?_
      refine v_goto (tgt := 23) hC dX2_isOne_19 (by decide) ?_
      exact v_retZP hC hf hE dX2_isOne_23
set_option maxHeartbeats 4000000 in
set_option maxRecDepth 100000 in
theorem m_X2_isOdd {G : Gm} {l : Launch} {σ : St} {a0 : Nat} {r : Int32} (hf : f_X2_isOdd σ a0 = some r) : (∃ fs : List Value, σ.1 a0 = some (.inr (.inl (2, fs)))) ∧ Ct G l y_X2_isOdd prog_4_method_4_code 1 (some .boolean) 0 0 [.ref a0] σ (some (.int r)) σ 0 0 := by
  unfold f_X2_isOdd at hf
  obtain ⟨hob, hf⟩ := ob_some hf
  refine ⟨hob, Ct.ofV pl_X2_isOdd (Nat.le_of_ble_eq_true rfl) ?_⟩
  intro K hR hN hnm hC hE
  show V K 0 0 σ 0 [(0, .ref a0)] []
  refine v_aload_n hC 0 dX2_isOdd_0 rfl ?_
  refine v_getI hC (host := "") hf fd_2_1 w_86 dX2_isOdd_1 (fun x1 hf => ?_)
  refine v_if_le hC hf dX2_isOdd_4 (tgt := 22) (by decide) (fun hf => ?_) (fun hf => ?_)
  · refine v_iconst (v := 0) hC dX2_isOdd_22 (by decide) ?_
    exact v_retZP hC hf hE dX2_isOdd_23
  · refine v_at 7 rfl ?_
    refine v_aload_n hC 0 dX2_isOdd_7 rfl ?_
    refine v_getR hC (host := "") hf fd_2_0 w_85 dX2_isOdd_8 (fun r2 hf => ?_)
    refine v_iconst (v := 0) hC dX2_isOdd_11 (by decide) ?_
    refine v_ldI hC hf dX2_isOdd_12 (fun x3 hf => ?_)
    refine v_iconst (v := 1) hC dX2_isOdd_13 (by decide) ?_
    refine v_iand hC dX2_isOdd_14 ?_
    refine v_if_eq hC hf dX2_isOdd_15 (tgt := 22) (by decide) (fun hf => ?_) (fun hf => ?_)
    · refine v_iconst (v := 0) hC dX2_isOdd_22 (by decide) ?_
      exact v_retZP hC hf hE dX2_isOdd_23
    · refine v_at 18 rfl ?_
      refine v_iconst (v := 1) hC dX2_isOdd_18 (by decide) ?_
      refine v_goto (tgt := 23) hC dX2_isOdd_19 (by decide) ?_
      exact v_retZP hC hf hE dX2_isOdd_23
def E_X2_endingZeros_L2 (K : Cq) (kr sr : Nat) (σ : St) (a0 : Nat) (y : Int32) : Prop := V K kr sr σ 25 [(0, .ref a0), (1, .int y)] []
set_option maxHeartbeats 4000000 in
set_option maxRecDepth 100000 in
theorem v_X2_endingZeros_L2 {K : Cq} {k0 s0 : Nat} (hC : Cx K prog_4_method_7_code "TensMill$Natural") (hR : kR K = rmF 0 0 k0 s0) (hN : kn K = 3) {kr sr : Nat} : ∀ (n : Nat) (σ : St) (a0 : Nat) (i1 : Int32) (y : Int32), f_X2_endingZeros_L2 n σ a0 i1 = some y → E_X2_endingZeros_L2 K kr sr σ a0 y → V K kr sr σ 2 [(0, .ref a0), (1, .int i1)] [] := by
  intro n
  induction n with
  | zero =>
    intro σ a0 i1 y hf hE
    cases hf
  | succ n ih =>
    intro σ a0 i1 y hf hE
    replace hf : b_X2_endingZeros_L2 (f_X2_endingZeros_L2 n) σ a0 i1 = some y := hf
    unfold b_X2_endingZeros_L2 at hf
    refine v_iload_n hC 1 dX2_endingZeros_2 rfl ?_
    refine v_aload_n hC 0 dX2_endingZeros_3 rfl ?_
    refine v_getI hC (host := "") hf fd_2_1 w_86 dX2_endingZeros_4 (fun x1 hf => ?_)
    refine v_icmp_ge hC hf dX2_endingZeros_7 (tgt := 25) (by decide) (fun hf => ?_) (fun hf => ?_)
    · exact v_sub [(0, .ref a0), (1, .int i1)] [0, 1] rfl (v_exP (E := E_X2_endingZeros_L2 K _ _ _ a0) hf hE)
    · refine v_at 10 rfl ?_
      refine v_aload_n hC 0 dX2_endingZeros_10 rfl ?_
      refine v_getR hC (host := "") hf fd_2_0 w_85 dX2_endingZeros_11 (fun r2 hf => ?_)
      refine v_iload_n hC 1 dX2_endingZeros_14 rfl ?_
      refine v_ldI hC hf dX2_endingZeros_15 (fun x3 hf => ?_)
      refine v_if_ne hC hf dX2_endingZeros_16 (tgt := 25) (by decide) (fun hf => ?_) (fun hf => ?_)
      · exact v_sub [(0, .ref a0), (1, .int i1)] [0, 1] rfl (v_exP (E := E_X2_endingZeros_L2 K _ _ _ a0) hf hE)
      · refine v_at 19 rfl ?_
        refine v_incL hC hf 1 (fun x4 => [(1, .int x4), (0, .ref a0)]) dX2_endingZeros_19 rfl (by decide) hN (Nat.le_of_ble_eq_true rfl) (fun _ => rfl) (fun x4 hf => ?_)
        refine v_goto (tgt := 2) hC dX2_endingZeros_22 (by decide) ?_
        exact v_sub [(0, .ref a0), (1, .int x4)] [1, 0] rfl (ih _ _ _ _ hf hE)
def E_X2_endingZeros_L37 (K : Cq) (kr sr : Nat) (σ : St) (i1 : Int32) (y : Int32) : Prop := V K kr sr σ 66 [(1, .int i1), (2, .int y)] []
set_option maxHeartbeats 4000000 in
set_option maxRecDepth 100000 in
theorem v_X2_endingZeros_L37 {K : Cq} {k0 s0 : Nat} (hC : Cx K prog_4_method_7_code "TensMill$Natural") (hR : kR K = rmF 0 0 k0 s0) (hN : kn K = 3) {kr sr : Nat} : ∀ (n : Nat) (σ : St) (a0 : Nat) (i1 : Int32) (i2 : Int32) (y : Int32), f_X2_endingZeros_L37 n σ a0 i1 i2 = some y → E_X2_endingZeros_L37 K kr sr σ i1 y → V K kr sr σ 37 [(0, .ref a0), (1, .int i1), (2, .int i2)] [] := by
  intro n
  induction n with
  | zero =>
    intro σ a0 i1 i2 y hf hE
    cases hf
  | succ n ih =>
    intro σ a0 i1 i2 y hf hE
    replace hf : b_X2_endingZeros_L37 (f_X2_endingZeros_L37 n) σ a0 i1 i2 = some y := hf
    unfold b_X2_endingZeros_L37 at hf
    refine v_iload_n hC 2 dX2_endingZeros_37 rfl ?_
    refine v_bipush (v := 8) hC dX2_endingZeros_38 (by decide) ?_
    refine v_icmp_ge hC hf dX2_endingZeros_40 (tgt := 66) (by decide) (fun hf => ?_) (fun hf => ?_)
    · exact v_sub [(1, .int i1), (2, .int i2)] [1, 2] rfl (v_exP (E := E_X2_endingZeros_L37 K _ _ _ i1) hf hE)
    · refine v_at 43 rfl ?_
      refine v_aload_n hC 0 dX2_endingZeros_43 rfl ?_
      refine v_getR hC (host := "") hf fd_2_0 w_85 dX2_endingZeros_44 (fun r7 hf => ?_)
      refine v_iload_n hC 1 dX2_endingZeros_47 rfl ?_
      refine v_ldI hC hf dX2_endingZeros_48 (fun x8 hf => ?_)
      refine v_getsN hC n_20 dX2_endingZeros_49 ?_
      refine v_iload_n hC 2 dX2_endingZeros_52 rfl ?_
      refine v_iconst (v := 1) hC dX2_endingZeros_53 (by decide) ?_
      refine v_iadd hC dX2_endingZeros_54 ?_
      refine v_at 55 rfl ?_
      refine v_ldI hC hf dX2_endingZeros_55 (fun x9 hf => ?_)
      refine v_irem hC hf dX2_endingZeros_56 (fun x10 hf => ?_)
      refine v_if_ne hC hf dX2_endingZeros_57 (tgt := 66) (by decide) (fun hf => ?_) (fun hf => ?_)
      · exact v_sub [(1, .int i1), (2, .int i2)] [1, 2] rfl (v_exP (E := E_X2_endingZeros_L37 K _ _ _ i1) hf hE)
      · refine v_at 60 rfl ?_
        refine v_incL hC hf 2 (fun x11 => [(2, .int x11), (0, .ref a0), (1, .int i1)]) dX2_endingZeros_60 rfl (by decide) hN (Nat.le_of_ble_eq_true rfl) (fun _ => rfl) (fun x11 hf => ?_)
        refine v_goto (tgt := 37) hC dX2_endingZeros_63 (by decide) ?_
        exact v_sub [(0, .ref a0), (1, .int i1), (2, .int x11)] [1, 2, 0] rfl (ih _ _ _ _ _ hf hE)
set_option maxHeartbeats 4000000 in
set_option maxRecDepth 100000 in
theorem m_X2_endingZeros {G : Gm} {l : Launch} {σ : St} {a0 : Nat} {r : Int32} (hf : f_X2_endingZeros σ a0 = some r) : (∃ fs : List Value, σ.1 a0 = some (.inr (.inl (2, fs)))) ∧ Ct G l y_X2_endingZeros prog_4_method_7_code 3 (some .int) 0 0 [.ref a0] σ (some (.int r)) σ 0 0 := by
  unfold f_X2_endingZeros at hf
  obtain ⟨hob, hf⟩ := ob_some hf
  refine ⟨hob, Ct.ofV pl_X2_endingZeros (Nat.le_of_ble_eq_true rfl) ?_⟩
  intro K hR hN hnm hC hE
  show V K 0 0 σ 0 [(0, .ref a0)] []
  refine v_iconst (v := 0) hC dX2_endingZeros_0 (by decide) ?_
  refine v_istore_n hC [(1, .int 0), (0, .ref a0)] dX2_endingZeros_1 rfl hN (Nat.le_of_ble_eq_true rfl) rfl ?_
  refine v_at 2 rfl ?_
  refine v_sub [(0, .ref a0), (1, .int 0)] [1, 0] rfl ?_
  refine v_lpP hf (E_X2_endingZeros_L2 K _ _ σ a0) (fun _ h hE => v_X2_endingZeros_L2 hC hR hN _ _ _ _ _ h hE) (fun y5 hf => ?_)
  show V K _ _ σ 25 [(0, .ref a0), (1, .int y5)] []
  refine v_iload_n hC 1 dX2_endingZeros_25 rfl ?_
  refine v_aload_n hC 0 dX2_endingZeros_26 rfl ?_
  refine v_getI hC (host := "") hf fd_2_1 w_86 dX2_endingZeros_27 (fun x6 hf => ?_)
  refine v_icmp_ne hC hf dX2_endingZeros_30 (tgt := 35) (by decide) (fun hf => ?_) (fun hf => ?_)
  · refine v_iconst (v := 0) hC dX2_endingZeros_35 (by decide) ?_
    refine v_istore_n hC [(2, .int 0), (0, .ref a0), (1, .int y5)] dX2_endingZeros_36 rfl hN (Nat.le_of_ble_eq_true rfl) rfl ?_
    refine v_at 37 rfl ?_
    refine v_sub [(0, .ref a0), (1, .int y5), (2, .int 0)] [1, 2, 0] rfl ?_
    refine v_lpP hf (E_X2_endingZeros_L37 K _ _ σ y5) (fun _ h hE => v_X2_endingZeros_L37 hC hR hN _ _ _ _ _ _ h hE) (fun y12 hf => ?_)
    show V K _ _ σ 66 [(1, .int y5), (2, .int y12)] []
    refine v_iload_n hC 0 dX2_endingZeros_66 rfl ?_
    refine v_bipush (v := 9) hC dX2_endingZeros_67 (by decide) ?_
    refine v_imul hC dX2_endingZeros_69 ?_
    refine v_iload_n hC 1 dX2_endingZeros_70 rfl ?_
    refine v_iadd hC dX2_endingZeros_71 ?_
    exact v_retIP hC hf hE dX2_endingZeros_72
  · refine v_at 33 rfl ?_
    refine v_iconst (v := 0) hC dX2_endingZeros_33 (by decide) ?_
    exact v_retIP hC hf hE dX2_endingZeros_34
def E_X2_hasDigitsBelow_L13 (K : Cq) (kr sr : Nat) (σ : St) (a0 : Nat) (i1 : Int32) (i2 : Int32) (y : (Unit) ⊕ (Unit)) : Prop := match y with
  | .inl z => V K kr sr σ 35 [] []
  | .inr z => V K kr sr σ 43 [(0, .ref a0), (1, .int i1), (2, .int i2)] []
set_option maxHeartbeats 4000000 in
set_option maxRecDepth 100000 in
theorem v_X2_hasDigitsBelow_L13 {K : Cq} {k0 s0 : Nat} (hC : Cx K prog_4_method_8_code "TensMill$Natural") (hR : kR K = rmF 0 0 k0 s0) (hN : kn K = 4) {kr sr : Nat} : ∀ (n : Nat) (σ : St) (a0 : Nat) (i1 : Int32) (i2 : Int32) (i3 : Int32) (y : (Unit) ⊕ (Unit)), f_X2_hasDigitsBelow_L13 n σ a0 i1 i2 i3 = some y → E_X2_hasDigitsBelow_L13 K kr sr σ a0 i1 i2 y → V K kr sr σ 13 [(0, .ref a0), (1, .int i1), (2, .int i2), (3, .int i3)] [] := by
  intro n
  induction n with
  | zero =>
    intro σ a0 i1 i2 i3 y hf hE
    cases hf
  | succ n ih =>
    intro σ a0 i1 i2 i3 y hf hE
    replace hf : b_X2_hasDigitsBelow_L13 (f_X2_hasDigitsBelow_L13 n) σ a0 i1 i2 i3 = some y := hf
    unfold b_X2_hasDigitsBelow_L13 at hf
    refine v_iload_n hC 3 dX2_hasDigitsBelow_13 rfl ?_
    refine v_iload_n hC 2 dX2_hasDigitsBelow_14 rfl ?_
    refine v_icmp_ge hC hf dX2_hasDigitsBelow_15 (tgt := 43) (by decide) (fun hf => ?_) (fun hf => ?_)
    · exact v_sub [(0, .ref a0), (1, .int i1), (2, .int i2)] [0, 1, 2] rfl (v_exP (E := E_X2_hasDigitsBelow_L13 K _ _ _ a0 i1 i2) hf hE)
    · refine v_at 18 rfl ?_
      refine v_iload_n hC 3 dX2_hasDigitsBelow_18 rfl ?_
      refine v_aload_n hC 0 dX2_hasDigitsBelow_19 rfl ?_
      refine v_getI hC (host := "") hf fd_2_1 w_86 dX2_hasDigitsBelow_20 (fun x2 hf => ?_)
      refine v_icmp_ge hC hf dX2_hasDigitsBelow_23 (tgt := 43) (by decide) (fun hf => ?_) (fun hf => ?_)
      · exact v_sub [(0, .ref a0), (1, .int i1), (2, .int i2)] [0, 1, 2] rfl (v_exP (E := E_X2_hasDigitsBelow_L13 K _ _ _ a0 i1 i2) hf hE)
      · refine v_at 26 rfl ?_
        refine v_aload_n hC 0 dX2_hasDigitsBelow_26 rfl ?_
        refine v_getR hC (host := "") hf fd_2_0 w_85 dX2_hasDigitsBelow_27 (fun r3 hf => ?_)
        refine v_iload_n hC 3 dX2_hasDigitsBelow_30 rfl ?_
        refine v_ldI hC hf dX2_hasDigitsBelow_31 (fun x4 hf => ?_)
        refine v_if_eq hC hf dX2_hasDigitsBelow_32 (tgt := 37) (by decide) (fun hf => ?_) (fun hf => ?_)
        · refine v_incL hC hf 3 (fun x5 => [(3, .int x5), (0, .ref a0), (1, .int i1), (2, .int i2)]) dX2_hasDigitsBelow_37 rfl (by decide) hN (Nat.le_of_ble_eq_true rfl) (fun _ => rfl) (fun x5 hf => ?_)
          refine v_goto (tgt := 13) hC dX2_hasDigitsBelow_40 (by decide) ?_
          exact v_sub [(0, .ref a0), (1, .int i1), (2, .int i2), (3, .int x5)] [1, 2, 3, 0] rfl (ih _ _ _ _ _ _ hf hE)
        · refine v_at 35 rfl ?_
          exact v_sub [] [] rfl (v_exP (E := E_X2_hasDigitsBelow_L13 K _ _ _ a0 i1 i2) hf hE)
set_option maxHeartbeats 4000000 in
set_option maxRecDepth 100000 in
theorem m_X2_hasDigitsBelow {G : Gm} {l : Launch} {σ : St} {a0 : Nat} {i1 : Int32} {r : Int32} (hf : f_X2_hasDigitsBelow σ a0 i1 = some r) : (∃ fs : List Value, σ.1 a0 = some (.inr (.inl (2, fs)))) ∧ Ct G l y_X2_hasDigitsBelow prog_4_method_8_code 4 (some .boolean) 0 0 [.ref a0, .int i1] σ (some (.int r)) σ 0 0 := by
  unfold f_X2_hasDigitsBelow at hf
  obtain ⟨hob, hf⟩ := ob_some hf
  refine ⟨hob, Ct.ofV pl_X2_hasDigitsBelow (Nat.le_of_ble_eq_true rfl) ?_⟩
  intro K hR hN hnm hC hE
  show V K 0 0 σ 0 [(0, .ref a0), (1, .int i1)] []
  refine v_iload_n hC 1 dX2_hasDigitsBelow_0 rfl ?_
  refine v_if_gt hC hf dX2_hasDigitsBelow_1 (tgt := 6) (by decide) (fun hf => ?_) (fun hf => ?_)
  · refine v_iload_n hC 1 dX2_hasDigitsBelow_6 rfl ?_
    refine v_bipush (v := 9) hC dX2_hasDigitsBelow_7 (by decide) ?_
    refine v_idiv hC hf dX2_hasDigitsBelow_9 (fun x1 hf => ?_)
    refine v_istore_n hC [(2, .int x1), (0, .ref a0), (1, .int i1)] dX2_hasDigitsBelow_10 rfl hN (Nat.le_of_ble_eq_true rfl) rfl ?_
    refine v_iconst (v := 0) hC dX2_hasDigitsBelow_11 (by decide) ?_
    refine v_istore_n hC [(3, .int 0), (2, .int x1), (0, .ref a0), (1, .int i1)] dX2_hasDigitsBelow_12 rfl hN (Nat.le_of_ble_eq_true rfl) rfl ?_
    refine v_at 13 rfl ?_
    refine v_sub [(0, .ref a0), (1, .int i1), (2, .int x1), (3, .int 0)] [2, 3, 1, 0] rfl ?_
    refine v_lpP hf (E_X2_hasDigitsBelow_L13 K _ _ σ a0 i1 x1) (fun _ h hE => v_X2_hasDigitsBelow_L13 hC hR hN _ _ _ _ _ _ _ h hE) (fun y6 hf => ?_)
    rcases y6 with z7 | z8
    · show V K _ _ σ 35 [] []
      refine v_iconst (v := 1) hC dX2_hasDigitsBelow_35 (by decide) ?_
      exact v_retZP hC hf hE dX2_hasDigitsBelow_36
    · show V K _ _ σ 43 [(0, .ref a0), (1, .int i1), (2, .int x1)] []
      refine v_iload_n hC 2 dX2_hasDigitsBelow_43 rfl ?_
      refine v_aload_n hC 0 dX2_hasDigitsBelow_44 rfl ?_
      refine v_getI hC (host := "") hf fd_2_1 w_86 dX2_hasDigitsBelow_45 (fun x9 hf => ?_)
      refine v_icmp_ge hC hf dX2_hasDigitsBelow_48 (tgt := 73) (by decide) (fun hf => ?_) (fun hf => ?_)
      · refine v_iconst (v := 0) hC dX2_hasDigitsBelow_73 (by decide) ?_
        exact v_retZP hC hf hE dX2_hasDigitsBelow_74
      · refine v_at 51 rfl ?_
        refine v_aload_n hC 0 dX2_hasDigitsBelow_51 rfl ?_
        refine v_getR hC (host := "") hf fd_2_0 w_85 dX2_hasDigitsBelow_52 (fun r10 hf => ?_)
        refine v_iload_n hC 2 dX2_hasDigitsBelow_55 rfl ?_
        refine v_ldI hC hf dX2_hasDigitsBelow_56 (fun x11 hf => ?_)
        refine v_getsN hC n_20 dX2_hasDigitsBelow_57 ?_
        refine v_iload_n hC 1 dX2_hasDigitsBelow_60 rfl ?_
        refine v_bipush (v := 9) hC dX2_hasDigitsBelow_61 (by decide) ?_
        refine v_irem hC hf dX2_hasDigitsBelow_63 (fun x12 hf => ?_)
        refine v_at 64 rfl ?_
        refine v_ldI hC hf dX2_hasDigitsBelow_64 (fun x13 hf => ?_)
        refine v_irem hC hf dX2_hasDigitsBelow_65 (fun x14 hf => ?_)
        refine v_if_eq hC hf dX2_hasDigitsBelow_66 (tgt := 73) (by decide) (fun hf => ?_) (fun hf => ?_)
        · refine v_iconst (v := 0) hC dX2_hasDigitsBelow_73 (by decide) ?_
          exact v_retZP hC hf hE dX2_hasDigitsBelow_74
        · refine v_at 69 rfl ?_
          refine v_iconst (v := 1) hC dX2_hasDigitsBelow_69 (by decide) ?_
          refine v_goto (tgt := 74) hC dX2_hasDigitsBelow_70 (by decide) ?_
          exact v_retZP hC hf hE dX2_hasDigitsBelow_74
  · refine v_at 4 rfl ?_
    refine v_iconst (v := 0) hC dX2_hasDigitsBelow_4 (by decide) ?_
    exact v_retZP hC hf hE dX2_hasDigitsBelow_5
set_option maxHeartbeats 4000000 in
set_option maxRecDepth 100000 in
theorem m_X2_clear {G : Gm} {l : Launch} {σ : St} {a0 : Nat} {r : Unit} {σf : St} {k s : Nat} (hf : f_X2_clear σ a0 = some (r, σf, k, s)) : (∃ fs : List Value, σ.1 a0 = some (.inr (.inl (2, fs)))) ∧ Ct G l y_X2_clear prog_4_method_9_code 1 none 0 0 [.ref a0] σ none σf k s := by
  unfold f_X2_clear at hf
  obtain ⟨hob, hf⟩ := ob_some hf
  refine ⟨hob, Ct.ofV pl_X2_clear (Nat.le_of_ble_eq_true rfl) ?_⟩
  intro K hR hN hnm hC hE
  show V K (k + 0) (s + 0) σ 0 [(0, .ref a0)] []
  refine v_aload_n hC 0 dX2_clear_0 rfl ?_
  refine v_iconst (v := 0) hC dX2_clear_1 (by decide) ?_
  refine v_put hC hf fd_2_1 w_86 rfl rfl dX2_clear_2 (fun σ1 hf => ?_)
  exact v_retV hC hf hE dX2_clear_5
set_option maxHeartbeats 4000000 in
set_option maxRecDepth 100000 in
theorem m_J9_abs_0f7a4 {G : Gm} {l : Launch} {σ : St} {i0 : Int32} {r : Int32} (hf : f_J9_abs_0f7a4 σ i0 = some r) : Ct G l y_J9_abs_0f7a4 prog_11_method_59_code 1 (some .int) 0 0 [.int i0] σ (some (.int r)) σ 0 0 := by
  unfold f_J9_abs_0f7a4 at hf
  refine Ct.ofV pl_J9_abs_0f7a4 (Nat.le_of_ble_eq_true rfl) ?_
  intro K hR hN hnm hC hE
  show V K 0 0 σ 0 [(0, .int i0)] []
  refine v_iload_n hC 0 dJ9_abs_0f7a4_0 rfl ?_
  refine v_if_ge hC hf dJ9_abs_0f7a4_1 (tgt := 9) (by decide) (fun hf => ?_) (fun hf => ?_)
  · refine v_iload_n hC 0 dJ9_abs_0f7a4_9 rfl ?_
    exact v_retIP hC hf hE dJ9_abs_0f7a4_10
  · refine v_at 4 rfl ?_
    refine v_iload_n hC 0 dJ9_abs_0f7a4_4 rfl ?_
    refine v_ineg hC dJ9_abs_0f7a4_5 ?_
    refine v_goto (tgt := 10) hC dJ9_abs_0f7a4_6 (by decide) ?_
    exact v_retIP hC hf hE dJ9_abs_0f7a4_10
def E_X2_becomeSizeOf_L7 (K : Cq)  (y : Unit) (σ : St) (kr sr : Nat) : Prop := V K kr sr σ 58 [] []
set_option maxHeartbeats 4000000 in
set_option maxRecDepth 100000 in
theorem v_X2_becomeSizeOf_L7 {K : Cq} {k0 s0 : Nat} (hC : Cx K prog_4_method_11_code "TensMill$Natural") (hR : kR K = rmF 1 20 k0 s0) (hN : kn K = 5) {ko so : Nat} : ∀ (n : Nat) (σ : St) (a0 : Nat) (j3 : Int64) (y : Unit) (σf : St) (kr sr : Nat), f_X2_becomeSizeOf_L7 n σ a0 j3 = some (y, σf, kr, sr) → E_X2_becomeSizeOf_L7 K  y σf ko so → V K (kr + ko) (sr + so) σ 7 [(0, .ref a0), (3, .long j3)] [] := by
  intro n
  induction n with
  | zero =>
    intro σ a0 j3 y σf kr sr hf hE
    cases hf
  | succ n ih =>
    intro σ a0 j3 y σf kr sr hf hE
    replace hf : b_X2_becomeSizeOf_L7 (f_X2_becomeSizeOf_L7 n) σ a0 j3 = some (y, σf, kr, sr) := hf
    unfold b_X2_becomeSizeOf_L7 at hf
    refine v_aload_n hC 0 dX2_becomeSizeOf_7 rfl ?_
    refine v_getI hC (host := "") hf fd_2_1 w_86 dX2_becomeSizeOf_8 (fun x2 hf => ?_)
    refine v_iconst (v := 3) hC dX2_becomeSizeOf_11 (by decide) ?_
    refine v_icmp_ge hC hf dX2_becomeSizeOf_12 (tgt := 58) (by decide) (fun hf => ?_) (fun hf => ?_)
    · obtain ⟨hX, e1, e2⟩ := v_exE (E := E_X2_becomeSizeOf_L7 K ) hf hE
      rw [e1, e2]
      exact v_sub [] [] rfl hX
    · refine v_at 15 rfl ?_
      refine v_lload_n hC 1 dX2_becomeSizeOf_15 rfl ?_
      refine v_lconst (v := 0) hC dX2_becomeSizeOf_16 (by decide) ?_
      refine v_lcmp_eq hC hf dX2_becomeSizeOf_17 dX2_becomeSizeOf_18 (tgt := 58) (by decide) (fun hf => ?_) (fun hf => ?_)
      · obtain ⟨hX, e1, e2⟩ := v_exE (E := E_X2_becomeSizeOf_L7 K ) hf hE
        rw [e1, e2]
        exact v_sub [] [] rfl hX
      · refine v_at 21 rfl ?_
        refine v_aload_n hC 0 dX2_becomeSizeOf_21 rfl ?_
        refine v_getR hC (host := "") hf fd_2_0 w_85 dX2_becomeSizeOf_22 (fun r3 hf => ?_)
        refine v_aload_n hC 0 dX2_becomeSizeOf_25 rfl ?_
        refine v_getI hC (host := "") hf fd_2_1 w_86 dX2_becomeSizeOf_26 (fun x4 hf => ?_)
        refine v_lload_n hC 1 dX2_becomeSizeOf_29 rfl ?_
        refine v_ldc2 hC dX2_becomeSizeOf_30 w_218 ?_
        refine v_lrem hC hf dX2_becomeSizeOf_33 (fun l5 hf => ?_)
        refine v_l2i hC dX2_becomeSizeOf_34 ?_
        refine v_at 35 rfl ?_
        refine v_cSP hC (y := y_J9_abs_0f7a4) [.int ((l5 : Int64).toInt32)] [.int x4, .ref r3] (fun r => some (.int r)) (fun r => .int r :: [.int x4, .ref r3]) hf (fun _ h => m_J9_abs_0f7a4 h) rfl (fun _ => rfl) hR (Nat.le_of_ble_eq_true rfl) (Nat.le_of_ble_eq_true rfl) w_221 w_219 w_220 w_65 nm_J9_abs_0f7a4 rfl (Nat.le_of_ble_eq_true rfl) dX2_becomeSizeOf_35 (fun x6 hf => ?_)
        refine v_stI hC hf dX2_becomeSizeOf_38 (fun σ7 hf => ?_)
        refine v_lload_n hC 1 dX2_becomeSizeOf_39 rfl ?_
        refine v_ldc2 hC dX2_becomeSizeOf_40 w_218 ?_
        refine v_ldiv hC hf dX2_becomeSizeOf_43 (fun l8 hf => ?_)
        refine v_lstore_n hC [(3, .long l8), (0, .ref a0)] dX2_becomeSizeOf_44 rfl hN (Nat.le_of_ble_eq_true rfl) rfl ?_
        refine v_aload_n hC 1 dX2_becomeSizeOf_45 rfl ?_
        refine v_dup hC dX2_becomeSizeOf_46 rfl ?_
        refine v_at 47 rfl ?_
        refine v_getI hC (host := "") hf fd_2_1 w_86 dX2_becomeSizeOf_47 (fun x9 hf => ?_)
        refine v_iconst (v := 1) hC dX2_becomeSizeOf_50 (by decide) ?_
        refine v_iadd hC dX2_becomeSizeOf_51 ?_
        refine v_put hC hf fd_2_1 w_86 rfl rfl dX2_becomeSizeOf_52 (fun σ10 hf => ?_)
        refine v_goto (tgt := 7) hC dX2_becomeSizeOf_55 (by decide) ?_
        exact v_sub [(0, .ref a0), (3, .long l8)] [1, 0] rfl (ih _ _ _ _ _ _ _ hf hE)
set_option maxHeartbeats 4000000 in
set_option maxRecDepth 100000 in
theorem m_X2_becomeSizeOf {G : Gm} {l : Launch} {σ : St} {a0 : Nat} {j1 : Int64} {r : Unit} {σf : St} {k s : Nat} (hf : f_X2_becomeSizeOf σ a0 j1 = some (r, σf, k, s)) : (∃ fs : List Value, σ.1 a0 = some (.inr (.inl (2, fs)))) ∧ Ct G l y_X2_becomeSizeOf prog_4_method_11_code 5 none 1 20 [.ref a0, .long j1] σ none σf k s := by
  unfold f_X2_becomeSizeOf at hf
  obtain ⟨hob, hf⟩ := ob_some hf
  refine ⟨hob, Ct.ofV pl_X2_becomeSizeOf (Nat.le_of_ble_eq_true rfl) ?_⟩
  intro K hR hN hnm hC hE
  show V K (k + 0) (s + 0) σ 0 [(0, .ref a0), (1, .long j1)] []
  refine v_aload_n hC 0 dX2_becomeSizeOf_0 rfl ?_
  refine v_iconst (v := 0) hC dX2_becomeSizeOf_1 (by decide) ?_
  refine v_put hC hf fd_2_1 w_86 rfl rfl dX2_becomeSizeOf_2 (fun σ1 hf => ?_)
  refine v_lload_n hC 1 dX2_becomeSizeOf_5 rfl ?_
  refine v_lstore_n hC [(3, .long j1), (0, .ref a0), (1, .long j1)] dX2_becomeSizeOf_6 rfl hN (Nat.le_of_ble_eq_true rfl) rfl ?_
  refine v_at 7 rfl ?_
  refine v_sub [(0, .ref a0), (3, .long j1)] [1, 0] rfl ?_
  refine v_lpE hf (E_X2_becomeSizeOf_L7 K ) (fun _ _ _ _ _ _ h hE => v_X2_becomeSizeOf_L7 hC hR hN _ _ _ _ _ _ _ _ h hE) (fun y11 σ12 _ _ hf => ?_)
  show V K _ _ σ12 58 [] []
  exact v_retV hC hf hE dX2_becomeSizeOf_58
def E_X2_emptyLimbs_L2 (K : Cq)  (y : Unit) (σ : St) (kr sr : Nat) : Prop := V K kr sr σ 29 [] []
set_option maxHeartbeats 4000000 in
set_option maxRecDepth 100000 in
theorem v_X2_emptyLimbs_L2 {K : Cq} {k0 s0 : Nat} (hC : Cx K prog_4_method_33_code "TensMill$Natural") (hR : kR K = rmF 0 0 k0 s0) (hN : kn K = 3) {ko so : Nat} : ∀ (n : Nat) (σ : St) (a0 : Nat) (i1 : Int32) (i2 : Int32) (y : Unit) (σf : St) (kr sr : Nat), f_X2_emptyLimbs_L2 n σ a0 i1 i2 = some (y, σf, kr, sr) → E_X2_emptyLimbs_L2 K  y σf ko so → V K (kr + ko) (sr + so) σ 2 [(0, .ref a0), (1, .int i1), (2, .int i2)] [] := by
  intro n
  induction n with
  | zero =>
    intro σ a0 i1 i2 y σf kr sr hf hE
    cases hf
  | succ n ih =>
    intro σ a0 i1 i2 y σf kr sr hf hE
    replace hf : b_X2_emptyLimbs_L2 (f_X2_emptyLimbs_L2 n) σ a0 i1 i2 = some (y, σf, kr, sr) := hf
    unfold b_X2_emptyLimbs_L2 at hf
    refine v_iload_n hC 2 dX2_emptyLimbs_2 rfl ?_
    refine v_iload_n hC 1 dX2_emptyLimbs_3 rfl ?_
    refine v_icmp_ge hC hf dX2_emptyLimbs_4 (tgt := 29) (by decide) (fun hf => ?_) (fun hf => ?_)
    · obtain ⟨hX, e1, e2⟩ := v_exE (E := E_X2_emptyLimbs_L2 K ) hf hE
      rw [e1, e2]
      exact v_sub [] [] rfl hX
    · refine v_at 7 rfl ?_
      refine v_iload_n hC 2 dX2_emptyLimbs_7 rfl ?_
      refine v_aload_n hC 0 dX2_emptyLimbs_8 rfl ?_
      refine v_getR hC (host := "") hf fd_2_0 w_85 dX2_emptyLimbs_9 (fun r1 hf => ?_)
      refine v_aln hC hf dX2_emptyLimbs_12 (fun x2 hf => ?_)
      refine v_icmp_ge hC hf dX2_emptyLimbs_13 (tgt := 29) (by decide) (fun hf => ?_) (fun hf => ?_)
      · obtain ⟨hX, e1, e2⟩ := v_exE (E := E_X2_emptyLimbs_L2 K ) hf hE
        rw [e1, e2]
        exact v_sub [] [] rfl hX
      · refine v_at 16 rfl ?_
        refine v_aload_n hC 0 dX2_emptyLimbs_16 rfl ?_
        refine v_getR hC (host := "") hf fd_2_0 w_85 dX2_emptyLimbs_17 (fun r3 hf => ?_)
        refine v_iload_n hC 2 dX2_emptyLimbs_20 rfl ?_
        refine v_iconst (v := 0) hC dX2_emptyLimbs_21 (by decide) ?_
        refine v_stI hC hf dX2_emptyLimbs_22 (fun σ4 hf => ?_)
        refine v_incL hC hf 2 (fun x5 => [(2, .int x5), (0, .ref a0), (1, .int i1)]) dX2_emptyLimbs_23 rfl (by decide) hN (Nat.le_of_ble_eq_true rfl) (fun _ => rfl) (fun x5 hf => ?_)
        refine v_goto (tgt := 2) hC dX2_emptyLimbs_26 (by decide) ?_
        exact v_sub [(0, .ref a0), (1, .int i1), (2, .int x5)] [1, 2, 0] rfl (ih _ _ _ _ _ _ _ _ hf hE)
set_option maxHeartbeats 4000000 in
set_option maxRecDepth 100000 in
theorem m_X2_emptyLimbs {G : Gm} {l : Launch} {σ : St} {a0 : Nat} {i1 : Int32} {r : Unit} {σf : St} {k s : Nat} (hf : f_X2_emptyLimbs σ a0 i1 = some (r, σf, k, s)) : (∃ fs : List Value, σ.1 a0 = some (.inr (.inl (2, fs)))) ∧ Ct G l y_X2_emptyLimbs prog_4_method_33_code 3 none 0 0 [.ref a0, .int i1] σ none σf k s := by
  unfold f_X2_emptyLimbs at hf
  obtain ⟨hob, hf⟩ := ob_some hf
  refine ⟨hob, Ct.ofV pl_X2_emptyLimbs (Nat.le_of_ble_eq_true rfl) ?_⟩
  intro K hR hN hnm hC hE
  show V K (k + 0) (s + 0) σ 0 [(0, .ref a0), (1, .int i1)] []
  refine v_iconst (v := 0) hC dX2_emptyLimbs_0 (by decide) ?_
  refine v_istore_n hC [(2, .int 0), (0, .ref a0), (1, .int i1)] dX2_emptyLimbs_1 rfl hN (Nat.le_of_ble_eq_true rfl) rfl ?_
  refine v_at 2 rfl ?_
  refine v_sub [(0, .ref a0), (1, .int i1), (2, .int 0)] [1, 2, 0] rfl ?_
  refine v_lpE hf (E_X2_emptyLimbs_L2 K ) (fun _ _ _ _ _ _ h hE => v_X2_emptyLimbs_L2 hC hR hN _ _ _ _ _ _ _ _ _ h hE) (fun y6 σ7 _ _ hf => ?_)
  show V K _ _ σ7 29 [] []
  exact v_retV hC hf hE dX2_emptyLimbs_29
set_option maxHeartbeats 4000000 in
set_option maxRecDepth 100000 in
theorem m_X4_codeAt {G : Gm} {l : Launch} {σ : St} {a0 : Nat} {i1 : Int32} {r : Int32} (hf : f_X4_codeAt σ a0 i1 = some r) : (∃ fs : List Value, σ.1 a0 = some (.inr (.inl (4, fs)))) ∧ Ct G l y_X4_codeAt prog_6_method_2_code 2 (some .int) 0 0 [.ref a0, .int i1] σ (some (.int r)) σ 0 0 := by
  unfold f_X4_codeAt at hf
  obtain ⟨hob, hf⟩ := ob_some hf
  refine ⟨hob, Ct.ofV pl_X4_codeAt (Nat.le_of_ble_eq_true rfl) ?_⟩
  intro K hR hN hnm hC hE
  show V K 0 0 σ 0 [(0, .ref a0), (1, .int i1)] []
  refine v_iload_n hC 1 dX4_codeAt_0 rfl ?_
  refine v_if_lt hC hf dX4_codeAt_1 (tgt := 21) (by decide) (fun hf => ?_) (fun hf => ?_)
  · refine v_iconst (v := (-1)) hC dX4_codeAt_21 (by decide) ?_
    exact v_retIP hC hf hE dX4_codeAt_22
  · refine v_at 4 rfl ?_
    refine v_iload_n hC 1 dX4_codeAt_4 rfl ?_
    refine v_aload_n hC 0 dX4_codeAt_5 rfl ?_
    refine v_getI hC (host := "") hf fd_4_1 w_100 dX4_codeAt_6 (fun x1 hf => ?_)
    refine v_icmp_ge hC hf dX4_codeAt_9 (tgt := 21) (by decide) (fun hf => ?_) (fun hf => ?_)
    · refine v_iconst (v := (-1)) hC dX4_codeAt_21 (by decide) ?_
      exact v_retIP hC hf hE dX4_codeAt_22
    · refine v_at 12 rfl ?_
      refine v_aload_n hC 0 dX4_codeAt_12 rfl ?_
      refine v_getR hC (host := "") hf fd_4_0 w_99 dX4_codeAt_13 (fun r2 hf => ?_)
      refine v_iload_n hC 1 dX4_codeAt_16 rfl ?_
      refine v_ldB hC hf dX4_codeAt_17 (fun x3 hf => ?_)
      refine v_goto (tgt := 22) hC dX4_codeAt_18 (by decide) ?_
      exact v_retIP hC hf hE dX4_codeAt_22
def E_X2_trim_L0 (K : Cq)  (y : Unit) (σ : St) (kr sr : Nat) : Prop := V K kr sr σ 34 [] []
set_option maxHeartbeats 4000000 in
set_option maxRecDepth 100000 in
theorem v_X2_trim_L0 {K : Cq} {k0 s0 : Nat} (hC : Cx K prog_4_method_34_code "TensMill$Natural") (hR : kR K = rmF 0 0 k0 s0) (hN : kn K = 1) {ko so : Nat} : ∀ (n : Nat) (σ : St) (a0 : Nat) (y : Unit) (σf : St) (kr sr : Nat), f_X2_trim_L0 n σ a0 = some (y, σf, kr, sr) → E_X2_trim_L0 K  y σf ko so → V K (kr + ko) (sr + so) σ 0 [(0, .ref a0)] [] := by
  intro n
  induction n with
  | zero =>
    intro σ a0 y σf kr sr hf hE
    cases hf
  | succ n ih =>
    intro σ a0 y σf kr sr hf hE
    replace hf : b_X2_trim_L0 (f_X2_trim_L0 n) σ a0 = some (y, σf, kr, sr) := hf
    unfold b_X2_trim_L0 at hf
    refine v_aload_n hC 0 dX2_trim_0 rfl ?_
    refine v_getI hC (host := "") hf fd_2_1 w_86 dX2_trim_1 (fun x1 hf => ?_)
    refine v_if_le hC hf dX2_trim_4 (tgt := 34) (by decide) (fun hf => ?_) (fun hf => ?_)
    · obtain ⟨hX, e1, e2⟩ := v_exE (E := E_X2_trim_L0 K ) hf hE
      rw [e1, e2]
      exact v_sub [] [] rfl hX
    · refine v_at 7 rfl ?_
      refine v_aload_n hC 0 dX2_trim_7 rfl ?_
      refine v_getR hC (host := "") hf fd_2_0 w_85 dX2_trim_8 (fun r2 hf => ?_)
      refine v_aload_n hC 0 dX2_trim_11 rfl ?_
      refine v_getI hC (host := "") hf fd_2_1 w_86 dX2_trim_12 (fun x3 hf => ?_)
      refine v_iconst (v := 1) hC dX2_trim_15 (by decide) ?_
      refine v_isub hC dX2_trim_16 ?_
      refine v_ldI hC hf dX2_trim_17 (fun x4 hf => ?_)
      refine v_if_ne hC hf dX2_trim_18 (tgt := 34) (by decide) (fun hf => ?_) (fun hf => ?_)
      · obtain ⟨hX, e1, e2⟩ := v_exE (E := E_X2_trim_L0 K ) hf hE
        rw [e1, e2]
        exact v_sub [] [] rfl hX
      · refine v_at 21 rfl ?_
        refine v_aload_n hC 0 dX2_trim_21 rfl ?_
        refine v_dup hC dX2_trim_22 rfl ?_
        refine v_getI hC (host := "") hf fd_2_1 w_86 dX2_trim_23 (fun x5 hf => ?_)
        refine v_iconst (v := 1) hC dX2_trim_26 (by decide) ?_
        refine v_isub hC dX2_trim_27 ?_
        refine v_put hC hf fd_2_1 w_86 rfl rfl dX2_trim_28 (fun σ6 hf => ?_)
        refine v_goto (tgt := 0) hC dX2_trim_31 (by decide) ?_
        exact v_sub [(0, .ref a0)] [0] rfl (ih _ _ _ _ _ _ hf hE)
set_option maxHeartbeats 4000000 in
set_option maxRecDepth 100000 in
theorem m_X2_trim {G : Gm} {l : Launch} {σ : St} {a0 : Nat} {r : Unit} {σf : St} {k s : Nat} (hf : f_X2_trim σ a0 = some (r, σf, k, s)) : (∃ fs : List Value, σ.1 a0 = some (.inr (.inl (2, fs)))) ∧ Ct G l y_X2_trim prog_4_method_34_code 1 none 0 0 [.ref a0] σ none σf k s := by
  unfold f_X2_trim at hf
  obtain ⟨hob, hf⟩ := ob_some hf
  refine ⟨hob, Ct.ofV pl_X2_trim (Nat.le_of_ble_eq_true rfl) ?_⟩
  intro K hR hN hnm hC hE
  show V K (k + 0) (s + 0) σ 0 [(0, .ref a0)] []
  refine v_sub [(0, .ref a0)] [0] rfl ?_
  refine v_lpE hf (E_X2_trim_L0 K ) (fun _ _ _ _ _ _ h hE => v_X2_trim_L0 hC hR hN _ _ _ _ _ _ _ h hE) (fun y7 σ8 _ _ hf => ?_)
  show V K _ _ σ8 34 [] []
  exact v_retV hC hf hE dX2_trim_34
def E_X2_becomeDigits_L30 (K : Cq) (a0 : Nat) (i4 : Int32) (y : Unit) (σ : St) (kr sr : Nat) : Prop := V K kr sr σ 88 [(0, .ref a0), (4, .int i4)] []
set_option maxHeartbeats 4000000 in
set_option maxRecDepth 100000 in
theorem v_X2_becomeDigits_L30 {K : Cq} {k0 s0 : Nat} (hC : Cx K prog_4_method_12_code "TensMill$Natural") (hR : kR K = rmF 3 69 k0 s0) (hN : kn K = 8) {ko so : Nat} : ∀ (n : Nat) (σ : St) (a0 : Nat) (a1 : Nat) (i2 : Int32) (i4 : Int32) (i5 : Int32) (i6 : Int32) (y : Unit) (σf : St) (kr sr : Nat), f_X2_becomeDigits_L30 n σ a0 a1 i2 i4 i5 i6 = some (y, σf, kr, sr) → E_X2_becomeDigits_L30 K a0 i4 y σf ko so → V K (kr + ko) (sr + so) σ 30 [(0, .ref a0), (1, .ref a1), (2, .int i2), (4, .int i4), (5, .int i5), (6, .int i6)] [] := by
  intro n
  induction n with
  | zero =>
    intro σ a0 a1 i2 i4 i5 i6 y σf kr sr hf hE
    cases hf
  | succ n ih =>
    intro σ a0 a1 i2 i4 i5 i6 y σf kr sr hf hE
    replace hf : b_X2_becomeDigits_L30 (f_X2_becomeDigits_L30 n) σ a0 a1 i2 i4 i5 i6 = some (y, σf, kr, sr) := hf
    unfold b_X2_becomeDigits_L30 at hf
    refine v_iload hC 5 dX2_becomeDigits_30 rfl ?_
    refine v_iload_n hC 2 dX2_becomeDigits_32 rfl ?_
    refine v_icmp_lt hC hf dX2_becomeDigits_33 (tgt := 88) (by decide) (fun hf => ?_) (fun hf => ?_)
    · obtain ⟨hX, e1, e2⟩ := v_exE (E := E_X2_becomeDigits_L30 K a0 i4) hf hE
      rw [e1, e2]
      exact v_sub [(0, .ref a0), (4, .int i4)] [0, 3] rfl hX
    · refine v_at 36 rfl ?_
      refine v_aload_n hC 1 dX2_becomeDigits_36 rfl ?_
      refine v_iload hC 5 dX2_becomeDigits_37 rfl ?_
      refine v_cVP hC (y := y_X4_codeAt) (ci := 4) [.int i6] [] (fun r => some (.int r)) (fun r => .int r :: []) hf (fun _ h => m_X4_codeAt h) rfl (fun _ => rfl) rfl rfl hR (Nat.le_of_ble_eq_true rfl) (Nat.le_of_ble_eq_true rfl) w_572 w_598 w_570 w_571 w_60 nm_X4_codeAt rfl (Nat.le_of_ble_eq_true rfl) dX2_becomeDigits_39 (fun x6 hf => ?_)
      refine v_istore hC [(7, .int x6), (0, .ref a0), (1, .ref a1), (2, .int i2), (4, .int i4), (5, .int i5), (6, .int i6)] dX2_becomeDigits_42 hN (Nat.le_of_ble_eq_true rfl) rfl ?_
      refine v_iload hC 0 dX2_becomeDigits_44 rfl ?_
      refine v_bipush (v := 46) hC dX2_becomeDigits_46 (by decide) ?_
      refine v_jnE hf (fun z7 kr sr => V K (kr + ko) (sr + so) z7.2 82 [(0, .ref a0), (1, .ref a1), (2, .int i2), (4, .int i4), (5, .int z7.1), (6, .int i6)] []) (fun z7 _ _ hf => ?_) (fun k7 hk7 hf => ?_)
      · refine v_incL hC hf 5 (fun x8 => [(6, .int x8), (0, .ref a0), (1, .ref a1), (2, .int i2), (4, .int i4), (5, .int z7.1)]) dX2_becomeDigits_82 rfl (by decide) hN (Nat.le_of_ble_eq_true rfl) (fun _ => rfl) (fun x8 hf => ?_)
        refine v_goto (tgt := 30) hC dX2_becomeDigits_85 (by decide) ?_
        exact v_sub [(0, .ref a0), (1, .ref a1), (2, .int i2), (4, .int i4), (5, .int z7.1), (6, .int x8)] [1, 2, 3, 4, 5, 0] rfl (ih _ _ _ _ _ _ _ _ _ _ _ hf hE)
      · refine v_icmp_eq hC hf dX2_becomeDigits_48 (tgt := 82) (by decide) (fun hf => ?_) (fun hf => ?_)
        · exact v_sub [(0, .ref a0), (1, .ref a1), (2, .int i2), (4, .int i4), (5, .int i5), (6, .int i6)] [1, 2, 3, 4, 5, 6] rfl (hk7 _ _ _ hf)
        · refine v_at 51 rfl ?_
          refine v_aload_n hC 1 dX2_becomeDigits_51 rfl ?_
          refine v_getR hC (host := "") hf fd_2_0 w_85 dX2_becomeDigits_52 (fun r9 hf => ?_)
          refine v_iload hC 5 dX2_becomeDigits_55 rfl ?_
          refine v_bipush (v := 9) hC dX2_becomeDigits_57 (by decide) ?_
          refine v_idiv hC hf dX2_becomeDigits_59 (fun x10 hf => ?_)
          refine v_dup2 hC dX2_becomeDigits_60 rfl rfl ?_
          refine v_ldI hC hf dX2_becomeDigits_61 (fun x11 hf => ?_)
          refine v_iload hC 0 dX2_becomeDigits_62 rfl ?_
          refine v_at 64 rfl ?_
          refine v_bipush (v := 48) hC dX2_becomeDigits_64 (by decide) ?_
          refine v_isub hC dX2_becomeDigits_66 ?_
          refine v_getsN hC n_20 dX2_becomeDigits_67 ?_
          refine v_iload hC 5 dX2_becomeDigits_70 rfl ?_
          refine v_bipush (v := 9) hC dX2_becomeDigits_72 (by decide) ?_
          refine v_irem hC hf dX2_becomeDigits_74 (fun x12 hf => ?_)
          refine v_ldI hC hf dX2_becomeDigits_75 (fun x13 hf => ?_)
          refine v_imul hC dX2_becomeDigits_76 ?_
          refine v_at 77 rfl ?_
          refine v_iadd hC dX2_becomeDigits_77 ?_
          refine v_stI hC hf dX2_becomeDigits_78 (fun σ14 hf => ?_)
          refine v_incL hC hf 5 (fun x15 => [(5, .int x15), (7, .int x6), (0, .ref a0), (1, .ref a1), (2, .int i2), (4, .int i4), (6, .int i6)]) dX2_becomeDigits_79 rfl (by decide) hN (Nat.le_of_ble_eq_true rfl) (fun _ => rfl) (fun x15 hf => ?_)
          refine v_at 82 rfl ?_
          exact v_sub [(0, .ref a0), (1, .ref a1), (2, .int i2), (4, .int i4), (5, .int x15), (6, .int i6)] [2, 3, 4, 5, 0, 6] rfl (hk7 _ _ _ hf)
set_option maxHeartbeats 4000000 in
set_option maxRecDepth 100000 in
theorem m_X2_becomeDigits {G : Gm} {l : Launch} {σ : St} {a0 : Nat} {a1 : Nat} {i2 : Int32} {i3 : Int32} {r : Unit} {σf : St} {k s : Nat} (hf : f_X2_becomeDigits σ a0 a1 i2 i3 = some (r, σf, k, s)) : (∃ fs : List Value, σ.1 a0 = some (.inr (.inl (2, fs)))) ∧ Ct G l y_X2_becomeDigits prog_4_method_12_code 8 none 3 69 [.ref a0, .ref a1, .int i2, .int i3] σ none σf k s := by
  unfold f_X2_becomeDigits at hf
  obtain ⟨hob, hf⟩ := ob_some hf
  refine ⟨hob, Ct.ofV pl_X2_becomeDigits (Nat.le_of_ble_eq_true rfl) ?_⟩
  intro K hR hN hnm hC hE
  show V K (k + 0) (s + 0) σ 0 [(0, .ref a0), (1, .ref a1), (2, .int i2), (3, .int i3)] []
  refine v_iload_n hC 3 dX2_becomeDigits_0 rfl ?_
  refine v_iload_n hC 2 dX2_becomeDigits_1 rfl ?_
  refine v_isub hC dX2_becomeDigits_2 ?_
  refine v_bipush (v := 9) hC dX2_becomeDigits_3 (by decide) ?_
  refine v_idiv hC hf dX2_becomeDigits_5 (fun x1 hf => ?_)
  refine v_iconst (v := 1) hC dX2_becomeDigits_6 (by decide) ?_
  refine v_iadd hC dX2_becomeDigits_7 ?_
  refine v_ltI hf (fun x2 hf => ?_)
  refine v_istore hC [(4, .int x2), (0, .ref a0), (1, .ref a1), (2, .int i2), (3, .int i3)] dX2_becomeDigits_8 hN (Nat.le_of_ble_eq_true rfl) rfl ?_
  refine v_at 10 rfl ?_
  refine v_aload_n hC 1 dX2_becomeDigits_10 rfl ?_
  refine v_iload hC 0 dX2_becomeDigits_11 rfl ?_
  refine v_cVE hC (y := y_X2_makeRoom) (ci := 2) [.int x2] [] (fun _ => none) (fun _ => []) hf (fun _ _ _ _ h => m_X2_makeRoom h) rfl (fun _ => rfl) rfl rfl hR (Nat.le_of_ble_eq_true rfl) (Nat.le_of_ble_eq_true rfl) w_249 w_246 w_248 w_1 w_59 nm_X2_makeRoom rfl (Nat.le_of_ble_eq_true rfl) dX2_becomeDigits_13 (fun _ σ3 _ _ hf => ?_)
  refine v_aload_n hC 1 dX2_becomeDigits_16 rfl ?_
  refine v_iload hC 0 dX2_becomeDigits_17 rfl ?_
  refine v_cVE hC (y := y_X2_emptyLimbs) (ci := 2) [.int x2] [] (fun _ => none) (fun _ => []) hf (fun _ _ _ _ h => m_X2_emptyLimbs h) rfl (fun _ => rfl) rfl rfl hR (Nat.le_of_ble_eq_true rfl) (Nat.le_of_ble_eq_true rfl) w_303 w_300 w_302 w_3 w_59 nm_X2_emptyLimbs rfl (Nat.le_of_ble_eq_true rfl) dX2_becomeDigits_19 (fun _ σ4 _ _ hf => ?_)
  refine v_iconst (v := 0) hC dX2_becomeDigits_22 (by decide) ?_
  refine v_istore hC [(5, .int 0), (4, .int x2), (0, .ref a0), (1, .ref a1), (2, .int i2), (3, .int i3)] dX2_becomeDigits_23 hN (Nat.le_of_ble_eq_true rfl) rfl ?_
  refine v_at 25 rfl ?_
  refine v_iload_n hC 5 dX2_becomeDigits_25 rfl ?_
  refine v_iconst (v := 1) hC dX2_becomeDigits_26 (by decide) ?_
  refine v_isub hC dX2_becomeDigits_27 ?_
  refine v_ltI hf (fun x5 hf => ?_)
  refine v_istore hC [(6, .int x5), (5, .int 0), (4, .int x2), (0, .ref a0), (1, .ref a1), (2, .int i2), (3, .int i3)] dX2_becomeDigits_28 hN (Nat.le_of_ble_eq_true rfl) rfl ?_
  refine v_at 30 rfl ?_
  refine v_sub [(0, .ref a0), (1, .ref a1), (2, .int i2), (4, .int x2), (5, .int 0), (6, .int x5)] [3, 4, 5, 2, 1, 0] rfl ?_
  refine v_lpE hf (E_X2_becomeDigits_L30 K a0 x2) (fun _ _ _ _ _ _ h hE => v_X2_becomeDigits_L30 hC hR hN _ _ _ _ _ _ _ _ _ _ _ _ h hE) (fun y16 σ17 _ _ hf => ?_)
  show V K _ _ σ17 88 [(0, .ref a0), (4, .int x2)] []
  refine v_aload_n hC 0 dX2_becomeDigits_88 rfl ?_
  refine v_iload hC 1 dX2_becomeDigits_89 rfl ?_
  refine v_put hC hf fd_2_1 w_86 rfl rfl dX2_becomeDigits_91 (fun σ18 hf => ?_)
  refine v_aload_n hC 0 dX2_becomeDigits_94 rfl ?_
  refine v_cVE hC (y := y_X2_trim) (ci := 2) [] [] (fun _ => none) (fun _ => []) hf (fun _ _ _ _ h => m_X2_trim h) rfl (fun _ => rfl) rfl rfl hR (Nat.le_of_ble_eq_true rfl) (Nat.le_of_ble_eq_true rfl) w_307 w_304 w_306 w_4 w_59 nm_X2_trim rfl (Nat.le_of_ble_eq_true rfl) dX2_becomeDigits_95 (fun _ σ19 _ _ hf => ?_)
  exact v_retV hC hf hE dX2_becomeDigits_98
def E_X2_raise_L57 (K : Cq) (a0 : Nat) (i3 : Int32) (i5 : Int32) (y : Int32) (σ : St) (kr sr : Nat) : Prop := V K kr sr σ 120 [(0, .ref a0), (3, .int i3), (5, .int i5), (6, .int y)] []
set_option maxHeartbeats 4000000 in
set_option maxRecDepth 100000 in
theorem v_X2_raise_L57 {K : Cq} {k0 s0 : Nat} (hC : Cx K prog_4_method_13_code "TensMill$Natural") (hR : kR K = rmF 3 69 k0 s0) (hN : kn K = 11) {ko so : Nat} : ∀ (n : Nat) (σ : St) (a0 : Nat) (a1 : Nat) (i3 : Int32) (i4 : Int32) (i5 : Int32) (i6 : Int32) (i7 : Int32) (y : Int32) (σf : St) (kr sr : Nat), f_X2_raise_L57 n σ a0 a1 i3 i4 i5 i6 i7 = some (y, σf, kr, sr) → E_X2_raise_L57 K a0 i3 i5 y σf ko so → V K (kr + ko) (sr + so) σ 57 [(0, .ref a0), (1, .ref a1), (3, .int i3), (4, .int i4), (5, .int i5), (6, .int i6), (7, .int i7)] [] := by
  intro n
  induction n with
  | zero =>
    intro σ a0 a1 i3 i4 i5 i6 i7 y σf kr sr hf hE
    cases hf
  | succ n ih =>
    intro σ a0 a1 i3 i4 i5 i6 i7 y σf kr sr hf hE
    replace hf : b_X2_raise_L57 (f_X2_raise_L57 n) σ a0 a1 i3 i4 i5 i6 i7 = some (y, σf, kr, sr) := hf
    unfold b_X2_raise_L57 at hf
    refine v_iload hC 6 dX2_raise_57 rfl ?_
    refine v_if_lt hC hf dX2_raise_59 (tgt := 120) (by decide) (fun hf => ?_) (fun hf => ?_)
    · obtain ⟨hX, e1, e2⟩ := v_exE (E := E_X2_raise_L57 K a0 i3 i5) hf hE
      rw [e1, e2]
      exact v_sub [(0, .ref a0), (3, .int i3), (5, .int i5), (6, .int i6)] [0, 2, 4, 5] rfl hX
    · refine v_at 62 rfl ?_
      refine v_aload_n hC 1 dX2_raise_62 rfl ?_
      refine v_getR hC (host := "") hf fd_2_0 w_85 dX2_raise_63 (fun r10 hf => ?_)
      refine v_iload hC 6 dX2_raise_66 rfl ?_
      refine v_ldI hC hf dX2_raise_68 (fun x11 hf => ?_)
      refine v_i2l hC dX2_raise_69 ?_
      refine v_iload hC 3 dX2_raise_70 rfl ?_
      refine v_i2l hC dX2_raise_72 ?_
      refine v_lmul hC dX2_raise_73 ?_
      refine v_at 74 rfl ?_
      refine v_ltL hf (fun l12 hf => ?_)
      refine v_lstore hC [(8, .long l12), (0, .ref a0), (1, .ref a1), (3, .int i3), (4, .int i4), (5, .int i5), (6, .int i6), (7, .int i7)] dX2_raise_74 hN (Nat.le_of_ble_eq_true rfl) rfl ?_
      refine v_lload hC 0 dX2_raise_76 rfl ?_
      refine v_ldc2 hC dX2_raise_78 w_218 ?_
      refine v_ldiv hC hf dX2_raise_81 (fun l13 hf => ?_)
      refine v_l2i hC dX2_raise_82 ?_
      refine v_ltI hf (fun x14 hf => ?_)
      refine v_istore hC [(10, .int x14), (8, .long l12), (0, .ref a0), (1, .ref a1), (3, .int i3), (4, .int i4), (5, .int i5), (6, .int i6), (7, .int i7)] dX2_raise_83 hN (Nat.le_of_ble_eq_true rfl) rfl ?_
      refine v_aload_n hC 2 dX2_raise_85 rfl ?_
      refine v_getR hC (host := "") hf fd_2_0 w_85 dX2_raise_86 (fun r15 hf => ?_)
      refine v_at 89 rfl ?_
      refine v_iload hC 8 dX2_raise_89 rfl ?_
      refine v_iload_n hC 4 dX2_raise_91 rfl ?_
      refine v_iadd hC dX2_raise_92 ?_
      refine v_iconst (v := 1) hC dX2_raise_93 (by decide) ?_
      refine v_iadd hC dX2_raise_94 ?_
      refine v_iload hC 7 dX2_raise_95 rfl ?_
      refine v_iload hC 0 dX2_raise_97 rfl ?_
      refine v_iadd hC dX2_raise_99 ?_
      refine v_at 100 rfl ?_
      refine v_stI hC hf dX2_raise_100 (fun σ16 hf => ?_)
      refine v_lload hC 1 dX2_raise_101 rfl ?_
      refine v_iload hC 0 dX2_raise_103 rfl ?_
      refine v_i2l hC dX2_raise_105 ?_
      refine v_ldc2 hC dX2_raise_106 w_218 ?_
      refine v_lmul hC dX2_raise_109 ?_
      refine v_lsub hC dX2_raise_110 ?_
      refine v_l2i hC dX2_raise_111 ?_
      refine v_at 112 rfl ?_
      refine v_ltI hf (fun x17 hf => ?_)
      refine v_istore hC [(6, .int x17), (10, .int x14), (8, .long l12), (0, .ref a0), (1, .ref a1), (3, .int i3), (4, .int i4), (5, .int i5), (7, .int i7)] dX2_raise_112 hN (Nat.le_of_ble_eq_true rfl) rfl ?_
      refine v_incL hC hf 8 (fun x18 => [(7, .int x18), (6, .int x17), (10, .int x14), (8, .long l12), (0, .ref a0), (1, .ref a1), (3, .int i3), (4, .int i4), (5, .int i5)]) dX2_raise_114 rfl (by decide) hN (Nat.le_of_ble_eq_true rfl) (fun _ => rfl) (fun x18 hf => ?_)
      refine v_goto (tgt := 57) hC dX2_raise_117 (by decide) ?_
      exact v_sub [(0, .ref a0), (1, .ref a1), (3, .int i3), (4, .int i4), (5, .int i5), (6, .int x17), (7, .int x18)] [4, 5, 6, 7, 8, 1, 0] rfl (ih _ _ _ _ _ _ _ _ _ _ _ _ hf hE)
set_option maxHeartbeats 4000000 in
set_option maxRecDepth 100000 in
theorem m_X2_raise {G : Gm} {l : Launch} {σ : St} {a0 : Nat} {a1 : Nat} {i2 : Int32} {r : Unit} {σf : St} {k s : Nat} (hf : f_X2_raise σ a0 a1 i2 = some (r, σf, k, s)) : (∃ fs : List Value, σ.1 a0 = some (.inr (.inl (2, fs)))) ∧ Ct G l y_X2_raise prog_4_method_13_code 11 none 3 69 [.ref a0, .ref a1, .int i2] σ none σf k s := by
  unfold f_X2_raise at hf
  obtain ⟨hob, hf⟩ := ob_some hf
  refine ⟨hob, Ct.ofV pl_X2_raise (Nat.le_of_ble_eq_true rfl) ?_⟩
  intro K hR hN hnm hC hE
  show V K (k + 0) (s + 0) σ 0 [(0, .ref a0), (1, .ref a1), (2, .int i2)] []
  refine v_aload_n hC 1 dX2_raise_0 rfl ?_
  refine v_getI hC (host := "") hf fd_2_1 w_86 dX2_raise_1 (fun x1 hf => ?_)
  refine v_jnE hf (fun z2 kr sr => V K (kr + 0) (sr + 0) σ 11 [(0, .ref a0)] []) (fun z2 _ _ hf => ?_) (fun k2 hk2 hf => ?_)
  · refine v_aload_n hC 0 dX2_raise_11 rfl ?_
    refine v_iconst (v := 0) hC dX2_raise_12 (by decide) ?_
    refine v_put hC hf fd_2_1 w_86 rfl rfl dX2_raise_13 (fun σ3 hf => ?_)
    exact v_retV hC hf hE dX2_raise_16
  · refine v_if_eq hC hf dX2_raise_4 (tgt := 11) (by decide) (fun hf => ?_) (fun hf => ?_)
    · exact v_sub [(0, .ref a0)] [0] rfl (hk2 _ _ _ hf)
    · refine v_at 7 rfl ?_
      refine v_iload_n hC 2 dX2_raise_7 rfl ?_
      refine v_if_ge hC hf dX2_raise_8 (tgt := 17) (by decide) (fun hf => ?_) (fun hf => ?_)
      · refine v_iload_n hC 2 dX2_raise_17 rfl ?_
        refine v_bipush (v := 9) hC dX2_raise_18 (by decide) ?_
        refine v_idiv hC hf dX2_raise_20 (fun x4 hf => ?_)
        refine v_istore_n hC [(3, .int x4), (0, .ref a0), (1, .ref a1), (2, .int i2)] dX2_raise_21 rfl hN (Nat.le_of_ble_eq_true rfl) rfl ?_
        refine v_getsN hC n_20 dX2_raise_22 ?_
        refine v_iload_n hC 3 dX2_raise_25 rfl ?_
        refine v_bipush (v := 9) hC dX2_raise_26 (by decide) ?_
        refine v_irem hC hf dX2_raise_28 (fun x5 hf => ?_)
        refine v_at 29 rfl ?_
        refine v_ldI hC hf dX2_raise_29 (fun x6 hf => ?_)
        refine v_istore hC [(4, .int x6), (3, .int x4), (0, .ref a0), (1, .ref a1), (2, .int i2)] dX2_raise_30 hN (Nat.le_of_ble_eq_true rfl) rfl ?_
        refine v_aload_n hC 3 dX2_raise_32 rfl ?_
        refine v_getI hC (host := "") hf fd_2_1 w_86 dX2_raise_33 (fun x7 hf => ?_)
        refine v_istore hC [(5, .int x7), (4, .int x6), (3, .int x4), (0, .ref a0), (1, .ref a1), (2, .int i2)] dX2_raise_36 hN (Nat.le_of_ble_eq_true rfl) rfl ?_
        refine v_aload_n hC 3 dX2_raise_38 rfl ?_
        refine v_iload hC 0 dX2_raise_39 rfl ?_
        refine v_iload_n hC 2 dX2_raise_41 rfl ?_
        refine v_at 42 rfl ?_
        refine v_iadd hC dX2_raise_42 ?_
        refine v_iconst (v := 1) hC dX2_raise_43 (by decide) ?_
        refine v_iadd hC dX2_raise_44 ?_
        refine v_cVE hC (y := y_X2_makeRoom) (ci := 2) [.int ((x7 + x4) + 1)] [] (fun _ => none) (fun _ => []) hf (fun _ _ _ _ h => m_X2_makeRoom h) rfl (fun _ => rfl) rfl rfl hR (Nat.le_of_ble_eq_true rfl) (Nat.le_of_ble_eq_true rfl) w_249 w_246 w_248 w_1 w_59 nm_X2_makeRoom rfl (Nat.le_of_ble_eq_true rfl) dX2_raise_45 (fun _ σ8 _ _ hf => ?_)
        refine v_iconst (v := 0) hC dX2_raise_48 (by decide) ?_
        refine v_istore hC [(6, .int 0), (5, .int x7), (4, .int x6), (3, .int x4), (0, .ref a0), (1, .ref a1), (2, .int i2)] dX2_raise_49 hN (Nat.le_of_ble_eq_true rfl) rfl ?_
        refine v_iload hC 1 dX2_raise_51 rfl ?_
        refine v_iconst (v := 1) hC dX2_raise_53 (by decide) ?_
        refine v_at 54 rfl ?_
        refine v_isub hC dX2_raise_54 ?_
        refine v_ltI hf (fun x9 hf => ?_)
        refine v_istore hC [(7, .int x9), (6, .int 0), (5, .int x7), (4, .int x6), (3, .int x4), (0, .ref a0), (1, .ref a1), (2, .int i2)] dX2_raise_55 hN (Nat.le_of_ble_eq_true rfl) rfl ?_
        refine v_at 57 rfl ?_
        refine v_sub [(0, .ref a0), (1, .ref a1), (3, .int x4), (4, .int x6), (5, .int x7), (6, .int 0), (7, .int x9)] [5, 6, 4, 3, 2, 1, 0] rfl ?_
        refine v_lpE hf (E_X2_raise_L57 K a0 x4 x7) (fun _ _ _ _ _ _ h hE => v_X2_raise_L57 hC hR hN _ _ _ _ _ _ _ _ _ _ _ _ _ h hE) (fun y19 σ20 _ _ hf => ?_)
        show V K _ _ σ20 120 [(0, .ref a0), (3, .int x4), (5, .int x7), (6, .int y19)] []
        refine v_aload_n hC 0 dX2_raise_120 rfl ?_
        refine v_getR hC (host := "") hf fd_2_0 w_85 dX2_raise_121 (fun r21 hf => ?_)
        refine v_iload_n hC 1 dX2_raise_124 rfl ?_
        refine v_iload hC 3 dX2_raise_125 rfl ?_
        refine v_stI hC hf dX2_raise_127 (fun σ22 hf => ?_)
        refine v_aload_n hC 0 dX2_raise_128 rfl ?_
        refine v_iload_n hC 1 dX2_raise_129 rfl ?_
        refine v_cVE hC (y := y_X2_emptyLimbs) (ci := 2) [.int x4] [] (fun _ => none) (fun _ => []) hf (fun _ _ _ _ h => m_X2_emptyLimbs h) rfl (fun _ => rfl) rfl rfl hR (Nat.le_of_ble_eq_true rfl) (Nat.le_of_ble_eq_true rfl) w_303 w_300 w_302 w_3 w_59 nm_X2_emptyLimbs rfl (Nat.le_of_ble_eq_true rfl) dX2_raise_130 (fun _ σ23 _ _ hf => ?_)
        refine v_at 133 rfl ?_
        refine v_aload_n hC 0 dX2_raise_133 rfl ?_
        refine v_iload hC 2 dX2_raise_134 rfl ?_
        refine v_iload_n hC 1 dX2_raise_136 rfl ?_
        refine v_iadd hC dX2_raise_137 ?_
        refine v_iconst (v := 1) hC dX2_raise_138 (by decide) ?_
        refine v_iadd hC dX2_raise_139 ?_
        refine v_put hC hf fd_2_1 w_86 rfl rfl dX2_raise_140 (fun σ24 hf => ?_)
        refine v_aload_n hC 0 dX2_raise_143 rfl ?_
        refine v_at 144 rfl ?_
        refine v_cVE hC (y := y_X2_trim) (ci := 2) [] [] (fun _ => none) (fun _ => []) hf (fun _ _ _ _ h => m_X2_trim h) rfl (fun _ => rfl) rfl rfl hR (Nat.le_of_ble_eq_true rfl) (Nat.le_of_ble_eq_true rfl) w_307 w_304 w_306 w_4 w_59 nm_X2_trim rfl (Nat.le_of_ble_eq_true rfl) dX2_raise_144 (fun _ σ25 _ _ hf => ?_)
        exact v_retV hC hf hE dX2_raise_147
      · refine v_at 11 rfl ?_
        exact v_sub [(0, .ref a0)] [0] rfl (hk2 _ _ _ hf)
def E_X2_drop_L57 (K : Cq) (a0 : Nat) (i3 : Int32) (i5 : Int32) (y : Unit) (σ : St) (kr sr : Nat) : Prop := V K kr sr σ 107 [(0, .ref a0), (3, .int i3), (5, .int i5)] []
set_option maxHeartbeats 4000000 in
set_option maxRecDepth 100000 in
theorem v_X2_drop_L57 {K : Cq} {k0 s0 : Nat} (hC : Cx K prog_4_method_14_code "TensMill$Natural") (hR : kR K = rmF 1 20 k0 s0) (hN : kn K = 7) {ko so : Nat} : ∀ (n : Nat) (σ : St) (a0 : Nat) (i2 : Int32) (i3 : Int32) (i4 : Int32) (i5 : Int32) (i6 : Int32) (y : Unit) (σf : St) (kr sr : Nat), f_X2_drop_L57 n σ a0 i2 i3 i4 i5 i6 = some (y, σf, kr, sr) → E_X2_drop_L57 K a0 i3 i5 y σf ko so → V K (kr + ko) (sr + so) σ 57 [(0, .ref a0), (2, .int i2), (3, .int i3), (4, .int i4), (5, .int i5), (6, .int i6)] [] := by
  intro n
  induction n with
  | zero =>
    intro σ a0 i2 i3 i4 i5 i6 y σf kr sr hf hE
    cases hf
  | succ n ih =>
    intro σ a0 i2 i3 i4 i5 i6 y σf kr sr hf hE
    replace hf : b_X2_drop_L57 (f_X2_drop_L57 n) σ a0 i2 i3 i4 i5 i6 = some (y, σf, kr, sr) := hf
    unfold b_X2_drop_L57 at hf
    refine v_iload hC 5 dX2_drop_57 rfl ?_
    refine v_iload hC 4 dX2_drop_59 rfl ?_
    refine v_iconst (v := 1) hC dX2_drop_61 (by decide) ?_
    refine v_isub hC dX2_drop_62 ?_
    refine v_icmp_ge hC hf dX2_drop_63 (tgt := 107) (by decide) (fun hf => ?_) (fun hf => ?_)
    · obtain ⟨hX, e1, e2⟩ := v_exE (E := E_X2_drop_L57 K a0 i3 i5) hf hE
      rw [e1, e2]
      exact v_sub [(0, .ref a0), (3, .int i3), (5, .int i5)] [0, 2, 4] rfl hX
    · refine v_at 66 rfl ?_
      refine v_aload_n hC 0 dX2_drop_66 rfl ?_
      refine v_getR hC (host := "") hf fd_2_0 w_85 dX2_drop_67 (fun r9 hf => ?_)
      refine v_iload hC 5 dX2_drop_70 rfl ?_
      refine v_aload_n hC 0 dX2_drop_72 rfl ?_
      refine v_getR hC (host := "") hf fd_2_0 w_85 dX2_drop_73 (fun r10 hf => ?_)
      refine v_iload hC 5 dX2_drop_76 rfl ?_
      refine v_iload_n hC 1 dX2_drop_78 rfl ?_
      refine v_iadd hC dX2_drop_79 ?_
      refine v_at 80 rfl ?_
      refine v_ldI hC hf dX2_drop_80 (fun x11 hf => ?_)
      refine v_iload_n hC 2 dX2_drop_81 rfl ?_
      refine v_idiv hC hf dX2_drop_82 (fun x12 hf => ?_)
      refine v_aload_n hC 0 dX2_drop_83 rfl ?_
      refine v_getR hC (host := "") hf fd_2_0 w_85 dX2_drop_84 (fun r13 hf => ?_)
      refine v_iload hC 5 dX2_drop_87 rfl ?_
      refine v_iload_n hC 1 dX2_drop_89 rfl ?_
      refine v_iadd hC dX2_drop_90 ?_
      refine v_at 91 rfl ?_
      refine v_iconst (v := 1) hC dX2_drop_91 (by decide) ?_
      refine v_iadd hC dX2_drop_92 ?_
      refine v_ldI hC hf dX2_drop_93 (fun x14 hf => ?_)
      refine v_iload_n hC 2 dX2_drop_94 rfl ?_
      refine v_irem hC hf dX2_drop_95 (fun x15 hf => ?_)
      refine v_iload hC 3 dX2_drop_96 rfl ?_
      refine v_imul hC dX2_drop_98 ?_
      refine v_iadd hC dX2_drop_99 ?_
      refine v_at 100 rfl ?_
      refine v_stI hC hf dX2_drop_100 (fun σ16 hf => ?_)
      refine v_incL hC hf 5 (fun x17 => [(6, .int x17), (0, .ref a0), (2, .int i2), (3, .int i3), (4, .int i4), (5, .int i5)]) dX2_drop_101 rfl (by decide) hN (Nat.le_of_ble_eq_true rfl) (fun _ => rfl) (fun x17 hf => ?_)
      refine v_goto (tgt := 57) hC dX2_drop_104 (by decide) ?_
      exact v_sub [(0, .ref a0), (2, .int i2), (3, .int i3), (4, .int i4), (5, .int i5), (6, .int x17)] [1, 2, 3, 4, 5, 0] rfl (ih _ _ _ _ _ _ _ _ _ _ _ hf hE)
set_option maxHeartbeats 4000000 in
set_option maxRecDepth 100000 in
theorem m_X2_drop {G : Gm} {l : Launch} {σ : St} {a0 : Nat} {i1 : Int32} {r : Unit} {σf : St} {k s : Nat} (hf : f_X2_drop σ a0 i1 = some (r, σf, k, s)) : (∃ fs : List Value, σ.1 a0 = some (.inr (.inl (2, fs)))) ∧ Ct G l y_X2_drop prog_4_method_14_code 7 none 1 20 [.ref a0, .int i1] σ none σf k s := by
  unfold f_X2_drop at hf
  obtain ⟨hob, hf⟩ := ob_some hf
  refine ⟨hob, Ct.ofV pl_X2_drop (Nat.le_of_ble_eq_true rfl) ?_⟩
  intro K hR hN hnm hC hE
  show V K (k + 0) (s + 0) σ 0 [(0, .ref a0), (1, .int i1)] []
  refine v_iload_n hC 1 dX2_drop_0 rfl ?_
  refine v_if_gt hC hf dX2_drop_1 (tgt := 5) (by decide) (fun hf => ?_) (fun hf => ?_)
  · refine v_iload_n hC 1 dX2_drop_5 rfl ?_
    refine v_bipush (v := 9) hC dX2_drop_6 (by decide) ?_
    refine v_idiv hC hf dX2_drop_8 (fun x1 hf => ?_)
    refine v_istore_n hC [(2, .int x1), (0, .ref a0), (1, .int i1)] dX2_drop_9 rfl hN (Nat.le_of_ble_eq_true rfl) rfl ?_
    refine v_iload_n hC 0 dX2_drop_10 rfl ?_
    refine v_aload_n hC 1 dX2_drop_11 rfl ?_
    refine v_getI hC (host := "") hf fd_2_1 w_86 dX2_drop_12 (fun x2 hf => ?_)
    refine v_icmp_lt hC hf dX2_drop_15 (tgt := 24) (by decide) (fun hf => ?_) (fun hf => ?_)
    · refine v_getsN hC n_20 dX2_drop_24 ?_
      refine v_iload_n hC 2 dX2_drop_27 rfl ?_
      refine v_bipush (v := 9) hC dX2_drop_28 (by decide) ?_
      refine v_irem hC hf dX2_drop_30 (fun x3 hf => ?_)
      refine v_ldI hC hf dX2_drop_31 (fun x4 hf => ?_)
      refine v_istore_n hC [(3, .int x4), (2, .int x1), (0, .ref a0), (1, .int i1)] dX2_drop_32 rfl hN (Nat.le_of_ble_eq_true rfl) rfl ?_
      refine v_getsN hC n_20 dX2_drop_33 ?_
      refine v_bipush (v := 9) hC dX2_drop_36 (by decide) ?_
      refine v_at 38 rfl ?_
      refine v_iload_n hC 3 dX2_drop_38 rfl ?_
      refine v_bipush (v := 9) hC dX2_drop_39 (by decide) ?_
      refine v_irem hC hf dX2_drop_41 (fun x5 hf => ?_)
      refine v_isub hC dX2_drop_42 ?_
      refine v_ldI hC hf dX2_drop_43 (fun x6 hf => ?_)
      refine v_istore hC [(4, .int x6), (3, .int x4), (2, .int x1), (0, .ref a0), (1, .int i1)] dX2_drop_44 hN (Nat.le_of_ble_eq_true rfl) rfl ?_
      refine v_aload_n hC 3 dX2_drop_46 rfl ?_
      refine v_getI hC (host := "") hf fd_2_1 w_86 dX2_drop_47 (fun x7 hf => ?_)
      refine v_at 50 rfl ?_
      refine v_iload_n hC 2 dX2_drop_50 rfl ?_
      refine v_isub hC dX2_drop_51 ?_
      refine v_ltI hf (fun x8 hf => ?_)
      refine v_istore hC [(5, .int x8), (4, .int x6), (3, .int x4), (2, .int x1), (0, .ref a0), (1, .int i1)] dX2_drop_52 hN (Nat.le_of_ble_eq_true rfl) rfl ?_
      refine v_iconst (v := 0) hC dX2_drop_54 (by decide) ?_
      refine v_istore hC [(6, .int 0), (5, .int x8), (4, .int x6), (3, .int x4), (2, .int x1), (0, .ref a0), (1, .int i1)] dX2_drop_55 hN (Nat.le_of_ble_eq_true rfl) rfl ?_
      refine v_at 57 rfl ?_
      refine v_sub [(0, .ref a0), (2, .int x1), (3, .int x4), (4, .int x6), (5, .int x8), (6, .int 0)] [5, 4, 3, 2, 1, 0] rfl ?_
      refine v_lpE hf (E_X2_drop_L57 K a0 x4 x8) (fun _ _ _ _ _ _ h hE => v_X2_drop_L57 hC hR hN _ _ _ _ _ _ _ _ _ _ _ _ h hE) (fun y18 σ19 _ _ hf => ?_)
      show V K _ _ σ19 107 [(0, .ref a0), (3, .int x4), (5, .int x8)] []
      refine v_aload_n hC 0 dX2_drop_107 rfl ?_
      refine v_getR hC (host := "") hf fd_2_0 w_85 dX2_drop_108 (fun r20 hf => ?_)
      refine v_iload hC 2 dX2_drop_111 rfl ?_
      refine v_iconst (v := 1) hC dX2_drop_113 (by decide) ?_
      refine v_isub hC dX2_drop_114 ?_
      refine v_aload_n hC 0 dX2_drop_115 rfl ?_
      refine v_getR hC (host := "") hf fd_2_0 w_85 dX2_drop_116 (fun r21 hf => ?_)
      refine v_aload_n hC 0 dX2_drop_119 rfl ?_
      refine v_at 120 rfl ?_
      refine v_getI hC (host := "") hf fd_2_1 w_86 dX2_drop_120 (fun x22 hf => ?_)
      refine v_iconst (v := 1) hC dX2_drop_123 (by decide) ?_
      refine v_isub hC dX2_drop_124 ?_
      refine v_ldI hC hf dX2_drop_125 (fun x23 hf => ?_)
      refine v_iload_n hC 1 dX2_drop_126 rfl ?_
      refine v_idiv hC hf dX2_drop_127 (fun x24 hf => ?_)
      refine v_stI hC hf dX2_drop_128 (fun σ25 hf => ?_)
      refine v_aload_n hC 0 dX2_drop_129 rfl ?_
      refine v_at 130 rfl ?_
      refine v_iload hC 2 dX2_drop_130 rfl ?_
      refine v_put hC hf fd_2_1 w_86 rfl rfl dX2_drop_132 (fun σ26 hf => ?_)
      refine v_aload_n hC 0 dX2_drop_135 rfl ?_
      refine v_cVE hC (y := y_X2_trim) (ci := 2) [] [] (fun _ => none) (fun _ => []) hf (fun _ _ _ _ h => m_X2_trim h) rfl (fun _ => rfl) rfl rfl hR (Nat.le_of_ble_eq_true rfl) (Nat.le_of_ble_eq_true rfl) w_307 w_304 w_306 w_4 w_59 nm_X2_trim rfl (Nat.le_of_ble_eq_true rfl) dX2_drop_136 (fun _ σ27 _ _ hf => ?_)
      exact v_retV hC hf hE dX2_drop_139
    · refine v_at 18 rfl ?_
      refine v_aload_n hC 1 dX2_drop_18 rfl ?_
      refine v_iconst (v := 0) hC dX2_drop_19 (by decide) ?_
      refine v_put hC hf fd_2_1 w_86 rfl rfl dX2_drop_20 (fun σ28 hf => ?_)
      exact v_retV hC hf hE dX2_drop_23
  · refine v_at 4 rfl ?_
    exact v_retV hC hf hE dX2_drop_4
set_option maxHeartbeats 4000000 in
set_option maxRecDepth 100000 in
theorem m_X2_cut {G : Gm} {l : Launch} {σ : St} {a0 : Nat} {i1 : Int32} {i2 : Int32} {r : Int32} {σf : St} {k s : Nat} (hf : f_X2_cut σ a0 i1 i2 = some (r, σf, k, s)) : (∃ fs : List Value, σ.1 a0 = some (.inr (.inl (2, fs)))) ∧ Ct G l y_X2_cut prog_4_method_15_code 5 (some .int) 2 46 [.ref a0, .int i1, .int i2] σ (some (.int r)) σf k s := by
  unfold f_X2_cut at hf
  obtain ⟨hob, hf⟩ := ob_some hf
  refine ⟨hob, Ct.ofV pl_X2_cut (Nat.le_of_ble_eq_true rfl) ?_⟩
  intro K hR hN hnm hC hE
  show V K (k + 0) (s + 0) σ 0 [(0, .ref a0), (1, .int i1), (2, .int i2)] []
  refine v_iload_n hC 1 dX2_cut_0 rfl ?_
  refine v_if_gt hC hf dX2_cut_1 (tgt := 14) (by decide) (fun hf => ?_) (fun hf => ?_)
  · refine v_aload_n hC 0 dX2_cut_14 rfl ?_
    refine v_iload_n hC 1 dX2_cut_15 rfl ?_
    refine v_iconst (v := 1) hC dX2_cut_16 (by decide) ?_
    refine v_isub hC dX2_cut_17 ?_
    refine v_cVP hC (y := y_X2_digitAt) (ci := 2) [.int (i1 - 1)] [] (fun r => some (.int r)) (fun r => .int r :: []) hf (fun _ h => m_X2_digitAt h) rfl (fun _ => rfl) rfl rfl hR (Nat.le_of_ble_eq_true rfl) (Nat.le_of_ble_eq_true rfl) w_415 w_412 w_413 w_414 w_59 nm_X2_digitAt rfl (Nat.le_of_ble_eq_true rfl) dX2_cut_18 (fun x1 hf => ?_)
    refine v_istore_n hC [(3, .int x1), (0, .ref a0), (1, .int i1), (2, .int i2)] dX2_cut_21 rfl hN (Nat.le_of_ble_eq_true rfl) rfl ?_
    refine v_iload_n hC 3 dX2_cut_22 rfl ?_
    refine v_jnE hf (fun z2 kr sr => V K (kr + 0) (sr + 0) σ 41 [(0, .ref a0), (1, .int i1), (3, .int x1)] [.int z2]) (fun z2 _ _ hf => ?_) (fun k2 hk2 hf => ?_)
    · refine v_istore hC [(4, .int z2), (0, .ref a0), (1, .int i1), (3, .int x1)] dX2_cut_41 hN (Nat.le_of_ble_eq_true rfl) rfl ?_
      refine v_aload_n hC 1 dX2_cut_43 rfl ?_
      refine v_iload_n hC 2 dX2_cut_44 rfl ?_
      refine v_cVE hC (y := y_X2_drop) (ci := 2) [.int i1] [] (fun _ => none) (fun _ => []) hf (fun _ _ _ _ h => m_X2_drop h) rfl (fun _ => rfl) rfl rfl hR (Nat.le_of_ble_eq_true rfl) (Nat.le_of_ble_eq_true rfl) w_423 w_420 w_421 w_422 w_59 nm_X2_drop rfl (Nat.le_of_ble_eq_true rfl) dX2_cut_45 (fun _ σ3 _ _ hf => ?_)
      refine v_iload_n hC 3 dX2_cut_48 rfl ?_
      refine v_jnE hf (fun z4 kr sr => V K (kr + 0) (sr + 0) σ3 59 [(3, .int x1), (4, .int z2)] []) (fun z4 _ _ hf => ?_) (fun k4 hk4 hf => ?_)
      · refine v_iload_n hC 0 dX2_cut_59 rfl ?_
        refine v_iconst (v := 5) hC dX2_cut_60 (by decide) ?_
        refine v_jnE hf (fun z5 kr sr => V K (kr + 0) (sr + 0) σ3 71 [(3, .int x1)] []) (fun z5 _ _ hf => ?_) (fun k5 hk5 hf => ?_)
        · refine v_iload_n hC 0 dX2_cut_71 rfl ?_
          refine v_iconst (v := 5) hC dX2_cut_72 (by decide) ?_
          refine v_icmp_ge hC hf dX2_cut_73 (tgt := 80) (by decide) (fun hf => ?_) (fun hf => ?_)
          · refine v_iconst (v := 3) hC dX2_cut_80 (by decide) ?_
            exact v_retI hC hf hE dX2_cut_81
          · refine v_at 76 rfl ?_
            refine v_iconst (v := 1) hC dX2_cut_76 (by decide) ?_
            refine v_goto (tgt := 81) hC dX2_cut_77 (by decide) ?_
            exact v_retI hC hf hE dX2_cut_81
        · refine v_icmp_ne hC hf dX2_cut_61 (tgt := 71) (by decide) (fun hf => ?_) (fun hf => ?_)
          · exact v_sub [(3, .int x1)] [0] rfl (hk5 _ _ _ hf)
          · refine v_at 64 rfl ?_
            refine v_iload hC 1 dX2_cut_64 rfl ?_
            refine v_if_ne hC hf dX2_cut_66 (tgt := 71) (by decide) (fun hf => ?_) (fun hf => ?_)
            · exact v_sub [(3, .int x1)] [0] rfl (hk5 _ _ _ hf)
            · refine v_at 69 rfl ?_
              refine v_iconst (v := 2) hC dX2_cut_69 (by decide) ?_
              exact v_retI hC hf hE dX2_cut_70
      · refine v_if_ne hC hf dX2_cut_49 (tgt := 59) (by decide) (fun hf => ?_) (fun hf => ?_)
        · exact v_sub [(3, .int x1), (4, .int z2)] [3, 0] rfl (hk4 _ _ _ hf)
        · refine v_at 52 rfl ?_
          refine v_iload hC 0 dX2_cut_52 rfl ?_
          refine v_if_ne hC hf dX2_cut_54 (tgt := 59) (by decide) (fun hf => ?_) (fun hf => ?_)
          · exact v_sub [(3, .int x1), (4, .int z2)] [3, 0] rfl (hk4 _ _ _ hf)
          · refine v_at 57 rfl ?_
            refine v_iconst (v := 0) hC dX2_cut_57 (by decide) ?_
            exact v_retI hC hf hE dX2_cut_58
    · refine v_jnE hf (fun z6 kr sr => V K (kr + 0) (sr + 0) σ 36 [(0, .ref a0), (1, .int i1), (3, .int x1)] []) (fun z6 _ _ hf => ?_) (fun k6 hk6 hf => ?_)
      · refine v_iconst (v := 1) hC dX2_cut_36 (by decide) ?_
        refine v_goto (tgt := 41) hC dX2_cut_37 (by decide) ?_
        exact v_sub [(0, .ref a0), (1, .int i1), (3, .int x1)] [0, 1, 2] rfl (hk2 _ _ _ hf)
      · refine v_if_ne hC hf dX2_cut_23 (tgt := 36) (by decide) (fun hf => ?_) (fun hf => ?_)
        · exact v_sub [(0, .ref a0), (1, .int i1), (3, .int x1)] [1, 2, 0] rfl (hk6 _ _ _ hf)
        · refine v_at 26 rfl ?_
          refine v_aload_n hC 1 dX2_cut_26 rfl ?_
          refine v_iload_n hC 2 dX2_cut_27 rfl ?_
          refine v_iconst (v := 1) hC dX2_cut_28 (by decide) ?_
          refine v_isub hC dX2_cut_29 ?_
          refine v_cVP hC (y := y_X2_hasDigitsBelow) (ci := 2) [.int (i1 - 1)] [] (fun r => some (.int r)) (fun r => .int r :: []) hf (fun _ h => m_X2_hasDigitsBelow h) rfl (fun _ => rfl) rfl rfl hR (Nat.le_of_ble_eq_true rfl) (Nat.le_of_ble_eq_true rfl) w_419 w_416 w_417 w_418 w_59 nm_X2_hasDigitsBelow rfl (Nat.le_of_ble_eq_true rfl) dX2_cut_30 (fun x7 hf => ?_)
          refine v_if_eq hC hf dX2_cut_33 (tgt := 40) (by decide) (fun hf => ?_) (fun hf => ?_)
          · refine v_iconst (v := 0) hC dX2_cut_40 (by decide) ?_
            refine v_at 41 rfl ?_
            exact v_sub [(0, .ref a0), (1, .int i1), (3, .int x1)] [1, 2, 0] rfl (hk2 _ _ _ hf)
          · refine v_at 36 rfl ?_
            exact v_sub [(0, .ref a0), (1, .int i1), (3, .int x1)] [1, 2, 0] rfl (hk6 _ _ _ hf)
  · refine v_at 4 rfl ?_
    refine v_iload_n hC 2 dX2_cut_4 rfl ?_
    refine v_if_eq hC hf dX2_cut_5 (tgt := 12) (by decide) (fun hf => ?_) (fun hf => ?_)
    · refine v_iconst (v := 0) hC dX2_cut_12 (by decide) ?_
      exact v_retI hC hf hE dX2_cut_13
    · refine v_at 8 rfl ?_
      refine v_iconst (v := 1) hC dX2_cut_8 (by decide) ?_
      refine v_goto (tgt := 13) hC dX2_cut_9 (by decide) ?_
      exact v_retI hC hf hE dX2_cut_13
def E_X2_addOne_L2 (K : Cq) (a0 : Nat) (y : Int32) (σ : St) (kr sr : Nat) : Prop := V K kr sr σ 34 [(0, .ref a0), (1, .int y)] []
set_option maxHeartbeats 4000000 in
set_option maxRecDepth 100000 in
theorem v_X2_addOne_L2 {K : Cq} {k0 s0 : Nat} (hC : Cx K prog_4_method_16_code "TensMill$Natural") (hR : kR K = rmF 3 69 k0 s0) (hN : kn K = 2) {ko so : Nat} : ∀ (n : Nat) (σ : St) (a0 : Nat) (i1 : Int32) (y : Int32) (σf : St) (kr sr : Nat), f_X2_addOne_L2 n σ a0 i1 = some (y, σf, kr, sr) → E_X2_addOne_L2 K a0 y σf ko so → V K (kr + ko) (sr + so) σ 2 [(0, .ref a0), (1, .int i1)] [] := by
  intro n
  induction n with
  | zero =>
    intro σ a0 i1 y σf kr sr hf hE
    cases hf
  | succ n ih =>
    intro σ a0 i1 y σf kr sr hf hE
    replace hf : b_X2_addOne_L2 (f_X2_addOne_L2 n) σ a0 i1 = some (y, σf, kr, sr) := hf
    unfold b_X2_addOne_L2 at hf
    refine v_iload_n hC 1 dX2_addOne_2 rfl ?_
    refine v_aload_n hC 0 dX2_addOne_3 rfl ?_
    refine v_getI hC (host := "") hf fd_2_1 w_86 dX2_addOne_4 (fun x1 hf => ?_)
    refine v_icmp_ge hC hf dX2_addOne_7 (tgt := 34) (by decide) (fun hf => ?_) (fun hf => ?_)
    · obtain ⟨hX, e1, e2⟩ := v_exE (E := E_X2_addOne_L2 K a0) hf hE
      rw [e1, e2]
      exact v_sub [(0, .ref a0), (1, .int i1)] [0, 1] rfl hX
    · refine v_at 10 rfl ?_
      refine v_aload_n hC 0 dX2_addOne_10 rfl ?_
      refine v_getR hC (host := "") hf fd_2_0 w_85 dX2_addOne_11 (fun r2 hf => ?_)
      refine v_iload_n hC 1 dX2_addOne_14 rfl ?_
      refine v_ldI hC hf dX2_addOne_15 (fun x3 hf => ?_)
      refine v_ldc hC dX2_addOne_16 w_435 ?_
      refine v_icmp_ne hC hf dX2_addOne_18 (tgt := 34) (by decide) (fun hf => ?_) (fun hf => ?_)
      · obtain ⟨hX, e1, e2⟩ := v_exE (E := E_X2_addOne_L2 K a0) hf hE
        rw [e1, e2]
        exact v_sub [(0, .ref a0), (1, .int i1)] [0, 1] rfl hX
      · refine v_at 21 rfl ?_
        refine v_aload_n hC 0 dX2_addOne_21 rfl ?_
        refine v_getR hC (host := "") hf fd_2_0 w_85 dX2_addOne_22 (fun r4 hf => ?_)
        refine v_iload_n hC 1 dX2_addOne_25 rfl ?_
        refine v_iconst (v := 0) hC dX2_addOne_26 (by decide) ?_
        refine v_stI hC hf dX2_addOne_27 (fun σ5 hf => ?_)
        refine v_incL hC hf 1 (fun x6 => [(1, .int x6), (0, .ref a0)]) dX2_addOne_28 rfl (by decide) hN (Nat.le_of_ble_eq_true rfl) (fun _ => rfl) (fun x6 hf => ?_)
        refine v_goto (tgt := 2) hC dX2_addOne_31 (by decide) ?_
        exact v_sub [(0, .ref a0), (1, .int x6)] [1, 0] rfl (ih _ _ _ _ _ _ _ hf hE)
set_option maxHeartbeats 4000000 in
set_option maxRecDepth 100000 in
theorem m_X2_addOne {G : Gm} {l : Launch} {σ : St} {a0 : Nat} {r : Unit} {σf : St} {k s : Nat} (hf : f_X2_addOne σ a0 = some (r, σf, k, s)) : (∃ fs : List Value, σ.1 a0 = some (.inr (.inl (2, fs)))) ∧ Ct G l y_X2_addOne prog_4_method_16_code 2 none 3 69 [.ref a0] σ none σf k s := by
  unfold f_X2_addOne at hf
  obtain ⟨hob, hf⟩ := ob_some hf
  refine ⟨hob, Ct.ofV pl_X2_addOne (Nat.le_of_ble_eq_true rfl) ?_⟩
  intro K hR hN hnm hC hE
  show V K (k + 0) (s + 0) σ 0 [(0, .ref a0)] []
  refine v_iconst (v := 0) hC dX2_addOne_0 (by decide) ?_
  refine v_istore_n hC [(1, .int 0), (0, .ref a0)] dX2_addOne_1 rfl hN (Nat.le_of_ble_eq_true rfl) rfl ?_
  refine v_at 2 rfl ?_
  refine v_sub [(0, .ref a0), (1, .int 0)] [1, 0] rfl ?_
  refine v_lpE hf (E_X2_addOne_L2 K a0) (fun _ _ _ _ _ _ h hE => v_X2_addOne_L2 hC hR hN _ _ _ _ _ _ _ _ h hE) (fun y7 σ8 _ _ hf => ?_)
  show V K _ _ σ8 34 [(0, .ref a0), (1, .int y7)] []
  refine v_iload_n hC 1 dX2_addOne_34 rfl ?_
  refine v_aload_n hC 0 dX2_addOne_35 rfl ?_
  refine v_getI hC (host := "") hf fd_2_1 w_86 dX2_addOne_36 (fun x9 hf => ?_)
  refine v_icmp_ge hC hf dX2_addOne_39 (tgt := 53) (by decide) (fun hf => ?_) (fun hf => ?_)
  · refine v_aload_n hC 0 dX2_addOne_53 rfl ?_
    refine v_aload_n hC 0 dX2_addOne_54 rfl ?_
    refine v_getI hC (host := "") hf fd_2_1 w_86 dX2_addOne_55 (fun x10 hf => ?_)
    refine v_iconst (v := 1) hC dX2_addOne_58 (by decide) ?_
    refine v_iadd hC dX2_addOne_59 ?_
    refine v_cVE hC (y := y_X2_makeRoom) (ci := 2) [.int (x10 + 1)] [] (fun _ => none) (fun _ => []) hf (fun _ _ _ _ h => m_X2_makeRoom h) rfl (fun _ => rfl) rfl rfl hR (Nat.le_of_ble_eq_true rfl) (Nat.le_of_ble_eq_true rfl) w_249 w_246 w_248 w_1 w_59 nm_X2_makeRoom rfl (Nat.le_of_ble_eq_true rfl) dX2_addOne_60 (fun _ σ11 _ _ hf => ?_)
    refine v_aload_n hC 0 dX2_addOne_63 rfl ?_
    refine v_getR hC (host := "") hf fd_2_0 w_85 dX2_addOne_64 (fun r12 hf => ?_)
    refine v_at 67 rfl ?_
    refine v_aload_n hC 0 dX2_addOne_67 rfl ?_
    refine v_getI hC (host := "") hf fd_2_1 w_86 dX2_addOne_68 (fun x13 hf => ?_)
    refine v_iconst (v := 1) hC dX2_addOne_71 (by decide) ?_
    refine v_stI hC hf dX2_addOne_72 (fun σ14 hf => ?_)
    refine v_aload_n hC 0 dX2_addOne_73 rfl ?_
    refine v_dup hC dX2_addOne_74 rfl ?_
    refine v_getI hC (host := "") hf fd_2_1 w_86 dX2_addOne_75 (fun x15 hf => ?_)
    refine v_iconst (v := 1) hC dX2_addOne_78 (by decide) ?_
    refine v_at 79 rfl ?_
    refine v_iadd hC dX2_addOne_79 ?_
    refine v_put hC hf fd_2_1 w_86 rfl rfl dX2_addOne_80 (fun σ16 hf => ?_)
    exact v_retV hC hf hE dX2_addOne_83
  · refine v_at 42 rfl ?_
    refine v_aload_n hC 0 dX2_addOne_42 rfl ?_
    refine v_getR hC (host := "") hf fd_2_0 w_85 dX2_addOne_43 (fun r17 hf => ?_)
    refine v_iload_n hC 1 dX2_addOne_46 rfl ?_
    refine v_dup2 hC dX2_addOne_47 rfl rfl ?_
    refine v_ldI hC hf dX2_addOne_48 (fun x18 hf => ?_)
    refine v_iconst (v := 1) hC dX2_addOne_49 (by decide) ?_
    refine v_iadd hC dX2_addOne_50 ?_
    refine v_stI hC hf dX2_addOne_51 (fun σ19 hf => ?_)
    refine v_at 52 rfl ?_
    exact v_retV hC hf hE dX2_addOne_52
