/-! ===== texts: type of the reference ===== -/
def cdB (u : Int64) (k : Nat) : Nat := u.toBitVec.toNat / 2 ^ (8 * k) % 256
theorem cdB_lt (u : Int64) (k : Nat) : cdB u k < 256 := Nat.mod_lt _ (by decide)
theorem bv_low (x : BitVec 64) (n : Nat) (h : n ≤ 56) : (x.sshiftRight n &&& 255#64).toNat = x.toNat / 2 ^ n % 256 := by
  have e1 : (x.sshiftRight n &&& 255#64) = (x >>> n &&& 255#64) := by
    apply BitVec.eq_of_getLsbD_eq
    intro i hi
    rw [BitVec.getLsbD_and, BitVec.getLsbD_and, BitVec.getLsbD_sshiftRight, BitVec.getLsbD_ushiftRight]
    by_cases h8 : i < 8
    · have : n + i < 64 := by omega
      have h2 : ¬ 64 ≤ i := by omega
      simp [this, h2]
    · have : (255#64).getLsbD i = false := by
        rw [show (255#64) = BitVec.ofNat 64 (2 ^ 8 - 1) from rfl, BitVec.getLsbD_ofNat, Nat.testBit_two_pow_sub_one]
        simp [h8]
      rw [this, Bool.and_false, Bool.and_false]
  rw [e1, BitVec.toNat_and, BitVec.toNat_ushiftRight, Nat.shiftRight_eq_div_pow]
  exact Nat.and_two_pow_sub_one_eq_mod _ 8
theorem cd_m {u : Int64} {k : Nat} (hk : k < 8) : (u >>> ((8 * nI k : Int32).toInt64 &&& 63)) &&& 255 = lN (cdB u k) := by
  have main : ∀ (s : Int64) (n : Nat), n ≤ 56 → s.toBitVec = BitVec.ofNat 64 n → n = 8 * k → (u >>> s) &&& 255 = lN (cdB u k) := by
    intro s n hn hs hnk
    apply Int64.toBitVec_inj.mp
    apply BitVec.eq_of_toNat_eq
    rw [Int64.toBitVec_and, Int64.toBitVec_shiftRight, hs]
    have e : (BitVec.ofNat 64 n).smod 64 = BitVec.ofNat 64 n := by
      rw [BitVec.smod_eq]
      have m1 : (BitVec.ofNat 64 n).msb = false := by
        rw [BitVec.msb_eq_decide]
        simp
        omega
      have m2 : (64 : BitVec 64).msb = false := by decide
      rw [m1, m2]
      show (BitVec.ofNat 64 n).umod 64 = _
      apply BitVec.eq_of_toNat_eq
      show (BitVec.ofNat 64 n % 64).toNat = _
      rw [BitVec.toNat_umod, BitVec.toNat_ofNat]
      show n % 2 ^ 64 % 64 = n % 2 ^ 64
      omega
    rw [e]
    show ((u.toBitVec.sshiftRight (BitVec.ofNat 64 n).toNat) &&& 255#64).toNat = _
    rw [BitVec.toNat_ofNat, Nat.mod_eq_of_lt (show n < 2 ^ 64 by omega), bv_low _ _ hn]
    have hc := cdB_lt u k
    show _ = (lN (cdB u k)).toBitVec.toNat
    have : (lN (cdB u k)).toBitVec = BitVec.ofNat 64 (cdB u k) := rfl
    rw [this, BitVec.toNat_ofNat, Nat.mod_eq_of_lt (show cdB u k < 2 ^ 64 by omega)]
    unfold cdB
    rw [hnk]
  have hk' : k = 0 ∨ k = 1 ∨ k = 2 ∨ k = 3 ∨ k = 4 ∨ k = 5 ∨ k = 6 ∨ k = 7 := by omega
  rcases hk' with rfl | rfl | rfl | rfl | rfl | rfl | rfl | rfl
  · exact main _ 0 (by decide) rfl rfl
  · exact main _ 8 (by decide) rfl rfl
  · exact main _ 16 (by decide) rfl rfl
  · exact main _ 24 (by decide) rfl rfl
  · exact main _ 32 (by decide) rfl rfl
  · exact main _ 40 (by decide) rfl rfl
  · exact main _ 48 (by decide) rfl rfl
  · exact main _ 56 (by decide) rfl rfl
theorem cd_c {u : Int64} {k : Nat} (hk : k < 8) : ((((u : Int64).toUInt64 >>> ((nI (8 * k) : Int32).toInt64.toUInt64 &&& Int64.toUInt64 63)).toInt64 : Int64).toInt32) &&& 255 = nI (cdB u k) := by
  have main : ∀ (s : UInt64) (n : Nat), n ≤ 56 → s.toNat = n → n = 8 * k → ((((u : Int64).toUInt64 >>> s).toInt64 : Int64).toInt32) &&& 255 = nI (cdB u k) := by
    intro s n hn hs hnk
    apply Int32.toBitVec_inj.mp
    apply BitVec.eq_of_toNat_eq
    rw [Int32.toBitVec_and]
    have e0 : ((((u : Int64).toUInt64 >>> s).toInt64 : Int64).toInt32).toBitVec = ((u.toUInt64 >>> s).toBitVec).setWidth 32 := BitVec.signExtend_eq_setWidth_of_le _ (by decide)
    have e1 : (u.toUInt64 >>> s).toBitVec.toNat = u.toBitVec.toNat / 2 ^ n := by
      show (u.toUInt64 >>> s).toNat = _
      rw [UInt64.toNat_shiftRight, hs, Nat.mod_eq_of_lt (show n < 64 by omega), Nat.shiftRight_eq_div_pow]
      rfl
    rw [e0]
    show (((u.toUInt64 >>> s).toBitVec).setWidth 32 &&& 255#32).toNat = _
    rw [BitVec.toNat_and, BitVec.toNat_setWidth, e1]
    have e2 : (255#32).toNat = 2 ^ 8 - 1 := rfl
    rw [e2, Nat.and_two_pow_sub_one_eq_mod, Nat.mod_mod_of_dvd _ (by decide : 2 ^ 8 ∣ 2 ^ 32)]
    have hc := cdB_lt u k
    show _ = (nI (cdB u k)).toBitVec.toNat
    have : (nI (cdB u k)).toBitVec = BitVec.ofNat 32 (cdB u k) := rfl
    rw [this, BitVec.toNat_ofNat, Nat.mod_eq_of_lt (show cdB u k < 2 ^ 32 by omega)]
    unfold cdB
    rw [hnk]
  have hk' : k = 0 ∨ k = 1 ∨ k = 2 ∨ k = 3 ∨ k = 4 ∨ k = 5 ∨ k = 6 ∨ k = 7 := by omega
  rcases hk' with rfl | rfl | rfl | rfl | rfl | rfl | rfl | rfl
  · exact main _ 0 (by decide) rfl rfl
  · exact main _ 8 (by decide) rfl rfl
  · exact main _ 16 (by decide) rfl rfl
  · exact main _ 24 (by decide) rfl rfl
  · exact main _ 32 (by decide) rfl rfl
  · exact main _ 40 (by decide) rfl rfl
  · exact main _ 48 (by decide) rfl rfl
  · exact main _ 56 (by decide) rfl rfl
/-- typed: the codes and how many -/
abbrev TS : Type := (Nat → Nat) × Nat
def apT (T : TS) (c : Nat) : TS := if c = 0 then T else (fun j => if j = T.2 then c else T.1 j, T.2 + 1)
def tyF (u : Int64) : Nat → TS → TS
  | 0, T => T
  | k + 1, T => tyF u k (apT T (cdB u k))
def cnF (u : Int64) : Nat → Nat
  | 0 => 0
  | k + 1 => cnF u k + (if cdB u k = 0 then 0 else 1)
def gdF (u : Int64) : Nat → Bool
  | 0 => true
  | k + 1 => gdF u k && decide (cdB u k ≤ 126)
def sType (T : TS) (u : Int64) : Int32 × TS := if gdF u 8 = true ∧ T.2 + cnF u 8 ≤ 6000 then (1, tyF u 8 T) else (0, T)
theorem gd_le {u : Int64} : ∀ {n : Nat}, gdF u n = true → ∀ k, k < n → cdB u k ≤ 126
  | 0, _, k, hk => by omega
  | n + 1, h, k, hk => by
    unfold gdF at h
    rw [Bool.and_eq_true] at h
    by_cases he : k = n
    · subst he; exact of_decide_eq_true h.2
    · exact gd_le h.1 k (by omega)
theorem cn_le {u : Int64} : ∀ n : Nat, cnF u n ≤ n
  | 0 => Nat.le_refl _
  | n + 1 => by
    have := cn_le (u := u) n
    unfold cnF
    split <;> omega
/-- the reference's texts -/
def TX (X : Nat → Nat → Int32) (T : TS) : Prop := X 0 1 = nI T.2 ∧ T.2 ≤ 6000 ∧ ∀ j, j < T.2 → X 7 j = nI (T.1 j) ∧ 0 < T.1 j ∧ T.1 j ≤ 126
def WX (X : Nat → Nat → Int32) (W : TS) : Prop := X 0 2 = nI W.2 ∧ W.2 ≤ 6000 ∧ ∀ j, j < W.2 → X 8 j = nI (W.1 j) ∧ W.1 j ≤ 126
section MTy
variable {σ : St} {o : Nat} {X X' : Nat → Nat → Int32} {A : AS} {T W : TS}
theorem TX.kt (h : TX X T) (k : Kt X X') : TX X' T := by
  unfold TX
  rw [k.1, k.2.2.1]; exact h
theorem WX.kt (h : WX X W) (k : Kt X X') : WX X' W := by
  unfold WX
  rw [k.2.1, k.2.2.2]; exact h
theorem t_mty1 {u : Int64} : ∀ (f k c : Nat) (b : Bool), 8 - k < f → k ≤ 8 → c = cnF u k → b = gdF u k → f_X6_type_L8 f (mst σ o X) o u (nI c) (bI b) (nI k) = some (nI (cnF u 8), bI (gdF u 8)) := by
  intro f
  induction f with
  | zero => intro k c b h; omega
  | succ f ih =>
    intro k c b hf hk hc hb
    subst hc hb
    show b_X6_type_L8 (f_X6_type_L8 f) _ o _ _ _ _ = _
    unfold b_X6_type_L8
    by_cases he : k = 8
    · subst he
      exact q_t (by decide) rfl
    · refine q_f (nI_ge (b := 8) (by omega) (by decide)) ?_
      refine q_le (cd_m (by omega)) (q_jn ?_)
      have hc := cdB_lt u k
      have nxt := ih (k + 1) (cnF u (k + 1)) (gdF u (k + 1)) (by omega) (by omega) rfl rfl
      have hcn := cn_le (u := u) k
      have body : ∀ z : Int32, z = nI (if cdB u k = 0 then 0 else 1) → (lt (nI (cnF u k) + z) fun x3 => jn (fun (z4 : Int32) => (lt (nI k + 1) fun x5 => f_X6_type_L8 f (mst σ o X) o u x3 z4 x5)) fun k4 => jn (fun (z6 : Unit) => (k4 0)) fun k6 => if bI (gdF u k) = 0 then (k6 ()) else if 127 ≤ lN (cdB u k) then (k6 ()) else k4 1) = some (nI (cnF u 8), bI (gdF u 8)) := by
        intro z hz
        subst hz
        refine q_le (y := nI (cnF u (k + 1))) (by rw [nI_add]; rfl) (q_jn (q_jn ?_))
        have eg : gdF u (k + 1) = (gdF u k && decide (cdB u k ≤ 126)) := rfl
        cases hg : gdF u k with
        | false =>
          refine q_t rfl (q_le (nI_1 k) ?_)
          rw [eg, hg, Bool.false_and] at nxt
          exact nxt
        | true =>
          refine q_f (by decide) ?_
          rw [eg, hg, Bool.true_and] at nxt
          by_cases h126 : cdB u k ≤ 126
          · refine q_f (fun w => by
              have := (lZ_le (a := 127) (b := cdB u k) (by omega) (by omega) (by omega) (by omega)).mp w
              omega) (q_le (nI_1 k) ?_)
            rw [decide_eq_true h126] at nxt
            exact nxt
          · refine q_t ((lZ_le (a := 127) (b := cdB u k) (by omega) (by omega) (by omega) (by omega)).mpr (by omega)) (q_le (nI_1 k) ?_)
            rw [decide_eq_false h126] at nxt
            exact nxt
      by_cases h0 : cdB u k = 0
      · refine q_t (by rw [h0]; rfl) ?_
        exact body 0 (by rw [if_pos h0]; rfl)
      · refine q_f (fun w => h0 (by
          have := (lZ_eq (a := cdB u k) (b := 0) (by omega) (by omega) (by omega) (by omega)).mp w
          omega)) ?_
        exact body 1 (by rw [if_neg h0]; rfl)
theorem m_i7' (h : TX X T) : gI (mst σ o X) 6 o 7 = some (nI T.2) := by rw [m_i7, h.1]
theorem t_mty2 {u : Int64} (hg : gdF u 8 = true) : ∀ (f k : Nat) (X : Nat → Nat → Int32) (T : TS), k < f → k ≤ 8 → TX X T → RG X A → WX X W → T.2 + cnF u k ≤ 6000 → ∃ X', f_X6_type_L93 f (mst σ o X) o u (nI k + (-1)) = some ((), mst σ o X', 0, 0) ∧ TX X' (tyF u k T) ∧ RG X' A ∧ WX X' W := by
  intro f
  induction f with
  | zero => intro k X T h; omega
  | succ f ih =>
    intro k X T hf hk hT hR hW hle
    show ∃ X', b_X6_type_L93 (f_X6_type_L93 f) _ o _ _ = _ ∧ _
    unfold b_X6_type_L93
    rcases Nat.eq_zero_or_pos k with h0 | h0
    · subst h0
      exact ⟨X, q_t (by decide) rfl, hT, hR, hW⟩
    · obtain ⟨j, rfl⟩ : ∃ j, k = j + 1 := ⟨k - 1, by omega⟩
      have ej : nI (j + 1) + (-1) = nI j := by rw [← Int32.sub_eq_add_neg]; exact nI_pred j
      rw [ej]
      have hc := cdB_lt u j
      have hc6 := gd_le hg j (by omega)
      have ec : (((u >>> ((8 * nI j : Int32).toInt64 &&& 63)) &&& 255 : Int64).toInt32) = nI (cdB u j) := by rw [cd_m (by omega), lZ_n, lZ_i, iZ_n]
      unfold cnF at hle
      by_cases hz : cdB u j = 0
      · rw [if_pos hz] at hle
        obtain ⟨X', a1, a2, a3, a4⟩ := ih j X T (by omega) (by omega) hT hR hW (by omega)
        refine ⟨X', ?_, by unfold tyF apT; rw [if_pos hz]; exact a2, a3, a4⟩
        refine q_f (nI_pos (by omega)) ?_
        refine q_le ec (q_jn ?_)
        refine q_t (by rw [hz]; rfl) ?_
        exact q_lt a1
      · rw [if_neg hz] at hle
        obtain ⟨Y, hY⟩ : ∃ Y, ups (ups X 7 (upd (X 7) T.2 (nI (cdB u j)))) 0 (upd (X 0) 1 (nI (T.2 + 1))) = Y := ⟨_, rfl⟩
        have yk : ∀ k, k ≠ 0 → k ≠ 7 → Y k = X k := fun k q1 q2 => by rw [← hY, ups_n q1, ups_n q2]
        have y0 : ∀ i, i ≠ 1 → Y 0 i = X 0 i := fun i q => by rw [← hY, ups_s, pk_un q]
        have hT' : TX Y (apT T (cdB u j)) := by
          unfold apT
          rw [if_neg hz]
          refine ⟨by rw [← hY, ups_s, pk_us], by show T.2 + 1 ≤ 6000; omega, fun i hi => ?_⟩
          show Y 7 i = nI (if i = T.2 then cdB u j else T.1 i) ∧ 0 < (if i = T.2 then cdB u j else T.1 i) ∧ (if i = T.2 then cdB u j else T.1 i) ≤ 126
          have hi' : i < T.2 + 1 := hi
          rw [← hY, ups_n (by decide), ups_s]
          by_cases he : i = T.2
          · rw [if_pos he, he, pk_us]; exact ⟨rfl, by omega, hc6⟩
          · rw [if_neg he, pk_un he]; exact hT.2.2 i (by omega)
        have hR' : RG Y A := by
          refine ⟨hR.1, fun i hi => ?_⟩
          rw [yk 1 (by decide) (by decide), yk 2 (by decide) (by decide), yk 3 (by decide) (by decide), yk 4 (by decide) (by decide)]
          exact hR.2 i hi
        have hW' : WX Y W := by
          unfold WX
          rw [yk 8 (by decide) (by decide), y0 2 (by decide)]; exact hW
        obtain ⟨X', a1, a2, a3, a4⟩ := ih j Y _ (by omega) (by omega) hT' hR' hW' (by unfold apT; rw [if_neg hz]; show T.2 + 1 + cnF u j ≤ 6000; omega)
        refine ⟨X', ?_, a2, a3, a4⟩
        refine q_f (nI_pos (by omega)) ?_
        refine q_le ec (q_jn ?_)
        refine q_f (nI_ne0 (by omega) (by omega)) ?_
        refine q_b1 m_g8 (q_b1 (m_i7' hT) ?_)
        refine q_b1 (stM (k := 7) (i := T.2) (by decide) (by decide) rfl (by show T.2 < 6000; omega)) ?_
        have e7 : gI (mst σ o (ups X 7 (upd (X 7) T.2 (nI (cdB u j))))) 6 o 7 = some (nI T.2) := by rw [m_i7, ups_n (by decide), hT.1]
        refine q_b1 e7 (q_b1 m_p7 ?_)
        rw [nI_1, ups_n (show (0 : Nat) ≠ 7 by decide), hY]
        exact q_lt a1
/-- a call on the texts -/
def Mt (σ : St) (o : Nat) (e : Rs Int32) (v : Int32) (A : AS) (T W : TS) : Prop := ∃ X', e = some (v, mst σ o X', 0, 0) ∧ RG X' A ∧ TX X' T ∧ WX X' W
theorem t_mtype {u : Int64} (hR : RG X A) (hT : TX X T) (hW : WX X W) : Mt σ o (f_X6_type (mst σ o X) o u) (sType T u).1 A (sType T u).2 W := by
  have hF := FU_ge
  unfold f_X6_type sType
  have e1 := t_mty1 (σ := σ) (o := o) (X := X) (u := u) FU 0 0 true (by omega) (by omega) rfl rfl
  have hcn := cn_le (u := u) 8
  have hT2 := hT.2.1
  by_cases hg : gdF u 8 = true
  · by_cases hle : T.2 + cnF u 8 ≤ 6000
    · rw [if_pos ⟨hg, hle⟩]
      obtain ⟨X', a1, a2, a3, a4⟩ := t_mty2 (σ := σ) (o := o) hg FU 8 X T (by omega) (by omega) hT hR hW hle
      refine ⟨X', ?_, a3, a2, a4⟩
      refine q_ob m_o (q_b1 e1 ?_)
      rw [hg]
      refine q_f (show ¬ bI true = 0 by decide) (q_b1 (m_i7' hT) ?_)
      refine q_t (by show nI T.2 + nI (cnF u 8) ≤ 6000; rw [nI_add]; exact nI_le (b := 6000) hle (by decide)) ?_
      exact q_bd0 a1 rfl
    · rw [if_neg (fun w => hle w.2)]
      refine ⟨X, ?_, hR, hT, hW⟩
      refine q_ob m_o (q_b1 e1 ?_)
      rw [hg]
      refine q_f (show ¬ bI true = 0 by decide) (q_b1 (m_i7' hT) ?_)
      exact q_f (by show ¬ nI T.2 + nI (cnF u 8) ≤ 6000; rw [nI_add]; exact nI_ge (a := 6000) (by omega) (by omega)) rfl
  · rw [if_neg (fun w => hg w.1)]
    refine ⟨X, ?_, hR, hT, hW⟩
    refine q_ob m_o (q_b1 e1 ?_)
    rw [Bool.eq_false_iff.mpr hg]
    exact q_t rfl rfl
end MTy
