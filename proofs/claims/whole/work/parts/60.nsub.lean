def up1 (G : Nat → Nat) (p d : Nat) : Nat → Nat := fun j => if j = p then d else G j
theorem vl_upd {B : Nat} {G : Nat → Nat} {p d : Nat} : ∀ N : Nat, p < N → vl B (up1 G p d) N + G p * B ^ p = vl B G N + d * B ^ p
  | 0, h => by omega
  | N + 1, h => by
    show vl B (up1 G p d) N + up1 G p d N * B ^ N + G p * B ^ p = vl B G N + G N * B ^ N + d * B ^ p
    by_cases hp : p = N
    · subst hp
      have e1 : vl B (up1 G p d) p = vl B G p := vl_congr (fun j hj => if_neg (by omega))
      have e2 : up1 G p d p = d := if_pos rfl
      rw [e1, e2]
      omega
    · have ih := vl_upd (B := B) (G := G) (p := p) (d := d) N (by omega)
      have e2 : up1 G p d N = G N := if_neg (by omega)
      rw [e2]
      omega
theorem cells_upd {F : Nat → Int32} {G : Nat → Nat} {N p d : Nat} (h : ∀ j, j < N → F j = nI (G j) ∧ G j < BS) (hd : d < BS) : ∀ j, j < N → upd F p (nI d) j = nI (up1 G p d j) ∧ up1 G p d j < BS := by
  intro j hj
  unfold up1
  by_cases hp : j = p
  · subst hp
    rw [pk_us, if_pos rfl]; exact ⟨rfl, hd⟩
  · rw [pk_un hp, if_neg hp]; exact h j hj
theorem i32_sac (a b c : Int32) : a - b + c = a + c - b := by
  rw [Int32.sub_eq_add_neg, Int32.add_assoc, Int32.add_comm (-b) c, ← Int32.add_assoc, ← Int32.sub_eq_add_neg]
theorem i32_ssa (a b c : Int32) : a - b - c = a - (b + c) := by
  rw [Int32.sub_eq_add_neg, Int32.sub_eq_add_neg, Int32.sub_eq_add_neg, Int32.neg_add, Int32.add_assoc, Int32.sub_eq_add_neg (-b) c]
/-- a difference that may fall below 0: its sign, and itself with BS added -/
theorem dif_ge {a b : Nat} (h : b ≤ a) : nI a - nI b = nI (a - b) := pk_sub h
theorem dif_lt {a b : Nat} (h : a < b) (hb : b < 2 ^ 30) : ¬ (0 : Int32) ≤ nI a - nI b := Int32.not_le.mpr (pk_sneg hb h)
theorem dif_fix {a b : Nat} (h : b ≤ a + BS) : nI a - nI b + 1000000000 = nI (a + BS - b) := by
  rw [show (1000000000 : Int32) = nI BS from rfl, i32_sac, nI_add, pk_sub h]
section SB
variable {σ : St} {a b L Lb c cb x y n nb : Nat} {g gb : Nat → Nat}
theorem t_sub_loop {f0 fb : Nat → Int32} (ha : σ.1 a = some (OO L n)) (hL : σ.1 L = some (AA c f0)) (hb : σ.1 b = some (OO Lb nb)) (hLb : σ.1 Lb = some (AA cb fb)) (n1 : L ≠ Lb) (h4 : n ≤ c) (h5 : c ≤ 4000) (h6 : ∀ j, j < n → g j < BS) (b3 : ∀ j, j < nb → fb j = nI (gb j)) (b4 : nb ≤ cb) (b5 : cb ≤ 4000) (b6 : ∀ j, j < nb → gb j < BS) (hnb : nb ≤ n) (hle : vl BS gb nb ≤ vl BS g n) :
    ∀ (k i v : Nat) (F : Nat → Int32) (G : Nat → Nat), n - i < k → i ≤ n → v ≤ 1 → (∀ j, j < n → F j = nI (G j) ∧ G j < BS) → (∀ j, i ≤ j → j < n → G j = g j) → vl BS G n + vl BS (pad nb gb) i = vl BS g n + v * BS ^ i →
      ∃ F' G', f_X2_subtract_L4 k (stH σ L (AA c F)) a b (nI v) (nI i) = some ((), stH σ L (AA c F'), 0, 0) ∧ (∀ j, j < n → F' j = nI (G' j) ∧ G' j < BS) ∧ vl BS G' n + vl BS gb nb = vl BS g n := by
  intro k
  induction k with
  | zero => intro i v F G h; omega
  | succ k ih =>
    intro i v F G hk hi hv g1 g0 g2
    have eB : BS = 1000000000 := rfl
    have qa : (stH σ L (AA c F)).1 a = some (OO L n) := by rw [stH_n (ne_OA hL ha)]; exact ha
    have qb : (stH σ L (AA c F)).1 b = some (OO Lb nb) := by rw [stH_n (ne_OA hL hb)]; exact hb
    have qLb : (stH σ L (AA c F)).1 Lb = some (AA cb fb) := by rw [stH_n n1.symm]; exact hLb
    by_cases hin : i = n
    · subst hin
      refine ⟨F, G, ?_, g1, ?_⟩
      · show b_X2_subtract_L4 (f_X2_subtract_L4 k) _ a b _ _ = _
        unfold b_X2_subtract_L4
        refine q_b1 (gI_eq qa rfl) ?_
        exact q_t (nI_le (Nat.le_refl _) (by omega)) rfl
      · rw [pad_vl hnb] at g2
        have h1 := vl_lt (B := BS) (fun j hj => (g1 j hj).2)
        rcases Nat.eq_zero_or_pos v with w | w
        · subst w; omega
        · have : v = 1 := by omega
          subst this
          omega
    · have hlt : i < n := by omega
      have pb := pad_lt b6 i
      have hgi : G i < BS := (g1 i hlt).2
      by_cases hstop : nb ≤ i ∧ v = 0
      · obtain ⟨s1, s2⟩ := hstop
        subst s2
        refine ⟨F, G, ?_, g1, ?_⟩
        · show b_X2_subtract_L4 (f_X2_subtract_L4 k) _ a b _ _ = _
          unfold b_X2_subtract_L4
          refine q_b1 (gI_eq qa rfl) ?_
          refine q_f (nI_ge hlt (by omega)) ?_
          refine q_b1 (gI_eq qb rfl) ?_
          unfold jn
          refine q_f (nI_nlt s1 (by omega)) ?_
          exact q_t rfl rfl
        · rw [pad_vl s1] at g2
          omega
      · -- one limb
        have body : ∀ w u : Nat, w ≤ 1 → u < BS → u + v + pad nb gb i = G i + w * BS → ∃ F' G', f_X2_subtract_L4 k (stH σ L (AA c (upd F i (nI u)))) a b (nI w) (nI (i + 1)) = some ((), stH σ L (AA c F'), 0, 0) ∧ (∀ j, j < n → F' j = nI (G' j) ∧ G' j < BS) ∧ vl BS G' n + vl BS gb nb = vl BS g n := by
          intro w u hw hu he
          refine ih (i + 1) w (upd F i (nI u)) (up1 G i u) (by omega) (by omega) hw (cells_upd g1 hu) (fun j q1 q2 => ?_) ?_
          · unfold up1; rw [if_neg (by omega)]; exact g0 j (by omega) q2
          · have e1 := vl_upd (B := BS) (G := G) (p := i) (d := u) n hlt
            show vl BS (up1 G i u) n + (vl BS (pad nb gb) i + pad nb gb i * BS ^ i) = vl BS g n + w * BS ^ (i + 1)
            have e2 : (u + v + pad nb gb i) * BS ^ i = (G i + w * BS) * BS ^ i := by rw [he]
            rw [Nat.add_mul, Nat.add_mul, Nat.add_mul, Nat.mul_assoc w, ← Nat.pow_succ'] at e2
            have e3 : BS ^ (i.succ) = BS ^ (i + 1) := rfl
            rw [e3] at e2
            omega
        have hx8 : nI (G i) - nI v - nI (pad nb gb i) = nI (G i) - nI (v + pad nb gb i) := by rw [i32_ssa, nI_add]
        have pre : ∀ (X : Rs Unit), (∀ kk : Unit → Rs Unit, kk () = X → (if nI i < nI nb then kk () else if nI v = 0 then some ((), stH σ L (AA c F), 0, 0) else kk ()) = X) := by
          intro X kk hkk
          by_cases hb2 : i < nb
          · exact q_t (nI_lt hb2 (by omega)) hkk
          · refine q_f (nI_nlt (by omega) (by omega)) ?_
            exact q_f (nI_ne0 (Nat.pos_of_ne_zero fun z => hstop ⟨by omega, z⟩) (by omega)) hkk
        by_cases hge : v + pad nb gb i ≤ G i
        · obtain ⟨F', G', s1, s2, s3⟩ := body 0 (G i - (v + pad nb gb i)) (by omega) (by omega) (by omega)
          refine ⟨F', G', ?_, s2, s3⟩
          show b_X2_subtract_L4 (f_X2_subtract_L4 k) _ a b _ _ = _
          unfold b_X2_subtract_L4
          refine q_b1 (gI_eq qa rfl) ?_
          refine q_f (nI_ge hlt (by omega)) ?_
          refine q_b1 (gI_eq qb rfl) ?_
          refine q_j1 () (fun kk => pre _ kk rfl) ?_
          refine q_b1 (gR_eq qa rfl) ?_
          refine q_b1 (ldI_eq (i := i) stH_s rfl (by omega) (by omega)) ?_
          refine q_b1 (gI_eq qb rfl) ?_
          refine q_j1 (nI (pad nb gb i)) (fun kk => ?_) ?_
          · by_cases hb2 : i < nb
            · refine q_f (nI_ge hb2 (by omega)) ?_
              refine q_b1 (gR_eq qb rfl) ?_
              refine q_b1 (ldI_eq qLb rfl (by omega) (by omega)) ?_
              rw [b3 i hb2]; unfold pad; rw [if_pos hb2]
            · refine q_t (nI_le (by omega) (by omega)) ?_
              unfold pad; rw [if_neg hb2]; rfl
          refine q_le (y := nI (G i - (v + pad nb gb i))) (by rw [(g1 i hlt).1, hx8, pk_sub hge]) ?_
          refine q_j1 (nI 0) (fun kk => q_t (nI_pos' (by omega)) rfl) ?_
          refine q_b1 (gR_eq qa rfl) ?_
          refine q_j1 (nI (G i - (v + pad nb gb i))) (fun kk => q_t rfl rfl) ?_
          refine q_b1 (stI_eq (i := i) stH_s rfl (by omega) (by omega)) ?_
          rw [stH_stH]
          exact q_le (nI_1 i) s1
        · obtain ⟨F', G', s1, s2, s3⟩ := body 1 (G i + BS - (v + pad nb gb i)) (by omega) (by omega) (by omega)
          refine ⟨F', G', ?_, s2, s3⟩
          show b_X2_subtract_L4 (f_X2_subtract_L4 k) _ a b _ _ = _
          unfold b_X2_subtract_L4
          refine q_b1 (gI_eq qa rfl) ?_
          refine q_f (nI_ge hlt (by omega)) ?_
          refine q_b1 (gI_eq qb rfl) ?_
          refine q_j1 () (fun kk => pre _ kk rfl) ?_
          refine q_b1 (gR_eq qa rfl) ?_
          refine q_b1 (ldI_eq (i := i) stH_s rfl (by omega) (by omega)) ?_
          refine q_b1 (gI_eq qb rfl) ?_
          refine q_j1 (nI (pad nb gb i)) (fun kk => ?_) ?_
          · by_cases hb2 : i < nb
            · refine q_f (nI_ge hb2 (by omega)) ?_
              refine q_b1 (gR_eq qb rfl) ?_
              refine q_b1 (ldI_eq qLb rfl (by omega) (by omega)) ?_
              rw [b3 i hb2]; unfold pad; rw [if_pos hb2]
            · refine q_t (nI_le (by omega) (by omega)) ?_
              unfold pad; rw [if_neg hb2]; rfl
          refine q_le (y := nI (G i) - nI (v + pad nb gb i)) (by rw [(g1 i hlt).1, hx8]) ?_
          refine q_j1 (nI 1) (fun kk => q_f (dif_lt (by omega) (by omega)) rfl) ?_
          refine q_b1 (gR_eq qa rfl) ?_
          refine q_j1 (nI (G i + BS - (v + pad nb gb i))) (fun kk => q_f (by decide) (by rw [dif_fix (by omega)])) ?_
          refine q_b1 (stI_eq (i := i) stH_s rfl (by omega) (by omega)) ?_
          rw [stH_stH]
          exact q_le (nI_1 i) s1
theorem t_subtract (h : NV σ a L c x) (hb : NV σ b Lb cb y) (n1 : L ≠ Lb) (hle : y ≤ x) : Ye (f_X2_subtract σ a b) (PN σ a L c (x - y)) := by
  obtain ⟨n, g, f, h1, h2, h3, h4, h5, h6, h7, h8⟩ := h.split
  obtain ⟨m, gb, fb, k1, k2, k3, k4, k5, k6, k7, k8⟩ := hb.split
  have hFU := FU_ge
  have hnm : m ≤ n := by
    rcases Nat.lt_or_ge n m with w | w
    · have q1 := vl_lt h6
      have q2 := nm_pos k7 (by omega)
      have q3 : BS ^ n ≤ BS ^ (m - 1) := Nat.pow_le_pow_right (by decide) (by omega)
      omega
    · exact w
  unfold f_X2_subtract
  refine e_ob h1 ?_
  obtain ⟨F', G', s1, s2, s3⟩ := t_sub_loop (g := g) (gb := gb) h1 h2 k1 k2 n1 h4 h5 h6 k3 k4 k5 k6 hnm (by omega) FU 0 0 f g (by omega) (by omega) (by omega) (fun j hj => ⟨h3 j hj, h6 j hj⟩) (fun j _ _ => rfl) (by simp [vl])
  rw [stH_self h2] at s1
  refine e_bd0 s1 ?_
  obtain ⟨σ3, t1, t2⟩ := fin_trim (σ := σ) (a := a) (L := L) (c := c) (N := n) (k := 0) (s := 0) (F := F') (G := G') h1 h2 (Or.inl rfl) Fr.rf (fun j hj => (s2 j hj).1) h4 h5 (fun j hj => (s2 j hj).2) (Nat.le_refl _) (Nat.le_refl _) (by omega)
  have hself : stH (stH σ L (AA c F')) a (OO L n) = stH σ L (AA c F') := stH_self (by rw [stH_n (ne_OA h2 h1)]; exact h1)
  rw [hself] at t1
  refine e_bd0 t1 ?_
  have hval : vl BS G' n = x - y := by omega
  rw [hval] at t2
  exact e_ret t2
end SB
