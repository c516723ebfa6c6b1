/-- behind a method that makes the Natural a worth y and the Natural b worth z -/
def P2 (σ : St) (a L c b Lb cb y z : Nat) : Unit → St → Nat → Nat → Prop := fun _ σ' k s => ∃ L' c' Lb' cb', NV σ' a L' c' y ∧ NV σ' b Lb' cb' z ∧ (L' = L ∨ σ.2.1 ≤ L') ∧ (Lb' = Lb ∨ σ.2.1 ≤ Lb') ∧ L' ≠ Lb' ∧ Fr (fun q => q = a ∨ q = L ∨ q = b ∨ q = Lb) σ σ' ∧ c ≤ c' ∧ cb ≤ cb' ∧ k ≤ s ∧ s + 2 * c + 2 * cb ≤ 2 * c' + 2 * cb'
section RL
variable {σ : St} {a b L Lb c cb n d : Nat} {g : Nat → Nat}
theorem vl_head {Q : Nat → Nat} {m n : Nat} (h : m < n) : vl BS (fun j => Q (m + j)) (n - m) = Q m + BS * vl BS (fun j => Q (m + 1 + j)) (n - (m + 1)) := by
  obtain ⟨e, rfl⟩ : ∃ e, n = m + (1 + e) := ⟨n - m - 1, by omega⟩
  rw [show m + (1 + e) - m = 1 + e by omega, show m + (1 + e) - (m + 1) = e by omega, vl_add]
  have h1 : vl BS (fun j => Q (m + j)) 1 = Q m := by simp [vl]
  rw [h1, Nat.pow_one]
  congr 2
  exact vl_congr (fun j _ => by show Q (m + (1 + j)) = Q (m + 1 + j); congr 1; omega)
theorem t_rl_loop {σ1 : St} {f fq : Nat → Int32} {nq : Nat} (ha : σ1.1 a = some (OO L n)) (hL : σ1.1 L = some (AA c f)) (hb : σ1.1 b = some (OO Lb nq)) (hLb : σ1.1 Lb = some (AA cb fq)) (n1 : L ≠ Lb) (h3 : ∀ j, j < n → f j = nI (g j)) (h4 : n ≤ c) (h5 : c ≤ 4000) (h6 : ∀ j, j < n → g j < BS) (hd0 : 0 < d) (hd : d < BS) (hcb : n ≤ cb) (hcb4 : cb ≤ 4000) :
    ∀ (k m r : Nat) (F : Nat → Int32) (Q : Nat → Nat), m < k → m ≤ n → r < d → (∀ j, m ≤ j → j < n → F j = nI (Q j) ∧ Q j < BS) → vl BS (fun j => g (m + j)) (n - m) = d * vl BS (fun j => Q (m + j)) (n - m) + r →
      ∃ F' Q' r', r' < d ∧ f_X2_reduceByLimb_L23 k (stH σ1 Lb (AA cb F)) a b (nI d) (lN r) (nI m + (-1)) = some (lN r', stH σ1 Lb (AA cb F'), 0, 0) ∧ (∀ j, j < n → F' j = nI (Q' j) ∧ Q' j < BS) ∧ vl BS g n = d * vl BS Q' n + r' := by
  intro k
  induction k with
  | zero => intro m r F Q h; omega
  | succ k ih =>
    intro m r F Q hk hm hr h1 h2
    show ∃ F' Q' r', r' < d ∧ b_X2_reduceByLimb_L23 (f_X2_reduceByLimb_L23 k) _ a b _ _ _ = _ ∧ _
    unfold b_X2_reduceByLimb_L23
    have eB : BS = 1000000000 := rfl
    rcases Nat.eq_zero_or_pos m with w | w
    · subst w
      refine ⟨F, Q, r, hr, q_t (by decide) rfl, fun j hj => h1 j (Nat.zero_le _) hj, ?_⟩
      have e1 : ∀ G : Nat → Nat, vl BS (fun j => G (0 + j)) (n - 0) = vl BS G n := fun G => vl_congr (fun j _ => by show G (0 + j) = G j; rw [Nat.zero_add])
      rw [e1, e1] at h2
      exact h2
    · obtain ⟨i, rfl⟩ : ∃ i, m = i + 1 := ⟨m - 1, by omega⟩
      rw [pk_m1]
      have hi : i < n := by omega
      have hgi := h6 i hi
      have hlt : r * BS + g i < d * BS := by
        have : (r + 1) * BS ≤ d * BS := Nat.mul_le_mul_right _ hr
        rw [Nat.add_mul, Nat.one_mul] at this
        omega
      have hq : (r * BS + g i) / d < BS := by rw [Nat.div_lt_iff_lt_mul hd0, Nat.mul_comm BS d]; exact hlt
      have hdB : d * BS ≤ BS * BS := Nat.mul_le_mul_right _ (by omega)
      have e2 : BS * BS < 2 ^ 62 := by decide
      have hdm := Nat.mod_add_div (r * BS + g i) d
      obtain ⟨F', Q', r', s1, s2, s3, s4⟩ := ih i ((r * BS + g i) % d) (upd F i (nI ((r * BS + g i) / d))) (up1 Q i ((r * BS + g i) / d)) (by omega) (by omega) (Nat.mod_lt _ hd0) (fun j q1 q2 => by
        by_cases hj : j = i
        · subst hj; unfold up1; rw [if_pos rfl]; exact ⟨pk_us, hq⟩
        · unfold up1; rw [if_neg hj, pk_un hj]; exact h1 j (by omega) q2) (by
        rw [vl_head hi, vl_head hi, h2]
        have e3 : vl BS (fun j => up1 Q i ((r * BS + g i) / d) (i + 1 + j)) (n - (i + 1)) = vl BS (fun j => Q (i + 1 + j)) (n - (i + 1)) := vl_congr (fun j _ => by unfold up1; rw [if_neg (by omega)])
        have e4 : up1 Q i ((r * BS + g i) / d) i = (r * BS + g i) / d := by unfold up1; rw [if_pos rfl]
        rw [e3, e4]
        rw [Nat.mul_add BS, Nat.mul_add d, Nat.mul_left_comm BS d, Nat.mul_comm BS r]
        omega)
      refine ⟨F', Q', r', s1, ?_, s3, s4⟩
      have qa : (stH σ1 Lb (AA cb F)).1 a = some (OO L n) := by rw [stH_n (ne_OA hLb ha)]; exact ha
      have qL : (stH σ1 Lb (AA cb F)).1 L = some (AA c f) := by rw [stH_n n1]; exact hL
      have qb : (stH σ1 Lb (AA cb F)).1 b = some (OO Lb nq) := by rw [stH_n (ne_OA hLb hb)]; exact hb
      refine q_f (nI_pos (by omega)) ?_
      refine q_b1 (gR_eq qa rfl) ?_
      refine q_b1 (ldI_eq (i := i) qL rfl (by omega) (by omega)) ?_
      refine q_le (y := lN (r * BS + g i)) (by rw [h3 i hi, nI_l (bs_lt hgi), show (1000000000 : Int64) = lN BS from rfl, lN_mul, lN_add]) ?_
      refine q_b1 (dvL_eq (b := d) rfl (nI_l (bs_lt hd)) (by omega) hd0 (by omega)) ?_
      refine q_b1 (gR_eq qb rfl) ?_
      refine q_b1 (stI_eq (i := i) stH_s rfl (by omega) (by omega)) ?_
      rw [stH_stH, lN_i]
      refine q_le (y := lN ((r * BS + g i) % d)) ?_ ?_
      · rw [nI_l (bs_lt hd), lN_mul, lN_sub (Nat.div_mul_le_self _ _)]
        congr 1
        rw [Nat.mul_comm _ d]
        omega
      exact q_lt s2
theorem t_reduceByLimb {x z : Nat} {y : Int32} (hD : Dm σ) (h : NV σ a L c x) (hb : NV σ b Lb cb z) (nab : a ≠ b) (n1 : L ≠ Lb) (hy : y = nI d) (hd0 : 0 < d) (hd : d < BS) (hx : x < 10 ^ Em) (hx0 : 0 < x) : Ye (f_X2_reduceByLimb σ a b y) (P2 σ a L c b Lb cb (x % d) (x / d)) := by
  obtain ⟨n, g, f, h1, h2, h3, h4, h5, h6, h7, h8⟩ := h.split
  obtain ⟨nb, gb, fb, k1, k2, k3, k4, k5, k6, k7, k8⟩ := hb.split
  have hFU := FU_ge
  have hn0 : 0 < n := Nat.pos_of_ne_zero fun e => by
    have := (nm_zero h7).mp e
    omega
  have hn : n ≤ 1889 := by
    have := limbs_le h7 h8 hn0 hx
    have e : Em = 17000 := rfl
    clear hx
    omega
  clear hx
  subst hy
  unfold f_X2_reduceByLimb
  refine e_ob h1 ?_
  refine e_f (nI_ne0 hd0 (bs_lt hd)) ?_
  refine e_b1 (gI_eq h1 rfl) ?_
  refine e_bd (t_makeRoom (m := n) hD k1 k2 rfl (by omega) (by omega)) ?_
  rintro _ σ2 kc sc ⟨L', c', f', m1, m2, m3, m4, m5, m6, m7, m8, m9, m10, -⟩
  have hc' : c' ≤ 4000 := by have h9 : max cb (2 * n) ≤ 4000 := Nat.max_le.mpr ⟨k5, by omega⟩; omega
  have qa : σ2.1 a = some (OO L n) := m8.at hD h1 nab
  have qL : σ2.1 L = some (AA c f) := m8.at hD h2 (fun z => ne_AO h2 k1 z)
  have hLL : L ≠ L' := by
    rcases m7 with w | w
    · rw [w]; exact n1
    · have := hD.lt h2; omega
  refine e_b1 (gI_eq qa rfl) ?_
  refine e_le (x := nI n + (-1)) (Int32.sub_eq_add_neg ..) ?_
  obtain ⟨F', Q', r', s1, s2, s3, s4⟩ := t_rl_loop (σ1 := σ2) (d := d) qa qL m1 m2 hLL h3 h4 h5 h6 hd0 hd m3 hc' FU n 0 f' (fun _ => 0) (by omega) (Nat.le_refl _) hd0 (fun j q1 q2 => by omega) (by simp [vl])
  rw [stH_self m2] at s2
  refine e_bd0 s2 ?_
  have e1 : (stH σ2 L' (AA c' F')).1 a = some (OO L n) := by rw [stH_n (ne_OA m2 qa)]; exact qa
  have e2 : (stH σ2 L' (AA c' F')).1 b = some (OO L' nb) := by rw [stH_n (ne_OA m2 m1)]; exact m1
  refine e_b1 (gI_eq e1 rfl) ?_
  refine e_b1 (pF_eq e2 (Nat.le_of_ble_eq_true rfl)) ?_
  obtain ⟨n', t1, t2, t3⟩ := t_trimV (σ := stH (stH σ2 L' (AA c' F')) b (OO L' n)) (a := b) (L := L') (c := c') (n := n) (g := Q') stH_s (by rw [stH_n (ne_AO m2 m1), stH_s]) (fun j hj => (s3 j hj).1) m3 hc' (fun j hj => (s3 j hj).2)
  refine e_bd0 t2 ?_
  rw [stH_stH] at t3 ⊢
  have e3 : (stH (stH σ2 L' (AA c' F')) b (OO L' n')).1 a = some (OO L n) := by rw [stH_n nab]; exact e1
  have e4 : (stH (stH σ2 L' (AA c' F')) b (OO L' n')).1 L = some (AA c f) := by rw [stH_n (ne_AO h2 k1), stH_n hLL]; exact qL
  refine e_b1 (gR_eq e3 rfl) ?_
  refine e_b1 (stI_eq (i := 0) e4 rfl (by omega) (by omega)) ?_
  rw [lN_i]
  have e5 : (stH (stH (stH σ2 L' (AA c' F')) b (OO L' n')) L (AA c (upd f 0 (nI r')))).1 a = some (OO L n) := by rw [stH_n (ne_OA h2 h1)]; exact e3
  refine e_b1 (pF_eq e5 (Nat.le_of_ble_eq_true rfl)) ?_
  have f1 : Fr (fun q => q = a ∨ q = L ∨ q = b ∨ q = Lb) σ σ2 := m8.mono (fun q _ z => Or.inr (Or.inr (Or.inl z)))
  have f2 : Fr (fun q => q = L') σ2 (stH σ2 L' (AA c' F')) := Fr.st m2 rfl
  have f3 : Fr (fun q => q = b) (stH σ2 L' (AA c' F')) (stH (stH σ2 L' (AA c' F')) b (OO L' n')) := Fr.st e2 rfl
  have f4 := f1.trans f2 (fun q hq z => by
    rcases m7 with w | w
    · exact Or.inr (Or.inr (Or.inr (z.trans w)))
    · omega)
  have f5 := f4.trans f3 (fun q _ z => Or.inr (Or.inr (Or.inl z)))
  have f6 := f5.trans (Fr.st (S := fun q => q = L) (e := AA c (upd f 0 (nI r'))) e4 rfl) (fun q _ z => Or.inr (Or.inl z))
  have f7 := f6.trans (Fr.st (S := fun q => q = a) (e := OO L 1) e5 rfl) (fun q _ z => Or.inl z)
  have hdr : x / d = vl BS Q' n ∧ x % d = r' := by
    rw [← h8, s4]
    constructor
    · rw [Nat.mul_add_div hd0, Nat.div_eq_of_lt s1, Nat.add_zero]
    · rw [Nat.mul_add_mod, Nat.mod_eq_of_lt s1]
  obtain ⟨n2, u1, u2, u3⟩ := t_trimV (σ := stH (stH (stH (stH σ2 L' (AA c' F')) b (OO L' n')) L (AA c (upd f 0 (nI r')))) a (OO L 1)) (a := a) (L := L) (c := c) (n := 1) (g := fun _ => r') stH_s (by rw [stH_n (ne_AO h2 h1), stH_s]) (fun j hj => by rw [show j = 0 by omega]; exact pk_us) (by omega) h5 (fun j hj => by omega)
  refine e_bd0 u2 ?_
  have f8 := f7.trans (Fr.st (S := fun q => q = a) (e := OO L n2) stH_s rfl) (fun q _ z => Or.inl z)
  refine e_ret ⟨L, c, L', c', ?_, ?_, Or.inl rfl, m7, hLL, f8, Nat.le_refl _, m4, m9, by omega⟩
  · have e : vl BS (fun _ => r') 1 = x % d := by rw [hdr.2]; simp [vl]
    rw [e] at u3
    exact u3
  · rw [hdr.1]
    have d0 : Dm σ := hD
    refine NV.fr (S := fun q => q = a ∨ q = L) t3 (f5.2.2.2 d0) ?_ (fun z => ?_) (fun z => ?_)
    · exact ((Fr.st (S := fun q => q = a ∨ q = L) (e := AA c (upd f 0 (nI r'))) e4 (Or.inr rfl)).trans (Fr.st (S := fun q => q = a ∨ q = L) (e := OO L 1) e5 (Or.inl rfl)) (fun q _ z => z)).trans (Fr.st (S := fun q => q = a ∨ q = L) (e := OO L n2) stH_s (Or.inl rfl)) (fun q _ z => z)
    · rcases z with z | z
      · exact nab z.symm
      · exact (ne_OA h2 k1) z
    · rcases z with z | z
      · exact (ne_AO m2 qa) z
      · exact hLL z.symm
end RL
section RF
variable {σ : St}
theorem j_minL {a b : Nat} {x y : Int64} (hx : x = lN a) (hy : y = lN b) (ha : a < 2 ^ 63) (hb : b < 2 ^ 63) : f_J9_min_f86c9 σ x y = some (lN (min a b)) := by
  subst hx hy
  unfold f_J9_min_f86c9
  by_cases h : b < a
  · rw [if_pos ((pk_lLT hb ha).mpr h), Nat.min_eq_right (by omega)]
  · rw [if_neg (fun z => h ((pk_lLT hb ha).mp z)), Nat.min_eq_left (by omega)]
/-- refine: from the quotient q by h of the upper to that by h and l of all, but below the base -/
theorem t_refine {q r h l x : Nat} (hr : r < h) (hh : h ≤ 2 * BS) (hl : l < BS) (hx : x < BS) (hq : q ≤ 2 * BS) : f_X2_refine σ (lN q) (lN r) (lN h) (lN l) (lN x) = some (nI (min (((q * h + r) * BS + x) / (h * BS + l)) (BS - 1))) := by
  unfold f_X2_refine
  have eB : BS = 1000000000 := rfl
  have b1 : q * l ≤ 2 * BS * BS := Nat.mul_le_mul hq (by omega)
  have b2 : r * BS ≤ 2 * BS * BS := Nat.mul_le_mul_right _ (by omega)
  have b3 : h * BS ≤ 2 * BS * BS := Nat.mul_le_mul_right _ hh
  have b4 : 2 * BS * BS < 2 ^ 62 := by decide
  have b5 : 2 ^ 62 = 4611686018427387904 := by decide
  have b6 : 2 * BS * BS = 2000000000000000000 := by decide
  have b7 : (r + 1) * BS ≤ h * BS := Nat.mul_le_mul_right _ hr
  rw [Nat.add_mul, Nat.one_mul] at b7
  have eT : (q * h + r) * BS + x + q * l = q * (h * BS + l) + r * BS + x := by
    rw [Nat.add_mul, Nat.mul_add, Nat.mul_assoc]
    omega
  have hD : 0 < h * BS + l := by omega
  have key : ∀ w : Nat, w ≤ 2 * BS → w = ((q * h + r) * BS + x) / (h * BS + l) → (f_J9_min_f86c9 σ (lN w) 999999999).bind (fun l4 => some ((l4 : Int64).toInt32)) = some (nI (min (((q * h + r) * BS + x) / (h * BS + l)) (BS - 1))) := by
    intro w hw e
    refine q_b1 (j_minL (b := BS - 1) rfl rfl (by omega) (by omega)) ?_
    rw [lN_i, e]
  refine q_le (y := lZ ((q * l : Nat) - (r * BS : Nat) - x)) ?_ ?_
  · rw [lN_mul, show (1000000000 : Int64) = lN BS from rfl, lN_mul, lZ_n, lZ_n, lZ_n, lZ_sub, lZ_sub]
  refine q_le (y := lN (h * BS + l)) (by rw [show (1000000000 : Int64) = lN BS from rfl, lN_mul, lN_add]) ?_
  by_cases he : q * l ≤ r * BS + x
  · refine q_j1 (lN q) (fun k => q_t ?_ rfl) (key q hq ?_)
    · exact (lZ_le (b := 0) (by omega) (by omega) (by omega) (by omega)).mpr (by omega)
    · exact (Nat.div_eq_of_lt_le (by omega) (by rw [Nat.succ_mul]; omega)).symm
  · obtain ⟨u, hu⟩ : ∃ u : Nat, u + (r * BS + x) = q * l := ⟨q * l - (r * BS + x), by omega⟩
    have hu0 : 0 < u := by omega
    have eu : (((q * l : Nat) : Int) - ((r * BS : Nat) : Int) - (x : Int)) = ((u : Nat) : Int) := by omega
    rw [eu]
    have eT2 : (q * h + r) * BS + x + u = q * (h * BS + l) := by omega
    have hdm := Nat.mod_add_div (u + (h * BS + l) - 1) (h * BS + l)
    have hml : (u + (h * BS + l) - 1) % (h * BS + l) < h * BS + l := Nat.mod_lt _ hD
    have hcq : (u + (h * BS + l) - 1) / (h * BS + l) ≤ q := by
      have h9 : u ≤ q * (h * BS + l) := by omega
      rw [← Nat.lt_succ_iff, Nat.div_lt_iff_lt_mul hD, Nat.succ_mul]
      omega
    refine q_j1 (lN (q - (u + (h * BS + l) - 1) / (h * BS + l))) (fun k => ?_) (key _ (Nat.le_trans (Nat.sub_le _ _) hq) ?_)
    · refine q_f (fun z => ?_) ?_
      · have := (lZ_le (a := (u : Int)) (b := 0) (by omega) (by omega) (by omega) (by omega)).mp z
        omega
      refine q_f (fun z => ?_) ?_
      · have := (pk_lLE (a := h * BS + l) (b := 0) (by omega) (by decide)).mp z
        omega
      refine q_b1 (dvL_eq (a := u + (h * BS + l) - 1) (b := h * BS + l) ?_ rfl (by omega) hD (by omega)) ?_
      · rw [← lZ_n, lN_add, show (1 : Int64) = lN 1 from rfl, lN_sub (by omega)]
      exact q_le (lN_sub hcq) rfl
    · rw [Nat.mul_comm (h * BS + l)] at hdm
      have hs := Nat.sub_mul q ((u + (h * BS + l) - 1) / (h * BS + l)) (h * BS + l)
      have hm := Nat.mul_le_mul_right (h * BS + l) hcq
      refine (Nat.div_eq_of_lt_le ?_ ?_).symm
      · rw [hs]; omega
      · rw [Nat.succ_mul, hs]; omega
end RF
