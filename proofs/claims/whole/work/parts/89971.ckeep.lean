/-! ===== keep: a number into a register ===== -/
abbrev Cw {ρ : Type} (t : Nat) (σ : St) (L c : Nat → Nat) (A : AS) (T W : TS) (e : Rs ρ) (P : ρ → (Nat → Nat) → Prop) : Prop := Ye e (fun r σ' k s => ∃ L' c' V', CI t σ' L' c' V' A T W ∧ Rl t σ L c σ' L' c' k s ∧ P r V')
abbrev Cc (t : Nat) (σ : St) (L c : Nat → Nat) (e : Rs Int32) (R : Int32 × AS) (T W : TS) : Prop := Ye e (fun r σ' k s => r = R.1 ∧ ∃ L' c' V', CI t σ' L' c' V' R.2 T W ∧ Rl t σ L c σ' L' c' k s)
/-- the same, work, quotient and spare staying -/
abbrev Cv (t : Nat) (σ : St) (L c V : Nat → Nat) (e : Rs Int32) (R : Int32 × AS) (T W : TS) : Prop := Ye e (fun r σ' k s => r = R.1 ∧ ∃ L' c' V', CI t σ' L' c' V' R.2 T W ∧ Rl t σ L c σ' L' c' k s ∧ ∀ m, 8 ≤ m → V' m = V m)
section CKs
variable {t : Nat} {σ σ1 : St} {L c V : Nat → Nat} {A : AS} {T W T' W' : TS} {k s : Nat} {R : Int32 × AS}
theorem cw_bd {τ : Type} {e : Rs τ} {f : τ → St → Rs Int32} {P : τ → (Nat → Nat) → Prop} (h : Cw t σ L c A T W e P) (kk : ∀ r σ1 L1 c1 V1, CI t σ1 L1 c1 V1 A T W → P r V1 → Cc t σ1 L1 c1 (f r σ1) R T' W') : Cc t σ L c (bd e f) R T' W' := by
  refine e_bd h ?_
  rintro a σ1 kc sc ⟨L1, c1, V1, h1, h2, h3⟩
  refine e_im (kk a σ1 L1 c1 V1 h1 h3) ?_
  rintro r σ2 k' s' ⟨e1, L2, c2, V2, g1, g2⟩
  exact ⟨e1, L2, c2, V2, g1, h2.trans g2⟩
theorem cw_bw {τ ρ : Type} {e : Rs τ} {f : τ → St → Rs ρ} {P : τ → (Nat → Nat) → Prop} {P' : ρ → (Nat → Nat) → Prop} (h : Cw t σ L c A T W e P) (kk : ∀ r σ1 L1 c1 V1, CI t σ1 L1 c1 V1 A T W → P r V1 → Cw t σ1 L1 c1 A T W (f r σ1) P') : Cw t σ L c A T W (bd e f) P' := by
  refine e_bd h ?_
  rintro a σ1 kc sc ⟨L1, c1, V1, h1, h2, h3⟩
  refine e_im (kk a σ1 L1 c1 V1 h1 h3) ?_
  rintro r σ2 k' s' ⟨L2, c2, V2, g1, g2, g3⟩
  exact ⟨L2, c2, V2, g1, h2.trans g2, g3⟩
theorem cc_bd {e : Rs Int32} {f : Int32 → St → Rs Int32} {R1 : Int32 × AS} (h : Cc t σ L c e R1 T W) (kk : ∀ σ1 L1 c1 V1, CI t σ1 L1 c1 V1 R1.2 T W → Cc t σ1 L1 c1 (f R1.1 σ1) R T' W') : Cc t σ L c (bd e f) R T' W' := by
  refine e_bd h ?_
  rintro a σ1 kc sc ⟨rfl, L1, c1, V1, h1, h2⟩
  refine e_im (kk σ1 L1 c1 V1 h1) ?_
  rintro r σ2 k' s' ⟨e1, L2, c2, V2, g1, g2⟩
  exact ⟨e1, L2, c2, V2, g1, h2.trans g2⟩
theorem cc_rt {e : Rs Int32} (h : Cc t σ L c e R T W) (hb : isB R.1 = some ()) : Cc t σ L c (bd e fun x σ' => (isB x).bind fun _ => some (x, σ', 0, 0)) R T W := by
  refine cc_bd h (fun σ1 L1 c1 V1 h1 => ?_)
  rw [hb]
  exact e_ret ⟨rfl, L1, c1, V1, h1, Rl.rf⟩
theorem cc_no (h : CI t σ L c V A T W) : Cc t σ L c (some (0, σ, 0, 0)) (0, A) T W := e_ret ⟨rfl, L, c, V, h, Rl.rf⟩
theorem cw_no {ρ : Type} {r : ρ} {P : ρ → (Nat → Nat) → Prop} (h : CI t σ L c V A T W) (hp : P r V) : Cw t σ L c A T W (some (r, σ, 0, 0)) P := e_ret ⟨L, c, V, h, Rl.rf, hp⟩
theorem cw_p1 {i y : Nat} {e : Rs Unit} (h : CI t σ L c V A T W) (i1 : 8 ≤ i) (i2 : i < 11) (he : Ye e (PN σ (nA t i) (L i) (c i) y)) : Cw t σ L c A T W e (fun _ V' => V' = upA V i y) := by
  refine e_im he (fun r σ1 k s hP => ?_)
  obtain ⟨L', c', h1, h2⟩ := h.p1 i1 i2 hP
  exact ⟨L', c', _, h1, h2, rfl⟩
/-- a register has been given a number -/
theorem CI.pr (h : CI t σ L c V A T W) {i y : Nat} {n b : Bool} {z : Int} {u : Unit} (hi : i < 8) (hP : PN σ (nA t i) (L i) (c i) y u σ1 k s) (hy : sz y ≤ 4096) (z1 : -2147483648 ≤ z) (z2 : z < 2147483648) (hb : b = (n && decide (0 < y))) : ∃ L' c', CI t (stH σ1 (dA t i) (DO (nA t i) b z)) L' c' (upA V i y) (setA A i y n z) T W ∧ Rl t σ L c (stH σ1 (dA t i) (DO (nA t i) b z)) L' c' k s := by
  obtain ⟨La, ca, q1, q2, q3, q4, q5, q6⟩ := hP
  have hdi : ∀ j, j < 11 → nA t j ≠ dA t i := fun j hj => by
    unfold nA dA
    split <;> omega
  have hD1 : σ1.1 (dA t i) = some (DO (nA t i) (A.2.1 i) (A.2.2 i)) := by
    refine q3.at h.dm (h.dc hi) (fun w => ?_)
    rcases w with w | w
    · exact hdi i (by omega) w.symm
    · obtain ⟨f, hf⟩ := (h.nv (i := i) (by omega)).ar
      have := h.dc hi
      rw [w, hf] at this
      cases this
  have f2 : Fr (fun q => q = dA t i) σ1 (stH σ1 (dA t i) (DO (nA t i) b z)) := Fr.st hD1 rfl
  have hF : Fr (fun q => q = nA t i ∨ q = L i ∨ q = dA t i) σ (stH σ1 (dA t i) (DO (nA t i) b z)) := (q3.mono (fun q _ w => w.elim Or.inl (fun z => Or.inr (Or.inl z)))).trans f2 (fun q _ w => Or.inr (Or.inr w))
  have hL : ∀ j, j < 13 → upA L i La j = L j ∨ σ.2.1 ≤ upA L i La j := fun j hj => by
    by_cases e : j = i
    · subst e; rw [upA_s]; exact q2
    · rw [upA_n e]; exact Or.inl rfl
  have ns : ∀ {p : Nat} {e : Cel}, σ.1 p = some e → (∀ l n, e ≠ OO l n) → (∀ d f, e ≠ AA d f) → p ≠ dA t i → (stH σ1 (dA t i) (DO (nA t i) b z)).1 p = some e := fun {p e} hp h1 h2 h3 => by
    refine hF.at h.dm hp (fun w => ?_)
    rcases w with w | w | w
    · obtain ⟨n, hn⟩ := (h.nv (i := i) (by omega)).ob
      rw [w, hn] at hp
      injection hp with hp
      exact h1 _ _ hp.symm
    · obtain ⟨f, hf⟩ := (h.nv (i := i) (by omega)).ar
      rw [w, hf] at hp
      injection hp with hp
      exact h2 _ _ hp.symm
    · exact h3 w
  have hnL : ∀ j, j < 11 → j ≠ i → nA t j ≠ L i := fun j hj _ w => by
    obtain ⟨n, hn⟩ := (h.nv hj).ob
    obtain ⟨f, hf⟩ := (h.nv (i := i) (by omega)).ar
    rw [w] at hn
    exact ne_AO hf hn rfl
  have hLn : ∀ j, j < 11 → L j ≠ nA t i := fun j hj w => by
    obtain ⟨n, hn⟩ := (h.nv (i := i) (by omega)).ob
    obtain ⟨f, hf⟩ := (h.nv hj).ar
    exact ne_AO hf hn w
  have hLd : ∀ j, j < 11 → L j ≠ dA t i := fun j hj w => by
    obtain ⟨f, hf⟩ := (h.nv hj).ar
    have := h.dc hi
    rw [← w, hf] at this
    cases this
  refine ⟨upA L i La, upA c i ca, ⟨?_, fun j hj => ?_, fun j hj => ?_, fun j l hj hl n => ?_, ns h.t5 (fun _ _ z => by cases z) (fun _ _ z => by cases z) (by unfold dA; omega), ?_, fun j hj => ?_, ?_, ?_, ?_, ?_, ?_, hF.2.2.2 h.dm⟩, ?_, hL, q5, ?_⟩
  · have := kpA_ok (d := i) (m := y) (n := n) (s := z) h.ok
    unfold kpA at this
    rw [if_pos ⟨hy, z1, z2⟩] at this
    exact this
  · have h4 := (h.2.1 j hj).2
    by_cases e : j = i
    · subst e
      rw [upA_s, upA_s, upA_s]
      refine ⟨?_, by omega⟩
      obtain ⟨n', g, f, p1, p2, p3⟩ := q1.split
      refine NV.mk ?_ ?_ p3.1 p3.2.1 p3.2.2.1 p3.2.2.2.1 p3.2.2.2.2.1 p3.2.2.2.2.2
      · rw [stH_n (hdi j hj)]; exact p1
      · rw [stH_n (fun w => by rw [w, hD1] at p2; cases p2)]; exact p2
    · rw [upA_n e, upA_n e, upA_n e]
      refine ⟨(h.nv hj).fr h.dm hF (fun w => ?_) (fun w => ?_), h4⟩
      · rcases w with w | w | w
        · exact nA_inj hj (by omega) e w
        · exact hnL j hj e w
        · exact hdi j hj w
      · rcases w with w | w | w
        · exact hLn j hj w
        · exact h.inj (by omega) (by omega) e w
        · exact hLd j hj w
  · show upA V i y j = upA A.1 i y j
    by_cases e : j = i
    · subst e; rw [upA_s, upA_s]
    · rw [upA_n e, upA_n e]; exact h.rv hj
  · by_cases e : j = i
    · subst e
      rw [upA_s, upA_n (by omega)]
      rcases q2 with w | w
      · rw [w]; exact h.inj (by omega) (by omega) n
      · have := h.lt (i := l) (by omega); omega
    · rw [upA_n e]
      by_cases e2 : l = i
      · subst e2
        rw [upA_s]
        rcases q2 with w | w
        · rw [w]; exact h.inj (by omega) (by omega) n
        · have := h.lt (i := j) (by omega); omega
      · rw [upA_n e2]; exact h.inj (by omega) (by omega) n
  · obtain ⟨f, h1, h2⟩ := h.rg
    exact ⟨f, ns h1 (fun _ _ z => by cases z) (fun _ _ z => by cases z) (by unfold dA; omega), h2⟩
  · show (stH σ1 (dA t i) (DO (nA t i) b z)).1 (dA t j) = some (DO (nA t j) (upA A.2.1 i (n && decide (0 < y)) j) (upA A.2.2 i z j))
    by_cases e : j = i
    · subst e; rw [upA_s, upA_s, ← hb, stH_s]
    · rw [upA_n e, upA_n e]
      exact ns (h.dc hj) (fun _ _ z => by cases z) (fun _ _ z => by cases z) (by unfold dA; omega)
  · obtain ⟨h1, ⟨f, h2, h3⟩, h4⟩ := h.ty
    rw [upA_n (by omega), upA_n (by omega)]
    refine ⟨ns h1 (fun _ _ z => by cases z) (fun _ _ z => by cases z) (by unfold dA; omega), ⟨f, ns h2 (fun _ _ z => by cases z) (fun _ _ z => by cases z) (fun w => ?_), h3⟩, h4⟩
    have := h.dc hi
    rw [← w, h2] at this
    cases this
  · obtain ⟨h1, ⟨f, h2, h3⟩, h4⟩ := h.la
    rw [upA_n (by omega), upA_n (by omega)]
    refine ⟨ns h1 (fun _ _ z => by cases z) (fun _ _ z => by cases z) (by unfold dA; omega), ⟨f, ns h2 (fun _ _ z => by cases z) (fun _ _ z => by cases z) (fun w => ?_), h3⟩, h4⟩
    have := h.dc hi
    rw [← w, h2] at this
    cases this
  · obtain ⟨a, b, e, g, x, h1⟩ := h.nu
    exact ⟨a, b, e, g, x, ns h1 (fun _ _ z => by cases z) (fun _ _ z => by cases z) (by unfold dA; omega)⟩
  · obtain ⟨a, b, u, v, w, x, h1⟩ := h.ly
    exact ⟨a, b, u, v, w, x, ns h1 (fun _ _ z => by cases z) (fun _ _ z => by cases z) (by unfold dA; omega)⟩
  · refine h.tn.fr h.dm hF (fun w => ?_)
    rcases w with w | w | w
    · obtain ⟨n, hn⟩ := (h.nv (i := i) (by omega)).ob
      exact h.tn.neO hn w
    · obtain ⟨f, hf⟩ := (h.nv (i := i) (by omega)).ar
      exact h.tn.neA hf w
    · exact h.tn.neO (h.dc hi) w
  · refine hF.mono (fun q _ hq => ?_)
    rcases hq with w | w | w
    · exact Or.inl (w ▸ nA_in (by omega))
    · exact Or.inr ⟨i, by omega, w⟩
    · refine Or.inl (w ▸ ?_)
      unfold dA
      omega
  · have := sm_up (c := c) (i := i) (v := ca) (by omega)
    omega
theorem cis_or (x : Int32) : (∃ i, i < 8 ∧ x = nI i ∧ f_X5_isRegister σ x = some 1) ∨ (f_X5_isRegister σ x = some 0 ∧ ¬ (0 ≤ x ∧ x < 8)) := (is_or (σ := σ) x).elim (fun ⟨i, h1, h2⟩ => Or.inl ⟨i, h1, h2, by rw [h2]; exact is_y (σ := σ) h1⟩) (fun h => Or.inr h)
theorem sz_nd {x : Nat} : sz x ≤ 4096 ↔ nd x ≤ 4096 := by
  rw [nd_sz]
  by_cases h : x = 0
  · rw [if_pos h, h, sz_0]; omega
  · rw [if_neg h]
theorem li_rt {z : Int} (h1 : -9223372036854775808 ≤ z) (h2 : z < 9223372036854775808) : lZ z = ((lZ z : Int64).toInt32 : Int32).toInt64 ↔ (-2147483648 ≤ z ∧ z < 2147483648) := by
  rw [lZ_i]
  constructor
  · intro h
    rw [iZ_lx] at h
    have a1 := iZ_lo (iZ z)
    have a2 := iZ_hi (iZ z)
    have := (lZ_eq h1 h2 (by omega) (by omega)).mp h
    omega
  · rintro ⟨a, b⟩
    rw [iZ_l a b]
/-- the registers' objects -/
theorem CI.gr (h : CI t σ L c V A T W) {i : Nat} {x : Int32} (hi : i < 8) (hx : x = nI i) : ldA σ (t + 1) x = some (dA t i) := by
  subst hx
  obtain ⟨f, h1, h2⟩ := h.rg
  unfold ldA
  rw [h1]
  show (if nI i < 0 ∨ 8 ≤ (nI i).toNatClampNeg then none else f (nI i).toNatClampNeg) = _
  rw [nI_clamp (by omega), if_neg (fun w => w.elim (nI_pos (by omega)) (fun z => by omega)), h2 i hi]
theorem CI.g0 (h : CI t σ L c V A T W) : gR σ 5 t 0 = some (t + 1) := gR_eq h.t5 rfl
theorem CI.g1 (h : CI t σ L c V A T W) : gR σ 5 t 1 = some (nA t 8) := gR_eq h.t5 rfl
theorem CI.g2 (h : CI t σ L c V A T W) : gR σ 5 t 2 = some (nA t 9) := gR_eq h.t5 rfl
theorem CI.g3 (h : CI t σ L c V A T W) : gR σ 5 t 3 = some (nA t 10) := gR_eq h.t5 rfl
theorem CI.g4 (h : CI t σ L c V A T W) : gR σ 5 t 4 = some (t + 8) := gR_eq h.t5 rfl
theorem CI.g5 (h : CI t σ L c V A T W) : gR σ 5 t 5 = some (t + 10) := gR_eq h.t5 rfl
theorem CI.g6 (h : CI t σ L c V A T W) : gR σ 5 t 6 = some (t + 12) := gR_eq h.t5 rfl
theorem CI.g7 (h : CI t σ L c V A T W) : gR σ 5 t 7 = some (t + 13) := gR_eq h.t5 rfl
theorem CI.d0 (h : CI t σ L c V A T W) {i : Nat} (hi : i < 8) : gR σ 0 (dA t i) 0 = some (nA t i) := gR_eq (h.dc hi) rfl
theorem CI.d1 (h : CI t σ L c V A T W) {i : Nat} (hi : i < 8) : gI σ 0 (dA t i) 1 = some (bI (A.2.1 i)) := gI_eq (h.dc hi) rfl
theorem CI.d2 (h : CI t σ L c V A T W) {i : Nat} (hi : i < 8) : gI σ 0 (dA t i) 2 = some (iZ (A.2.2 i)) := gI_eq (h.dc hi) rfl
/-- kept where d is a register -/
def kD (d : Int32) (m : Nat) (n : Bool) (s : Int) (A : AS) : Int32 × AS := onR d A fun i => kpA i m n s A
theorem isB_kD {d : Int32} {m : Nat} {n : Bool} {s : Int} {A : AS} : isB (kD d m n s A).1 = some () := isB_onR fun _ => isB_k
theorem onR_sw {d a : Int32} {A : AS} {F : Nat → Nat → Int32 × AS} : (onR d A fun i => onR a A fun j => F i j) = onR a A fun j => onR d A fun i => F i j := by
  unfold onR
  by_cases h1 : 0 ≤ d ∧ d < 8
  · rw [if_pos h1]
    split <;> rfl
  · rw [if_neg h1]
    split <;> rfl
theorem onR_if {d : Int32} {A : AS} {P : Prop} [Decidable P] {F G : Nat → Int32 × AS} : (onR d A fun i => if P then F i else G i) = if P then onR d A F else onR d A G := by
  by_cases h : P
  · rw [if_pos h]
    congr 1
    funext i
    rw [if_pos h]
  · rw [if_neg h]
    congr 1
    funext i
    rw [if_neg h]
theorem onR_0 {d : Int32} {A : AS} : (onR d A fun _ => ((0 : Int32), A)) = (0, A) := by
  unfold onR
  split <;> rfl
theorem Em_ge {x : Nat} (h : sz x ≤ 16999) : x < 10 ^ Em := Nat.lt_of_lt_of_le (sz_lt x) (p10_le (by show sz x ≤ 17000; omega))
theorem t_ckeepV {d : Int32} {m : Nat} {n : Bool} {z : Int} {a2 : Nat} {i3 : Int32} {j4 : Int64} (h : CI t σ L c V A T W) (hm : m < 11) (h2 : a2 = nA t m) (h3 : i3 = bI n) (h4 : j4 = lZ z) (z1 : -9223372036854775808 ≤ z) (z2 : z < 9223372036854775808) : Cv t σ L c V (f_X5_keep σ t d a2 i3 j4) (kD d (V m) n z A) T W := by
  subst h2 h3 h4
  unfold f_X5_keep kD
  refine e_ob h.t5 ?_
  rcases cis_or (σ := σ) d with ⟨i, hi, rfl, e1⟩ | ⟨e1, e2⟩
  · rw [onR_y hi]
    refine e_b1 e1 (e_f (by decide) ?_)
    have hnv := h.nv hm
    by_cases hc : sz (V m) ≤ 4096 ∧ -2147483648 ≤ z ∧ z < 2147483648
    · have hfit : f_X5_fits σ (nA t m) (lZ z) = some 1 := by
        unfold f_X5_fits
        refine q_b1 (t_digitCount h.tn hnv) ?_
        refine q_f (nI_nlt (a := 4096) (sz_nd.mp hc.1) (by decide)) ?_
        exact q_t ((li_rt z1 z2).mpr hc.2) rfl
      refine e_b1 hfit (e_f (by decide) ?_)
      refine e_b1 h.g0 (e_b1 (h.gr hi rfl) ?_)
      have hbec := t_become h.dm (h.nv (i := i) (by omega)) hnv (fun w => h.inj (by omega) (by omega) (fun e => w (by rw [e]))) (fun w => by
        by_cases e : i = m
        · rw [e]
        · exact absurd w (nA_inj (by omega) hm e)) (Em_ge (by omega))
      have ek : kpA i (V m) n z A = (1, setA A i (V m) n z) := if_pos hc
      rw [ek]
      have main : Ye (f_X0_become σ (dA t i) (nA t m) (bI n) ((lZ z : Int64).toInt32)) (fun _ σ' k s => ∃ L' c' V', CI t σ' L' c' V' (setA A i (V m) n z) T W ∧ Rl t σ L c σ' L' c' k s ∧ ∀ m, 8 ≤ m → V' m = V m) := by
        unfold f_X0_become
        refine e_ob (h.dc hi) ?_
        refine e_b1 (h.d0 hi) ?_
        refine e_bd hbec ?_
        rintro u σ1 kc sc hP
        obtain ⟨L', c', h1, h2⟩ := h.pr (n := n) (b := n && decide (0 < V m)) hi hP hc.1 hc.2.1 hc.2.2 rfl
        obtain ⟨La, ca, q1, q2, q3, q4, q5, q6⟩ := id hP
        have hdi : ∀ j, j < 11 → nA t j ≠ dA t i := fun j hj => by
          unfold nA dA
          split <;> omega
        have hD1 : σ1.1 (dA t i) = some (DO (nA t i) (A.2.1 i) (A.2.2 i)) := by
          refine q3.at h.dm (h.dc hi) (fun w => ?_)
          rcases w with w | w
          · exact hdi i (by omega) w.symm
          · obtain ⟨f, hf⟩ := (h.nv (i := i) (by omega)).ar
            have := h.dc hi
            rw [w, hf] at this
            cases this
        refine e_jn (fun z3 => z3 = bI (n && decide (0 < V m))) ?_ ?_
        · intro z3 hz3
          subst hz3
          have hb : isB (bI (n && decide (0 < V m))) = some () := by cases (n && decide (0 < V m)) <;> rfl
          refine e_b1 hb ?_
          refine e_b1 (pF_eq hD1 (Nat.le_of_ble_eq_true rfl)) ?_
          refine e_b1 (pF_eq stH_s (Nat.le_of_ble_eq_true rfl)) ?_
          rw [stH_stH, lZ_i]
          exact e_ret ⟨L', c', _, h1, h2, fun m hm => upA_n (by omega)⟩
        · intro k3 hk3
          refine e_jq ?_
          cases n with
          | false => exact e_t rfl (hk3 _ rfl)
          | true =>
            refine e_f (by decide) ?_
            refine e_b1 (gR_eq hD1 rfl) ?_
            refine e_b1 (t_isZero q1) ?_
            by_cases h0 : V m = 0
            · refine e_f (by rw [if_pos h0]; decide) (hk3 _ ?_)
              rw [decide_eq_false (by omega)]; rfl
            · refine e_t (by rw [if_neg h0]) (hk3 _ ?_)
              rw [decide_eq_true (by omega)]; rfl
      refine e_bd main ?_
      rintro u σ1 kc sc ⟨L', c', V', g1, g2, g3⟩
      refine e_ret ⟨rfl, L', c', V', g1, ?_, g3⟩
      exact g2.trans Rl.rf
    · have hfit : f_X5_fits σ (nA t m) (lZ z) = some 0 := by
        unfold f_X5_fits
        refine q_b1 (t_digitCount h.tn hnv) ?_
        by_cases hs : sz (V m) ≤ 4096
        · refine q_f (nI_nlt (a := 4096) (sz_nd.mp hs) (by decide)) ?_
          exact q_f (fun w => hc ⟨hs, (li_rt z1 z2).mp w⟩) rfl
        · have hle : nd (V m) < 2 ^ 31 := by
            obtain ⟨n', g, f, p1, p2, p3, p4, p5, p6, p7, p8⟩ := hnv.split
            have h9 : V m < 10 ^ 40000 := by
              rw [← p8]
              refine Nat.lt_of_lt_of_le (vl_lt p6) ?_
              rw [show BS = 10 ^ 9 from rfl, ← Nat.pow_mul]
              exact p10_le (by omega)
            have := (nd_le (x := V m) (d := 40000) (by decide)).mpr h9
            omega
          exact q_t (nI_lt (a := 4096) (Nat.not_le.mp fun w => hs (sz_nd.mpr w)) hle) rfl
      have ek : kpA i (V m) n z A = (0, A) := if_neg hc
      rw [ek]
      exact e_b1 hfit (e_t rfl (e_ret ⟨rfl, L, c, V, h, Rl.rf, fun _ _ => rfl⟩))
  · rw [onR_n e2]
    exact e_b1 e1 (e_t rfl (e_ret ⟨rfl, L, c, V, h, Rl.rf, fun _ _ => rfl⟩))
theorem t_ckeep {d : Int32} {m : Nat} {n : Bool} {z : Int} {a2 : Nat} {i3 : Int32} {j4 : Int64} (h : CI t σ L c V A T W) (hm : m < 11) (h2 : a2 = nA t m) (h3 : i3 = bI n) (h4 : j4 = lZ z) (z1 : -9223372036854775808 ≤ z) (z2 : z < 9223372036854775808) : Cc t σ L c (f_X5_keep σ t d a2 i3 j4) (kD d (V m) n z A) T W := by
  refine e_im (t_ckeepV (d := d) h hm h2 h3 h4 z1 z2) ?_
  rintro r σ1 k s ⟨e1, L', c', V', g1, g2, -⟩
  exact ⟨e1, L', c', V', g1, g2⟩
end CKs
