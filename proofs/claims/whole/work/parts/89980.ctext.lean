/-! ===== texts of the object; type ===== -/
theorem nar_b : ∀ x : Fin 127, vp_nar .byte ((nI x.1).toInt8.toInt32) = nI x.1 := by decide +kernel
def apW (T : TS) (x : Nat) : TS := (fun j => if j = T.2 then x else T.1 j, T.2 + 1)
section CT
variable {σ σ1 : St} {p l c : Nat} {T : TS}
theorem TT.ob (h : TT σ p l c T) : σ.1 p = some (TO l T.2) := h.1
theorem t_codeAt {j : Nat} {x : Int32} (h : TT σ p l c T) (hx : x = nI j) (hj : j < 100000) : f_X4_codeAt σ p x = some (if j < T.2 then nI (T.1 j) else -1) := by
  subst hx
  obtain ⟨h1, ⟨f, h2, h3⟩, h4, h5, h6, h7, h8⟩ := h
  unfold f_X4_codeAt
  refine q_ob h1 (q_f (nI_pos (by omega)) (q_b1 (gI_eq h1 rfl) ?_))
  by_cases hlt : j < T.2
  · rw [if_pos hlt]
    refine q_f (nI_ge hlt (by omega)) (q_b1 (gR_eq h1 rfl) (q_b1 (ldB_eq h2 rfl (by omega) (by omega)) ?_))
    rw [h3 j hlt]
  · rw [if_neg hlt]
    exact q_t (nI_le (by omega) (by omega)) rfl
theorem t_codeAtN {x : Int32} (h : TT σ p l c T) (hx : x < 0) : f_X4_codeAt σ p x = some (-1) := by
  unfold f_X4_codeAt
  exact q_ob h.1 (q_t hx rfl)
theorem t_hasSign {j : Nat} {x : Int32} (h : TT σ p l c T) (hx : x = nI j) (hj : j < 100000) : f_X4_hasSignAt σ p x = some (bI (decide (j < T.2 ∧ (T.1 j = 43 ∨ T.1 j = 45)))) := by
  unfold f_X4_hasSignAt
  refine q_ob h.1 (q_b1 (t_codeAt h hx hj) ?_)
  by_cases hlt : j < T.2
  · rw [if_pos hlt]
    have h8 := (h.2.2.2.2.2.2 j hlt).2
    by_cases h43 : T.1 j = 43
    · refine q_t ((c_eq h8 (d := 43) (by decide)).mpr h43) ?_
      rw [decide_eq_true ⟨hlt, Or.inl h43⟩]; rfl
    · refine q_f (fun w => h43 ((c_eq h8 (d := 43) (by decide)).mp w)) ?_
      by_cases h45 : T.1 j = 45
      · refine q_t ((c_eq h8 (d := 45) (by decide)).mpr h45) ?_
        rw [decide_eq_true ⟨hlt, Or.inr h45⟩]; rfl
      · refine q_f (fun w => h45 ((c_eq h8 (d := 45) (by decide)).mp w)) ?_
        rw [decide_eq_false (fun w => w.2.elim h43 h45)]; rfl
  · rw [if_neg hlt, decide_eq_false (fun w => hlt w.1)]
    exact q_f (by decide) (q_f (by decide) rfl)
theorem t_hasDigit {j : Nat} {x : Int32} (h : TT σ p l c T) (hx : x = nI j) (hj : j < T.2) : f_X4_hasDigitAt σ p x = some (bI (isD (T.1 j))) := by
  have h6 := h.2.2.2.2.2.1
  have h8 := (h.2.2.2.2.2.2 j hj).2
  unfold f_X4_hasDigitAt
  refine q_ob h.1 (q_b1 (t_codeAt h hx (by omega)) ?_)
  rw [if_pos hj]
  unfold isD
  by_cases h1 : 48 ≤ T.1 j
  · refine q_f (nI_nlt (a := T.1 j) (b := 48) h1 (by omega)) ?_
    by_cases h2 : T.1 j ≤ 57
    · refine q_f (nI_nlt (a := 57) h2 (by decide)) ?_
      rw [decide_eq_true h1, decide_eq_true h2]; rfl
    · refine q_t (nI_lt (a := 57) (by omega) (by omega)) ?_
      rw [decide_eq_false h2, Bool.and_false]; rfl
  · refine q_t (nI_lt (b := 48) (by omega) (by decide)) ?_
    rw [decide_eq_false h1, Bool.false_and]; rfl
theorem t_copyB {m : Nat} {f : Nat → Int32} {x : Int32} (hD : Dm σ) (hL : σ.1 l = some (BA c f)) (hx : x = nI m) (hc : c < m) (hm : m ≤ 1000000) : f_J7_copyOf_9075b σ l x = some (σ.2.1, stH (nwH σ (arB x)) σ.2.1 (BA m (va_cpy f (fun _ => 0) 0 0 c)), 1, m) := by
  subst hx
  unfold f_J7_copyOf_9075b
  have hne : l ≠ σ.2.1 := Nat.ne_of_lt (hD.lt hL)
  have hL1 : (nwH σ (arB (nI m))).1 l = some (BA c f) := (nwH_n hne).trans hL
  have ha : arB (nI m) = BA m (fun _ => 0) := by unfold arB; rw [nI_clamp (by omega)]
  have hN : (nwH σ (arB (nI m))).1 σ.2.1 = some (BA m (fun _ => 0)) := by rw [nwH_s, ha]
  refine q_b1 (aLn_eq hL) ?_
  refine q_f (fun z => by have := (nI_eq (by omega) (by omega)).mp z; omega) ?_
  refine q_b1 (lenOk_eq rfl hm) ?_
  have h := q_nw (σ := σ) (e := arB (nI m)) (n := (nI m).toNatClampNeg) (f := fun r2 σ3 => (aLn σ3 l).bind fun x4 => (f_J9_min_7cf53 σ3 x4 (nI m)).bind fun x5 => (cpyB σ3 l 0 r2 0 x5).bind fun σ6 => some (r2, σ6, 0, 0)) (r := σ.2.1) (σ2 := stH (nwH σ (arB (nI m))) σ.2.1 (BA m (va_cpy f (fun _ => 0) 0 0 c))) (k' := 0) (s' := 0) (by
    refine q_b1 (aLn_eq hL1) ?_
    refine q_b1 (j_min rfl rfl (by omega) (by omega)) ?_
    rw [Nat.min_eq_left (by omega)]
    refine q_b1 (cpyB_eq hL1 hN (sp := 0) (dp := 0) rfl rfl rfl (by omega) (by omega) (by omega) (by omega)) ?_
    rfl)
  rw [nI_clamp (by omega)] at h ⊢
  exact h
/-- behind a method on a text -/
def PT (σ : St) (p l c : Nat) (T' : TS) (m : Nat) : Unit → St → Nat → Nat → Prop := fun _ σ' k s => ∃ l' c', TT σ' p l' c' T' ∧ (l' = l ∨ σ.2.1 ≤ l') ∧ m ≤ c' ∧ Fr (fun q => q = p ∨ q = l) σ σ' ∧ c ≤ c' ∧ k ≤ s ∧ s + 2 * c ≤ 2 * c'
theorem t_tmr {m : Nat} {x : Int32} (hD : Dm σ) (h : TT σ p l c T) (hx : x = nI m) (hm : m ≤ 6000) : Ye (f_X4_makeRoom σ p x) (PT σ p l c T m) := by
  subst hx
  obtain ⟨h1, ⟨f, h2, h3⟩, h4, h5, h6, h7, h8⟩ := h
  unfold f_X4_makeRoom
  refine e_ob h1 (e_b1 (gR_eq h1 rfl) (e_b1 (aLn_eq h2) ?_))
  by_cases hle : m ≤ c
  · refine e_t (nI_le hle (by omega)) ?_
    exact e_ret ⟨l, c, ⟨h1, ⟨f, h2, h3⟩, h4, h5, h6, h7, h8⟩, Or.inl rfl, hle, Fr.rf, Nat.le_refl _, Nat.le_refl _, by omega⟩
  · refine e_f (nI_ge (by omega) (by omega)) ?_
    refine e_b1 (gR_eq h1 rfl) (e_b1 (gR_eq h1 rfl) (e_b1 (aLn_eq h2) ?_))
    refine e_b1 (j_max rfl (b := 2 * c) (by rw [show (2 : Int32) = nI 2 from rfl, pk_mul]) (by omega) (by omega)) ?_
    obtain ⟨M, hM⟩ : ∃ M, max m (2 * c) = M := ⟨_, rfl⟩
    rw [hM]
    have hcp := t_copyB (x := nI M) hD h2 rfl (by omega) (by omega)
    refine e_bd1 hcp ?_
    have hna : p ≠ σ.2.1 := Nat.ne_of_lt (hD.lt h1)
    have ha1 : (stH (nwH σ (arB (nI M))) σ.2.1 (BA M (va_cpy f (fun _ => 0) 0 0 c))).1 p = some (TO l T.2) := by rw [stH_n hna, nwH_n hna]; exact h1
    refine e_b1 (pF_eq ha1 (Nat.le_of_ble_eq_true rfl)) ?_
    refine e_ret ⟨σ.2.1, M, ⟨stH_s, ⟨va_cpy f (fun _ => 0) 0 0 c, ?_, fun j hj => ?_⟩, by omega, by omega, by omega, h7, h8⟩, Or.inr (Nat.le_refl _), by omega, ?_, by omega, by omega, by omega⟩
    · rw [stH_n hna.symm, stH_s]
    · rw [pk_cpy_in (Nat.zero_le _) (by omega)]
      rw [show 0 + (j - 0) = j by omega]
      exact h3 j hj
    · have f1 : Fr (fun q => q = p ∨ q = l) σ (nwH σ (arB (nI M))) := Fr.nw
      have f2 : Fr (fun q => q = σ.2.1) (nwH σ (arB (nI M))) (stH (nwH σ (arB (nI M))) σ.2.1 (BA M (va_cpy f (fun _ => 0) 0 0 c))) := Fr.st nwH_s rfl
      have f3 : Fr (fun q => q = p) _ (stH (stH (nwH σ (arB (nI M))) σ.2.1 (BA M (va_cpy f (fun _ => 0) 0 0 c))) p (.inr (.inl (4, [Value.ref l, .int (nI T.2)].set 0 (.ref σ.2.1))))) := Fr.st ha1 rfl
      exact (f1.trans f2 (fun q h z => absurd z (Nat.ne_of_lt h))).trans f3 (fun q _ z => Or.inl z)
theorem t_tap {c' : Nat} {x : Int32} (hD : Dm σ) (h : TT σ p l c T) (hx : x = nI c') (h0 : 0 < c') (h126 : c' ≤ 126) (hT : T.2 < 6000) : Ye (f_X4_append σ p x) (PT σ p l c (apW T c') (T.2 + 1)) := by
  subst hx
  unfold f_X4_append
  refine e_ob h.1 (e_b1 (gI_eq h.1 rfl) ?_)
  refine e_bd (t_tmr hD h (nI_1 _) (by omega)) ?_
  rintro u σ1 kc sc ⟨l1, c1, g1, g2, g3, g4, g5, g6, g7⟩
  obtain ⟨h1, ⟨f, h2, h3⟩, h4, h5, h6, h7, h8⟩ := id g1
  refine e_b1 (gR_eq h1 rfl) (e_b1 (gI_eq h1 rfl) ?_)
  refine e_b1 (stB_eq h2 rfl (by omega) (by omega)) ?_
  rw [nar_b ⟨c', by omega⟩]
  have hne : p ≠ l1 := fun w => by rw [w, h2] at h1; cases h1
  have hp1 : (stH σ1 l1 (BA c1 (upd f T.2 (nI c')))).1 p = some (TO l1 T.2) := by rw [stH_n hne]; exact h1
  refine e_b1 (gI_eq hp1 rfl) (e_b1 (pF_eq hp1 (Nat.le_of_ble_eq_true rfl)) ?_)
  refine e_ret ⟨l1, c1, ⟨?_, ⟨upd f T.2 (nI c'), ?_, fun j hj => ?_⟩, g3, h5, h6, by show T.2 + 1 ≤ 6000; omega, fun j hj => ?_⟩, g2, g3, ?_, g5, by omega, by omega⟩
  · rw [stH_s]
    show some ((.inr (.inl (4, [Value.ref l1, .int (nI T.2 + 1)]))) : Cel) = some (TO l1 (T.2 + 1))
    rw [nI_1]
  · rw [stH_n hne.symm, stH_s]
  · have hj' : j < T.2 + 1 := hj
    show upd f T.2 (nI c') j = nI (if j = T.2 then c' else T.1 j)
    by_cases e : j = T.2
    · rw [if_pos e, e, pk_us]
    · rw [if_neg e, pk_un e]; exact h3 j (by omega)
  · have hj' : j < T.2 + 1 := hj
    show 0 < (if j = T.2 then c' else T.1 j) ∧ (if j = T.2 then c' else T.1 j) ≤ 126
    by_cases e : j = T.2
    · rw [if_pos e]; exact ⟨h0, h126⟩
    · rw [if_neg e]; exact h8 j (by omega)
  · have f1 : Fr (fun q => q = l1) σ1 (stH σ1 l1 (BA c1 (upd f T.2 (nI c')))) := Fr.st h2 rfl
    have f2 : Fr (fun q => q = p) _ (stH (stH σ1 l1 (BA c1 (upd f T.2 (nI c')))) p (.inr (.inl (4, [Value.ref l1, .int (nI T.2)].set 1 (.int (nI T.2 + 1)))))) := Fr.st hp1 rfl
    refine (g4.trans f1 (fun q hq w => ?_)).trans f2 (fun q _ w => Or.inl w)
    rcases g2 with z | z
    · exact Or.inr (w.trans z)
    · omega
end CT
section CT2
variable {t : Nat} {σ σ1 : St} {L c V L1 c1 : Nat → Nat} {A : AS} {T W T1 W1 : TS} {k s : Nat}
/-- the texts, the numeral, the layout have changed -/
theorem CI.upT (h : CI t σ L c V A T W) {S : Nat → Prop} (hF : Fr S σ σ1) (hS : ∀ q, S q → q = t + 8 ∨ q = L 11 ∨ q = t + 10 ∨ q = L 12 ∨ q = t + 12 ∨ q = t + 13) (hty : TT σ1 (t + 8) (L1 11) (c1 11) T1) (hla : TT σ1 (t + 10) (L1 12) (c1 12) W1) (hnu : ∃ a b e h x, σ1.1 (t + 12) = some (NO a b e h x)) (hly : ∃ a b u v w x, σ1.1 (t + 13) = some (LO a b u v w x)) (hsame : ∀ i, i < 11 → L1 i = L i ∧ c1 i = c i) (hL : ∀ i, i < 13 → L1 i = L i ∨ σ.2.1 ≤ L1 i) (hn : L1 11 ≠ L1 12) : CI t σ1 L1 c1 V A T1 W1 := by
  obtain ⟨t1, ⟨tf, t2, -⟩, -⟩ := h.ty
  obtain ⟨w1, ⟨wf, w2, -⟩, -⟩ := h.la
  obtain ⟨n1, n2, n3, n4, n5, n6⟩ := h.nu
  obtain ⟨y1, y2, y3, y4, y5, y6, y7⟩ := h.ly
  have ns : ∀ {p : Nat} {e : Cel}, σ.1 p = some e → (∀ l n, e ≠ TO l n) → (∀ d f, e ≠ BA d f) → (∀ a b d f x, e ≠ NO a b d f x) → (∀ a b u v w x, e ≠ LO a b u v w x) → ¬ S p := fun {p e} hp h1 h2 h3 h4 w => by
    rcases hS p w with w | w | w | w | w | w
    · rw [w, t1] at hp; injection hp with hp; exact h1 _ _ hp.symm
    · rw [w, t2] at hp; injection hp with hp; exact h2 _ _ hp.symm
    · rw [w, w1] at hp; injection hp with hp; exact h1 _ _ hp.symm
    · rw [w, w2] at hp; injection hp with hp; exact h2 _ _ hp.symm
    · rw [w, n6] at hp; injection hp with hp; exact h3 _ _ _ _ _ hp.symm
    · rw [w, y7] at hp; injection hp with hp; exact h4 _ _ _ _ _ _ hp.symm
  have hnO : ∀ i, i < 11 → ¬ S (nA t i) := fun i hi => by
    obtain ⟨n, hn⟩ := (h.nv hi).ob
    exact ns hn (fun _ _ z => by cases z) (fun _ _ z => by cases z) (fun _ _ _ _ _ z => by cases z) (fun _ _ _ _ _ _ z => by cases z)
  have hnA : ∀ i, i < 11 → ¬ S (L i) := fun i hi => by
    obtain ⟨f, hf⟩ := (h.nv hi).ar
    exact ns hf (fun _ _ z => by cases z) (fun _ _ z => by cases z) (fun _ _ _ _ _ z => by cases z) (fun _ _ _ _ _ _ z => by cases z)
  refine ⟨h.ok, fun i hi => ?_, fun i hi => h.rv hi, fun i j hi hj n => ?_, ?_, ?_, fun i hi => ?_, hty, hla, hnu, hly, ?_, hF.2.2.2 h.dm⟩
  · rw [(hsame i hi).1, (hsame i hi).2]
    exact ⟨(h.nv hi).fr h.dm hF (hnO i hi) (hnA i hi), (h.2.1 i hi).2⟩
  · by_cases hi11 : i < 11
    · rw [(hsame i hi11).1]
      by_cases hj11 : j < 11
      · rw [(hsame j hj11).1]; exact h.inj hi hj n
      · rcases hL j hj with w | w
        · rw [w]; exact h.inj hi hj n
        · have := h.lt hi; omega
    · by_cases hj11 : j < 11
      · rw [(hsame j hj11).1]
        rcases hL i hi with w | w
        · rw [w]; exact h.inj hi hj n
        · have := h.lt hj; omega
      · have hh : (i = 11 ∧ j = 12) ∨ (i = 12 ∧ j = 11) := by omega
        rcases hh with ⟨rfl, rfl⟩ | ⟨rfl, rfl⟩
        · exact hn
        · exact hn.symm
  · exact hF.at h.dm h.t5 (ns h.t5 (fun _ _ z => by cases z) (fun _ _ z => by cases z) (fun _ _ _ _ _ z => by cases z) (fun _ _ _ _ _ _ z => by cases z))
  · obtain ⟨f, h1, h2⟩ := h.rg
    exact ⟨f, hF.at h.dm h1 (ns h1 (fun _ _ z => by cases z) (fun _ _ z => by cases z) (fun _ _ _ _ _ z => by cases z) (fun _ _ _ _ _ _ z => by cases z)), h2⟩
  · exact hF.at h.dm (h.dc hi) (ns (h.dc hi) (fun _ _ z => by cases z) (fun _ _ z => by cases z) (fun _ _ _ _ _ z => by cases z) (fun _ _ _ _ _ _ z => by cases z))
  · obtain ⟨f, q1, q2⟩ := h.tn
    refine h.tn.fr h.dm hF (ns q1 (fun _ _ z => by cases z) (fun _ _ z => by cases z) (fun _ _ _ _ _ z => by cases z) (fun _ _ _ _ _ _ z => by cases z))
theorem TT.fr {S : Nat → Prop} {p l d : Nat} (h : TT σ p l d T) (hD : Dm σ) (hF : Fr S σ σ1) (hp : ¬ S p) (hl : ¬ S l) : TT σ1 p l d T := by
  obtain ⟨h1, ⟨f, h2, h3⟩, h4⟩ := h
  exact ⟨hF.at hD h1 hp, ⟨f, hF.at hD h2 hl, h3⟩, h4⟩
/-- the typed text has changed -/
theorem CI.pt (h : CI t σ L c V A T W) {m : Nat} {u : Unit} (hP : PT σ (t + 8) (L 11) (c 11) T1 m u σ1 k s) : ∃ L' c', CI t σ1 L' c' V A T1 W ∧ Rl t σ L c σ1 L' c' k s ∧ m ≤ c' 11 := by
  obtain ⟨La, ca, q1, q2, q3, q4, q5, q6, q7⟩ := hP
  obtain ⟨t1, ⟨tf, t2, -⟩, -⟩ := h.ty
  obtain ⟨w1, ⟨wf, w2, -⟩, -⟩ := h.la
  obtain ⟨n1, n2, n3, n4, n5, n6⟩ := h.nu
  obtain ⟨y1, y2, y3, y4, y5, y6, y7⟩ := h.ly
  have hL : ∀ j, j < 13 → upA L 11 La j = L j ∨ σ.2.1 ≤ upA L 11 La j := fun j hj => by
    by_cases e : j = 11
    · subst e; rw [upA_s]; exact q2
    · rw [upA_n e]; exact Or.inl rfl
  have l12 := h.lt (i := 12) (by decide)
  refine ⟨upA L 11 La, upA c 11 ca, h.upT q4 (fun q w => w.elim Or.inl (fun z => Or.inr (Or.inl z))) (by rw [upA_s, upA_s]; exact q1) ?_ ⟨n1, n2, n3, n4, n5, q4.at h.dm n6 (fun w => ?_)⟩ ⟨y1, y2, y3, y4, y5, y6, q4.at h.dm y7 (fun w => ?_)⟩ (fun i hi => ⟨upA_n (by omega), upA_n (by omega)⟩) hL ?_, ⟨q4.mono (fun q _ w => ?_), hL, q6, ?_⟩, by rw [upA_s]; exact q3⟩
  · rw [upA_n (by decide), upA_n (by decide)]
    refine h.la.fr h.dm q4 (fun w => ?_) (fun w => ?_)
    · rcases w with w | w
      · omega
      · rw [w, t2] at w1; cases w1
    · rcases w with w | w
      · rw [w, t1] at w2; cases w2
      · exact h.inj (by decide) (by decide) (by decide) w
  · rcases w with w | w
    · omega
    · rw [w, t2] at n6; cases n6
  · rcases w with w | w
    · omega
    · rw [w, t2] at y7; cases y7
  · rw [upA_s, upA_n (by decide)]
    rcases q2 with w | w
    · rw [w]; exact h.inj (by decide) (by decide) (by decide)
    · omega
  · rcases w with w | w
    · exact Or.inl (by omega)
    · exact Or.inr ⟨11, by decide, w⟩
  · have := sm_up (c := c) (i := 11) (v := ca) (by omega)
    omega
/-- the laid text has changed -/
theorem CI.pl (h : CI t σ L c V A T W) {m : Nat} {u : Unit} (hP : PT σ (t + 10) (L 12) (c 12) W1 m u σ1 k s) : ∃ L' c', CI t σ1 L' c' V A T W1 ∧ Rl t σ L c σ1 L' c' k s ∧ m ≤ c' 12 := by
  obtain ⟨La, ca, q1, q2, q3, q4, q5, q6, q7⟩ := hP
  obtain ⟨t1, ⟨tf, t2, -⟩, -⟩ := h.ty
  obtain ⟨w1, ⟨wf, w2, -⟩, -⟩ := h.la
  obtain ⟨n1, n2, n3, n4, n5, n6⟩ := h.nu
  obtain ⟨y1, y2, y3, y4, y5, y6, y7⟩ := h.ly
  have hL : ∀ j, j < 13 → upA L 12 La j = L j ∨ σ.2.1 ≤ upA L 12 La j := fun j hj => by
    by_cases e : j = 12
    · subst e; rw [upA_s]; exact q2
    · rw [upA_n e]; exact Or.inl rfl
  have l11 := h.lt (i := 11) (by decide)
  refine ⟨upA L 12 La, upA c 12 ca, h.upT q4 (fun q w => w.elim (fun z => Or.inr (Or.inr (Or.inl z))) (fun z => Or.inr (Or.inr (Or.inr (Or.inl z))))) ?_ (by rw [upA_s, upA_s]; exact q1) ⟨n1, n2, n3, n4, n5, q4.at h.dm n6 (fun w => ?_)⟩ ⟨y1, y2, y3, y4, y5, y6, q4.at h.dm y7 (fun w => ?_)⟩ (fun i hi => ⟨upA_n (by omega), upA_n (by omega)⟩) hL ?_, ⟨q4.mono (fun q _ w => ?_), hL, q6, ?_⟩, by rw [upA_s]; exact q3⟩
  · rw [upA_n (by decide), upA_n (by decide)]
    refine h.ty.fr h.dm q4 (fun w => ?_) (fun w => ?_)
    · rcases w with w | w
      · omega
      · rw [w, w2] at t1; cases t1
    · rcases w with w | w
      · rw [w, w1] at t2; cases t2
      · exact h.inj (by decide) (by decide) (by decide) w
  · rcases w with w | w
    · omega
    · rw [w, w2] at n6; cases n6
  · rcases w with w | w
    · omega
    · rw [w, w2] at y7; cases y7
  · rw [upA_s, upA_n (by decide)]
    rcases q2 with w | w
    · rw [w]; exact h.inj (by decide) (by decide) (by decide)
    · omega
  · rcases w with w | w
    · exact Or.inl (by omega)
    · exact Or.inr ⟨12, by decide, w⟩
  · have := sm_up (c := c) (i := 12) (v := ca) (by omega)
    omega
theorem t_cty1 {u : Int64} : ∀ (f k n : Nat), k < f → n + k ≤ 8 → f_X5_type_L6 f σ t u (nI n) (nI (8 * k) + (-8)) = some (if gdF u k = true then .inr (nI (n + cnF u k)) else .inl ()) := by
  intro f
  induction f with
  | zero => intro k n h; omega
  | succ f ih =>
    intro k n hf hk
    show b_X5_type_L6 (f_X5_type_L6 f) _ t _ _ _ = _
    unfold b_X5_type_L6
    cases k with
    | zero =>
      refine q_t (by decide) ?_
      rfl
    | succ k =>
      have e8 : nI (8 * (k + 1)) + (-8) = nI (8 * k) := by
        rw [show (-8 : Int32) = -(nI 8) from rfl, ← Int32.sub_eq_add_neg, pk_sub (by omega)]
        congr 1
      rw [e8]
      refine q_f (nI_pos (by omega)) ?_
      refine q_le (cd_c (by omega)) ?_
      have hc := cdB_lt u k
      have hcn := cn_le (u := u) k
      have eg : gdF u (k + 1) = (gdF u k && decide (cdB u k ≤ 126)) := rfl
      have ec : cnF u (k + 1) = cnF u k + (if cdB u k = 0 then 0 else 1) := rfl
      rw [eg, ec]
      by_cases h126 : cdB u k ≤ 126
      · refine q_t (nI_le (b := 126) h126 (by decide)) ?_
        rw [decide_eq_true h126, Bool.and_true]
        refine q_jn ?_
        by_cases h0 : cdB u k = 0
        · refine q_t (by rw [h0]; rfl) (q_lt ?_)
          rw [if_pos h0, Nat.add_zero]
          exact ih k n (by omega) (by omega)
        · refine q_f (nI_ne0 (by omega) (by omega)) (q_le (nI_1 n) (q_lt ?_))
          rw [if_neg h0, show n + (cnF u k + 1) = n + 1 + cnF u k by omega]
          exact ih k (n + 1) (by omega) (by omega)
      · refine q_f (nI_ge (a := 126) (by omega) (by omega)) ?_
        rw [decide_eq_false h126, Bool.and_false, if_neg (by decide)]
theorem t_cty2 {u : Int64} (hg : gdF u 8 = true) : ∀ (f k : Nat) (σ : St) (L c : Nat → Nat) (T : TS), k < f → k ≤ 8 → CI t σ L c V A T W → T.2 + cnF u k ≤ 6000 → Ye (f_X5_type_L82 f σ t u (nI (8 * k) + (-8))) (fun _ σ' k' s' => ∃ L' c', CI t σ' L' c' V A (tyF u k T) W ∧ Rl t σ L c σ' L' c' k' s') := by
  intro f
  induction f with
  | zero => intro k σ L c T h; omega
  | succ f ih =>
    intro k σ L c T hf hk h hle
    show Ye (b_X5_type_L82 (f_X5_type_L82 f) _ t _ _) _
    unfold b_X5_type_L82
    cases k with
    | zero => exact e_t (by decide) (e_ret ⟨L, c, h, Rl.rf⟩)
    | succ k =>
      have e8 : nI (8 * (k + 1)) + (-8) = nI (8 * k) := by
        rw [show (-8 : Int32) = -(nI 8) from rfl, ← Int32.sub_eq_add_neg, pk_sub (by omega)]
        congr 1
      rw [e8]
      refine e_f (nI_pos (by omega)) (e_le (cd_c (by omega)) (e_jq ?_))
      have hc := cdB_lt u k
      have hc6 := gd_le hg k (by omega)
      have ec : cnF u (k + 1) = cnF u k + (if cdB u k = 0 then 0 else 1) := rfl
      rw [ec] at hle
      have et : tyF u (k + 1) T = tyF u k (apT T (cdB u k)) := rfl
      rw [et]
      unfold apT
      by_cases h0 : cdB u k = 0
      · rw [if_pos h0] at hle ⊢
        exact e_t (by rw [h0]; rfl) (e_lt (ih k σ L c T (by omega) (by omega) h (by omega)))
      · rw [if_neg h0] at hle ⊢
        refine e_f (nI_ne0 (by omega) (by omega)) (e_b1 h.g4 ?_)
        refine e_bd (t_tap h.dm h.ty rfl (by omega) hc6 (by omega)) ?_
        rintro r σ1 kc sc hP
        obtain ⟨L1, c1, g1, g2, -⟩ := h.pt hP
        refine e_lt (e_im (ih k σ1 L1 c1 (apW T (cdB u k)) (by omega) (by omega) g1 (by show T.2 + 1 + cnF u k ≤ 6000; omega)) ?_)
        rintro r σ2 k' s' ⟨L2, c2, g3, g4⟩
        exact ⟨L2, c2, g3, g2.trans g4⟩
theorem t_ctype {u : Int64} (h : CI t σ L c V A T W) : Cc t σ L c (f_X5_type σ t u) ((sType T u).1, A) (sType T u).2 W := by
  have hF := FU_ge
  have e1 := t_cty1 (σ := σ) (t := t) (u := u) FU 8 0 (by omega) (by omega)
  rw [Nat.zero_add] at e1
  have hcn := cn_le (u := u) 8
  have hT6 := h.ty.2.2.2.2.2.1
  unfold f_X5_type sType
  refine e_ob h.t5 (e_b1 e1 ?_)
  by_cases hg : gdF u 8 = true
  · rw [if_pos hg]
    refine e_b1 h.g4 (e_b1 (gI_eq h.ty.1 rfl) ?_)
    by_cases hle : T.2 + cnF u 8 ≤ 6000
    · rw [if_pos (c := gdF u 8 = true ∧ T.2 + cnF u 8 ≤ 6000) ⟨hg, hle⟩]
      refine e_t (by rw [nI_add]; exact nI_le (b := 6000) hle (by decide)) ?_
      refine e_b1 h.g4 (e_b1 h.g4 (e_b1 (gI_eq h.ty.1 rfl) ?_))
      refine e_bd (t_tmr h.dm h.ty (nI_add _ _) hle) ?_
      rintro r σ1 kc sc hP
      obtain ⟨L1, c1, g1, g2, -⟩ := h.pt hP
      refine e_bd (t_cty2 hg FU 8 σ1 L1 c1 T (by omega) (by omega) g1 hle) ?_
      rintro r σ2 k' s' ⟨L2, c2, g3, g4⟩
      refine e_ret ⟨rfl, L2, c2, V, g3, ?_⟩
      exact g2.trans (g4.trans Rl.rf)
    · rw [if_neg (c := gdF u 8 = true ∧ T.2 + cnF u 8 ≤ 6000) (fun w => hle w.2)]
      refine e_f (by rw [nI_add]; exact nI_ge (a := 6000) (by omega) (by omega)) ?_
      exact e_ret ⟨rfl, L, c, V, h, Rl.rf⟩
  · rw [if_neg hg, if_neg (fun w => hg w.1)]
    exact e_ret ⟨rfl, L, c, V, h, Rl.rf⟩
theorem t_cchar {x : Int32} (h : CI t σ L c V A T W) : f_X5_characterAt σ t x = some (sChar W x) := by
  have h6 := h.la.2.2.2.2.2.1
  unfold f_X5_characterAt sChar
  refine q_ob h.t5 (q_b1 h.g5 ?_)
  by_cases hx : x < 0
  · refine q_b1 (t_codeAtN h.la hx) ?_
    rw [if_neg (fun w => Int32.not_lt.mpr w.1 hx)]
  · obtain ⟨j, hj, rfl⟩ := nI_of hx
    by_cases hlt : j < W.2
    · refine q_b1 (t_codeAt h.la rfl (by omega)) ?_
      rw [if_pos hlt, if_pos ⟨nI_pos' (by omega), nI_lt hlt (by omega)⟩, nI_clamp (by omega)]
    · have hn : ¬ nI j < nI W.2 := fun w => hlt ((nI_ltI (by omega) (by omega)).mp w)
      rw [if_neg (fun w => hn w.2)]
      unfold f_X4_codeAt
      refine q_b1 (q_ob h.la.1 (q_f hx (q_b1 (gI_eq h.la.1 rfl) (q_t (nI_le (by omega) (by omega)) rfl)))) rfl
end CT2
