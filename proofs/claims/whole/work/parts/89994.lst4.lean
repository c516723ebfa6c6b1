section ST4
variable {σ : St}
/-- both objects, and the script -/
def LI (t b N : Nat) (xs : Nat → Int32) (σ : St) (L c V : Nat → Nat) (A : AS) (T W : TS) (X : Nat → Nat → Int32) (A2 : AS) (T2 W2 : TS) : Prop := CI t σ L c V A T W ∧ mst σ (t + 38) X = σ ∧ RG X A2 ∧ TX X T2 ∧ WX X W2 ∧ σ.1 b = some (.inr (.inr (N, xs))) ∧ (∀ i, i < 13 → L i < t + 38 ∨ t + 47 ≤ L i) ∧ t + 47 ≤ σ.2.1 ∧ b < t
abbrev Po (c : Nat → Nat) : Unit → St → Nat → Nat → Prop := fun _ _ k s => k ≤ s ∧ s + 2 * sm c ≤ 136000
section LIs
variable {t b N : Nat} {xs : Nat → Int32} {L c V : Nat → Nat} {A A2 : AS} {T W T2 W2 T' W' : TS} {X : Nat → Nat → Int32} {R : Int32 × AS}
theorem CI.fr0 {σ1 : St} (h : CI t σ L c V A T W) (hF : Fr (fun _ => False) σ σ1) : CI t σ1 L c V A T W := h.upd hF (fun q w => w.elim) (fun i _ i2 => (h.nv i2).fr h.dm hF id id) (fun _ _ _ => ⟨rfl, rfl⟩) (fun _ _ => rfl) (fun _ _ => Or.inl rfl) (fun i j _ i2 _ j2 n => h.inj (by omega) (by omega) n) (fun _ _ => Nat.le_refl _)
theorem CI.smb (h : CI t σ L c V A T W) : sm c ≤ 68000 := by
  have cap : ∀ i, i < 11 → c i ≤ 4000 := fun i hi => (h.nv hi).cap
  have c11 := h.ty.2.2.2.2.1
  have c12 := h.la.2.2.2.2.1
  have q0 := cap 0 (by decide)
  have q1 := cap 1 (by decide)
  have q2 := cap 2 (by decide)
  have q3 := cap 3 (by decide)
  have q4 := cap 4 (by decide)
  have q5 := cap 5 (by decide)
  have q6 := cap 6 (by decide)
  have q7 := cap 7 (by decide)
  have q8 := cap 8 (by decide)
  have q9 := cap 9 (by decide)
  have q10 := cap 10 (by decide)
  unfold sm
  omega
/-- a call of the object -/
theorem ls_c {e : Rs Int32} {f : Int32 → St → Rs Unit} (h : LI t b N xs σ L c V A T W X A2 T2 W2) (he : Cc t σ L c e R T' W') (kk : ∀ σ1 L1 c1 V1, LI t b N xs σ1 L1 c1 V1 R.2 T' W' X A2 T2 W2 → Ye (f R.1 σ1) (Po c1)) : Ye (bd e f) (Po c) := by
  obtain ⟨h1, h2, h3, h4, h5, h6, h7, h8, h9⟩ := h
  refine e_bd he ?_
  rintro a σ1 kc sc ⟨rfl, L1, c1, V1, g1, g2, g3, g4, g5⟩
  have keep : ∀ q, t + 38 ≤ q → q < t + 47 → σ1.1 q = σ.1 q := fun q q1 q2 => g2.1 q (by omega) (fun w => by
    rcases w with w | ⟨i, hi, w⟩
    · omega
    · have := h7 i hi; omega)
  have hms : mst σ1 (t + 38) X = σ1 := by
    refine mst_self ?_ (fun k k1 k2 => ?_)
    · rw [keep _ (by omega) (by omega), ← h2]; exact m_o
    · rw [keep _ (by omega) (by omega), ← h2]; exact m_a k1 k2
  refine e_im (kk σ1 L1 c1 V1 ⟨g1, hms, h3, h4, h5, ?_, fun i hi => ?_, Nat.le_trans h8 g2.2.1, h9⟩) ?_
  · refine g2.at h1.dm h6 (fun w => ?_)
    rcases w with w | ⟨i, hi, w⟩
    · omega
    · by_cases i11 : i < 11
      · obtain ⟨f', hf⟩ := (h1.nv i11).ar
        rw [w, hf] at h6; cases h6
      · have e : i = 11 ∨ i = 12 := by omega
        rcases e with rfl | rfl
        · obtain ⟨-, ⟨f', hf, -⟩, -⟩ := h1.ty
          rw [w, hf] at h6; cases h6
        · obtain ⟨-, ⟨f', hf, -⟩, -⟩ := h1.la
          rw [w, hf] at h6; cases h6
  · rcases g3 i hi with w | w
    · rw [w]; exact h7 i hi
    · exact Or.inr (by omega)
  · rintro r σ2 k' s' ⟨z1, z2⟩
    exact ⟨by omega, by omega⟩
/-- the object beside a changed reference -/
theorem CI.ms {X' : Nat → Nat → Int32} (h : LI t b N xs σ L c V A T W X A2 T2 W2) : CI t (mst σ (t + 38) X') L c V A T W ∧ (mst σ (t + 38) X').1 b = some (.inr (.inr (N, xs))) := by
  obtain ⟨h1, h2, h3, h4, h5, h6, h7, h8, h9⟩ := h
  have hF : Fr (fun q => t + 38 ≤ q ∧ q < t + 47) σ (mst σ (t + 38) X') := by
    refine ⟨fun q hq hn => ?_, Nat.le_refl _, rfl, fun d q hq => ?_⟩
    · show (if q = t + 38 then some (mob (t + 38) X') else if t + 38 < q ∧ q ≤ t + 38 + 8 then some (AA (ln (q - (t + 38))) (X' (q - (t + 38)))) else σ.1 q) = _
      rw [if_neg (by omega), if_neg (by omega)]
    · have hq' : σ.2.1 ≤ q := hq
      show (if q = t + 38 then some (mob (t + 38) X') else if t + 38 < q ∧ q ≤ t + 38 + 8 then some (AA (ln (q - (t + 38))) (X' (q - (t + 38)))) else σ.1 q) = none
      rw [if_neg (by omega), if_neg (by omega)]
      exact d q hq'
  have at' : ∀ {q : Nat} {e : Cel}, σ.1 q = some e → (q < t + 38 ∨ t + 47 ≤ q) → (mst σ (t + 38) X').1 q = some e := fun {q e} hq hn => hF.at h1.dm hq (fun w => by omega)
  have hnA : ∀ i, i < 11 → nA t i < t + 38 := fun i hi => (nA_in hi).2
  have hTt : ¬ (t + 38 ≤ σ.2.2 ∧ σ.2.2 < t + 47) := fun w => by
    obtain ⟨f', q1, q2⟩ := h1.tn
    have hx : σ.1 σ.2.2 = (mst σ (t + 38) X).1 σ.2.2 := by rw [h2]
    rw [hx] at q1
    by_cases e : σ.2.2 = t + 38
    · rw [e, m_o] at q1; cases q1
    · obtain ⟨k, hk⟩ : ∃ k, σ.2.2 = t + 38 + k := ⟨σ.2.2 - (t + 38), by omega⟩
      rw [hk, m_a (by omega) (by omega)] at q1; cases q1
  refine ⟨⟨h1.ok, fun i hi => ⟨?_, (h1.2.1 i hi).2⟩, fun i hi => h1.rv hi, h1.2.2.2.1, at' h1.t5 (by omega), ?_, fun i hi => at' (h1.dc hi) (by unfold dA; omega), ?_, ?_, ?_, ?_, ?_, hF.2.2.2 h1.dm⟩, at' h6 (by omega)⟩
  · have := hnA i hi
    have h7i := h7 i (by omega)
    exact (h1.nv hi).fr h1.dm hF (fun w => by omega) (fun w => by omega)
  · obtain ⟨f', q1, q2⟩ := h1.rg
    exact ⟨f', at' q1 (by omega), q2⟩
  · obtain ⟨q1, ⟨f', q2, q3⟩, q4⟩ := h1.ty
    exact ⟨at' q1 (by omega), ⟨f', at' q2 (h7 11 (by decide)), q3⟩, q4⟩
  · obtain ⟨q1, ⟨f', q2, q3⟩, q4⟩ := h1.la
    exact ⟨at' q1 (by omega), ⟨f', at' q2 (h7 12 (by decide)), q3⟩, q4⟩
  · obtain ⟨n1, n2, n3, n4, n5, n6⟩ := h1.nu
    exact ⟨n1, n2, n3, n4, n5, at' n6 (by omega)⟩
  · obtain ⟨y1, y2, y3, y4, y5, y6, y7⟩ := h1.ly
    exact ⟨y1, y2, y3, y4, y5, y6, at' y7 (by omega)⟩
  · exact h1.tn.fr h1.dm hF hTt
/-- a call of the reference -/
theorem ls_m {e : Rs Int32} {f : Int32 → St → Rs Unit} {v : Int32} (h : LI t b N xs σ L c V A T W X A2 T2 W2) (he : Mt σ (t + 38) e v A T W) (kk : ∀ σ1 X', LI t b N xs σ1 L c V A T W X' A T W → Ye (f v σ1) (Po c)) : Ye (bd e f) (Po c) := by
  obtain ⟨X', g1, g2, g3, g4⟩ := he
  obtain ⟨c1, s1⟩ := CI.ms (X' := X') h
  obtain ⟨h1, h2, h3, h4, h5, h6, h7, h8, h9⟩ := h
  refine e_bd0 g1 (kk _ X' ⟨c1, ?_, g2, g3, g4, s1, h7, h8, h9⟩)
  refine mst_self m_o (fun k k1 k2 => m_a k1 k2)
/-- the script's ints -/
theorem LI.rd (h : LI t b N xs σ L c V A T W X A2 T2 W2) {i : Nat} {x : Int32} (hx : x = nI i) (hi : i < N) (hN : N ≤ 3072) : ldI σ b x = some (xs i) := by
  subst hx
  obtain ⟨h1, h2, h3, h4, h5, h6, h7, h8, h9⟩ := h
  unfold ldI
  rw [h6]
  show (if nI i < 0 ∨ N ≤ (nI i).toNatClampNeg then none else some (xs (nI i).toNatClampNeg)) = _
  rw [nI_clamp (by omega), if_neg (fun w => w.elim (nI_pos (by omega)) (fun z => by omega))]
theorem LI.mo (h : LI t b N xs σ L c V A T W X A2 T2 W2) {e : Rs Int32} {R : Int32 × AS} (hm : Mo σ (t + 38) X e R) : Mt σ (t + 38) e R.1 R.2 T2 W2 := Mt.of hm h.2.2.2.1 h.2.2.2.2.1
end LIs
end ST4
