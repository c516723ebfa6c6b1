/-! ===== the object x of the law: its cells ===== -/
abbrev BA (c : Nat) (f : Nat → Int32) : Cel := .inl (.byte, c, .inl f)
abbrev DO (n : Nat) (b : Bool) (s : Int) : Cel := .inr (.inl (0, [.ref n, .int (bI b), .int (iZ s)]))
abbrev TO (l n : Nat) : Cel := .inr (.inl (4, [.ref l, .int (nI n)]))
abbrev NO (a b e h : Int32) (x : Int64) : Cel := .inr (.inl (3, [.int a, .int b, .int e, .int h, .long x]))
abbrev LO (a b : Int32) (u v w x : Int64) : Cel := .inr (.inl (1, [.int a, .int b, .long u, .long v, .long w, .long x]))
abbrev T5 (t : Nat) : Cel := .inr (.inl (5, [.ref (t + 1), .ref (t + 2), .ref (t + 4), .ref (t + 6), .ref (t + 8), .ref (t + 10), .ref (t + 12), .ref (t + 13)]))
abbrev RA (f : Nat → Option Nat) : Cel := .inl (.object "TensMill$Decimal", 8, .inr (.inr (.inr (.inr f))))
/-- the Naturals: those of the eight registers, then work, quotient, spare -/
def nA (t i : Nat) : Nat := if i < 8 then t + 15 + 3 * i else t + 2 + 2 * (i - 8)
def dA (t i : Nat) : Nat := t + 14 + 3 * i
theorem nA_inj {t i j : Nat} (hi : i < 11) (hj : j < 11) (h : i ≠ j) : nA t i ≠ nA t j := by
  unfold nA
  split <;> split <;> omega
theorem nA_8 {t : Nat} : nA t 8 = t + 2 := rfl
theorem nA_9 {t : Nat} : nA t 9 = t + 4 := rfl
theorem nA_10 {t : Nat} : nA t 10 = t + 6 := rfl
/-- a text object and its row of codes -/
def TT (σ : St) (p l c : Nat) (T : TS) : Prop := σ.1 p = some (TO l T.2) ∧ (∃ f, σ.1 l = some (BA c f) ∧ ∀ j, j < T.2 → f j = nI (T.1 j)) ∧ T.2 ≤ c ∧ 16 ≤ c ∧ c ≤ 12000 ∧ T.2 ≤ 6000 ∧ ∀ j, j < T.2 → 0 < T.1 j ∧ T.1 j ≤ 126
def CI (t : Nat) (σ : St) (L c V : Nat → Nat) (A : AS) (T W : TS) : Prop :=
  okA A ∧ (∀ i, i < 11 → NV σ (nA t i) (L i) (c i) (V i) ∧ 4 ≤ c i) ∧ (∀ i, i < 8 → V i = A.1 i) ∧ (∀ i j, i < 13 → j < 13 → i ≠ j → L i ≠ L j) ∧ σ.1 t = some (T5 t) ∧ (∃ f, σ.1 (t + 1) = some (RA f) ∧ ∀ i, i < 8 → f i = some (dA t i)) ∧ (∀ i, i < 8 → σ.1 (dA t i) = some (DO (nA t i) (A.2.1 i) (A.2.2 i))) ∧ TT σ (t + 8) (L 11) (c 11) T ∧ TT σ (t + 10) (L 12) (c 12) W ∧ (∃ a b e h x, σ.1 (t + 12) = some (NO a b e h x)) ∧ (∃ a b u v w x, σ.1 (t + 13) = some (LO a b u v w x)) ∧ TN σ ∧ Dm σ
def sm (c : Nat → Nat) : Nat := c 0 + c 1 + c 2 + c 3 + c 4 + c 5 + c 6 + c 7 + c 8 + c 9 + c 10 + c 11 + c 12
theorem sm_up {c : Nat → Nat} {i v : Nat} (hi : i < 13) : sm (upA c i v) + c i = sm c + v := by
  have h : i = 0 ∨ i = 1 ∨ i = 2 ∨ i = 3 ∨ i = 4 ∨ i = 5 ∨ i = 6 ∨ i = 7 ∨ i = 8 ∨ i = 9 ∨ i = 10 ∨ i = 11 ∨ i = 12 := by omega
  unfold sm upA
  rcases h with rfl | rfl | rfl | rfl | rfl | rfl | rfl | rfl | rfl | rfl | rfl | rfl | rfl <;> simp <;> omega
/-- what may change: the object's own cells and rows -/
def CS (t : Nat) (L : Nat → Nat) (q : Nat) : Prop := (t ≤ q ∧ q < t + 38) ∨ ∃ i, i < 13 ∧ q = L i
def Rl (t : Nat) (σ : St) (L c : Nat → Nat) (σ' : St) (L' c' : Nat → Nat) (k s : Nat) : Prop := Fr (CS t L) σ σ' ∧ (∀ i, i < 13 → L' i = L i ∨ σ.2.1 ≤ L' i) ∧ k ≤ s ∧ s + 2 * sm c ≤ 2 * sm c'
section CIs
variable {t : Nat} {σ σ1 σ2 : St} {L c V L1 c1 V1 L2 c2 : Nat → Nat} {A A' : AS} {T W T' W' : TS} {k s k' s' : Nat}
theorem Rl.rf : Rl t σ L c σ L c 0 0 := ⟨Fr.rf, fun _ _ => Or.inl rfl, Nat.le_refl _, by omega⟩
theorem Rl.trans (h1 : Rl t σ L c σ1 L1 c1 k s) (h2 : Rl t σ1 L1 c1 σ2 L2 c2 k' s') : Rl t σ L c σ2 L2 c2 (k + k') (s + s') := by
  obtain ⟨a1, a2, a3, a4⟩ := h1
  obtain ⟨b1, b2, b3, b4⟩ := h2
  refine ⟨a1.trans b1 (fun q hq hS => ?_), fun i hi => ?_, by omega, by omega⟩
  · rcases hS with w | ⟨i, hi, rfl⟩
    · exact Or.inl w
    · rcases a2 i hi with w | w
      · exact Or.inr ⟨i, hi, w⟩
      · omega
  · rcases b2 i hi with w | w
    · rcases a2 i hi with z | z
      · exact Or.inl (w.trans z)
      · exact Or.inr (by omega)
    · have := a1.2.1
      exact Or.inr (by omega)
theorem nA_in {i : Nat} (hi : i < 11) : t ≤ nA t i ∧ nA t i < t + 38 := by
  unfold nA
  split <;> omega
section acc
variable (h : CI t σ L c V A T W)
theorem CI.ok (h : CI t σ L c V A T W) : okA A := h.1
theorem CI.nv (h : CI t σ L c V A T W) {i : Nat} (hi : i < 11) : NV σ (nA t i) (L i) (c i) (V i) := (h.2.1 i hi).1
theorem CI.rv (h : CI t σ L c V A T W) {i : Nat} (hi : i < 8) : V i = A.1 i := h.2.2.1 i hi
theorem CI.nr (h : CI t σ L c V A T W) {i : Nat} (hi : i < 8) : NV σ (nA t i) (L i) (c i) (A.1 i) := h.rv hi ▸ h.nv (by omega)
theorem CI.inj (h : CI t σ L c V A T W) {i j : Nat} (hi : i < 13) (hj : j < 13) (n : i ≠ j) : L i ≠ L j := h.2.2.2.1 i j hi hj n
theorem CI.t5 (h : CI t σ L c V A T W) : σ.1 t = some (T5 t) := h.2.2.2.2.1
theorem CI.rg (h : CI t σ L c V A T W) : ∃ f, σ.1 (t + 1) = some (RA f) ∧ ∀ i, i < 8 → f i = some (dA t i) := h.2.2.2.2.2.1
theorem CI.dc (h : CI t σ L c V A T W) {i : Nat} (hi : i < 8) : σ.1 (dA t i) = some (DO (nA t i) (A.2.1 i) (A.2.2 i)) := h.2.2.2.2.2.2.1 i hi
theorem CI.ty (h : CI t σ L c V A T W) : TT σ (t + 8) (L 11) (c 11) T := h.2.2.2.2.2.2.2.1
theorem CI.la (h : CI t σ L c V A T W) : TT σ (t + 10) (L 12) (c 12) W := h.2.2.2.2.2.2.2.2.1
theorem CI.nu (h : CI t σ L c V A T W) : ∃ a b e h x, σ.1 (t + 12) = some (NO a b e h x) := h.2.2.2.2.2.2.2.2.2.1
theorem CI.ly (h : CI t σ L c V A T W) : ∃ a b u v w x, σ.1 (t + 13) = some (LO a b u v w x) := h.2.2.2.2.2.2.2.2.2.2.1
theorem CI.tn (h : CI t σ L c V A T W) : TN σ := h.2.2.2.2.2.2.2.2.2.2.2.1
theorem CI.dm (h : CI t σ L c V A T W) : Dm σ := h.2.2.2.2.2.2.2.2.2.2.2.2
end acc
theorem CI.lt (h : CI t σ L c V A T W) {i : Nat} (hi : i < 13) : L i < σ.2.1 := by
  by_cases h1 : i < 11
  · obtain ⟨f, hf⟩ := (h.nv h1).ar
    exact h.dm.lt hf
  · have h2 : i = 11 ∨ i = 12 := by omega
    rcases h2 with rfl | rfl
    · obtain ⟨-, ⟨f, hf, -⟩, -⟩ := h.ty
      exact h.dm.lt hf
    · obtain ⟨-, ⟨f, hf, -⟩, -⟩ := h.la
      exact h.dm.lt hf
theorem CI.upd (h : CI t σ L c V A T W) {S : Nat → Prop} (hF : Fr S σ σ1) (hS : ∀ q, S q → ∃ i, 8 ≤ i ∧ i < 11 ∧ (q = nA t i ∨ q = L i)) (hN : ∀ i, 8 ≤ i → i < 11 → NV σ1 (nA t i) (L1 i) (c1 i) (V1 i)) (hsame : ∀ i, i < 13 → (i < 8 ∨ 11 ≤ i) → L1 i = L i ∧ c1 i = c i) (hV : ∀ i, i < 8 → V1 i = V i) (hL : ∀ i, i < 13 → L1 i = L i ∨ σ.2.1 ≤ L1 i) (hinj : ∀ i j, 8 ≤ i → i < 11 → 8 ≤ j → j < 11 → i ≠ j → L1 i ≠ L1 j) (hc : ∀ i, i < 13 → c i ≤ c1 i) : CI t σ1 L1 c1 V1 A T W := by
  have ns : ∀ {p : Nat} {e : Cel}, σ.1 p = some e → (∀ l n, e ≠ OO l n) → (∀ d f, e ≠ AA d f) → σ1.1 p = some e := fun {p e} hp h1 h2 => by
    refine hF.at h.dm hp (fun w => ?_)
    obtain ⟨i, i1, i2, w | w⟩ := hS p w
    · obtain ⟨n, hn⟩ := (h.nv i2).ob
      rw [w, hn] at hp
      injection hp with hp
      exact h1 _ _ hp.symm
    · obtain ⟨f, hf⟩ := (h.nv i2).ar
      rw [w, hf] at hp
      injection hp with hp
      exact h2 _ _ hp.symm
  refine ⟨h.ok, fun i hi => ?_, fun i hi => (hV i hi).trans (h.rv hi), fun i j hi hj n => ?_, ns h.t5 (fun _ _ z => by cases z) (fun _ _ z => by cases z), ?_, fun i hi => ns (h.dc hi) (fun _ _ z => by cases z) (fun _ _ z => by cases z), ?_, ?_, ?_, ?_, ?_, hF.2.2.2 h.dm⟩
  · have h4 := (h.2.1 i hi).2
    have hc' := hc i (by omega)
    by_cases h8 : 8 ≤ i
    · exact ⟨hN i h8 hi, by omega⟩
    · obtain ⟨e1, e2⟩ := hsame i (by omega) (by omega)
      rw [e1, e2, hV i (by omega)]
      refine ⟨(h.nv hi).fr h.dm hF (fun w => ?_) (fun w => ?_), h4⟩
      · obtain ⟨j, j1, j2, w | w⟩ := hS _ w
        · exact nA_inj hi j2 (by omega) w
        · obtain ⟨n, hn⟩ := (h.nv hi).ob
          obtain ⟨f, hf⟩ := (h.nv j2).ar
          rw [w] at hn
          exact ne_AO hf hn rfl
      · obtain ⟨j, j1, j2, w | w⟩ := hS _ w
        · obtain ⟨n, hn⟩ := (h.nv j2).ob
          obtain ⟨f, hf⟩ := (h.nv hi).ar
          exact ne_AO hf hn w
        · exact h.inj (by omega) (by omega) (by omega) w
  · by_cases hi8 : 8 ≤ i ∧ i < 11
    · by_cases hj8 : 8 ≤ j ∧ j < 11
      · exact hinj i j hi8.1 hi8.2 hj8.1 hj8.2 n
      · rw [(hsame j hj (by omega)).1]
        rcases hL i hi with w | w
        · rw [w]; exact h.inj hi hj n
        · have := h.lt hj
          omega
    · rw [(hsame i hi (by omega)).1]
      by_cases hj8 : 8 ≤ j ∧ j < 11
      · rcases hL j hj with w | w
        · rw [w]; exact h.inj hi hj n
        · have := h.lt hi
          omega
      · rw [(hsame j hj (by omega)).1]; exact h.inj hi hj n
  · obtain ⟨f, h1, h2⟩ := h.rg
    exact ⟨f, ns h1 (fun _ _ z => by cases z) (fun _ _ z => by cases z), h2⟩
  · obtain ⟨h1, ⟨f, h2, h3⟩, h4⟩ := h.ty
    obtain ⟨e1, e2⟩ := hsame 11 (by omega) (by omega)
    rw [e1, e2]
    exact ⟨ns h1 (fun _ _ z => by cases z) (fun _ _ z => by cases z), ⟨f, ns h2 (fun _ _ z => by cases z) (fun _ _ z => by cases z), h3⟩, h4⟩
  · obtain ⟨h1, ⟨f, h2, h3⟩, h4⟩ := h.la
    obtain ⟨e1, e2⟩ := hsame 12 (by omega) (by omega)
    rw [e1, e2]
    exact ⟨ns h1 (fun _ _ z => by cases z) (fun _ _ z => by cases z), ⟨f, ns h2 (fun _ _ z => by cases z) (fun _ _ z => by cases z), h3⟩, h4⟩
  · obtain ⟨a, b, e, g, x, h1⟩ := h.nu
    exact ⟨a, b, e, g, x, ns h1 (fun _ _ z => by cases z) (fun _ _ z => by cases z)⟩
  · obtain ⟨a, b, u, v, w, x, h1⟩ := h.ly
    exact ⟨a, b, u, v, w, x, ns h1 (fun _ _ z => by cases z) (fun _ _ z => by cases z)⟩
  · refine h.tn.fr h.dm hF (fun w => ?_)
    obtain ⟨i, i1, i2, w | w⟩ := hS _ w
    · obtain ⟨n, hn⟩ := (h.nv i2).ob
      exact h.tn.neO hn w
    · obtain ⟨f, hf⟩ := (h.nv i2).ar
      exact h.tn.neA hf w
/-- one Natural of work, quotient, spare has changed -/
theorem CI.p1 (h : CI t σ L c V A T W) {i y : Nat} {u : Unit} (i1 : 8 ≤ i) (i2 : i < 11) (hP : PN σ (nA t i) (L i) (c i) y u σ1 k s) : ∃ L' c', CI t σ1 L' c' (upA V i y) A T W ∧ Rl t σ L c σ1 L' c' k s := by
  obtain ⟨La, ca, q1, q2, q3, q4, q5, q6⟩ := hP
  have hL : ∀ j, j < 13 → upA L i La j = L j ∨ σ.2.1 ≤ upA L i La j := fun j hj => by
    by_cases e : j = i
    · subst e; rw [upA_s]; exact q2
    · rw [upA_n e]; exact Or.inl rfl
  refine ⟨upA L i La, upA c i ca, h.upd q3 (fun q hq => ⟨i, i1, i2, hq⟩) (fun j j1 j2 => ?_) (fun j hj hj2 => ⟨upA_n (by omega), upA_n (by omega)⟩) (fun j hj => upA_n (by omega)) hL (fun j l j1 j2 l1 l2 n => ?_) (fun j hj => ?_), ?_, hL, q5, ?_⟩
  · by_cases e : j = i
    · subst e; rw [upA_s, upA_s, upA_s]; exact q1
    · rw [upA_n e, upA_n e, upA_n e]
      refine (h.nv j2).fr h.dm q3 (fun w => ?_) (fun w => ?_)
      · rcases w with w | w
        · exact nA_inj j2 i2 e w
        · obtain ⟨n, hn⟩ := (h.nv j2).ob
          obtain ⟨f, hf⟩ := (h.nv i2).ar
          rw [w] at hn
          exact ne_AO hf hn rfl
      · rcases w with w | w
        · obtain ⟨n, hn⟩ := (h.nv i2).ob
          obtain ⟨f, hf⟩ := (h.nv j2).ar
          exact ne_AO hf hn w
        · exact h.inj (by omega) (by omega) e w
  · by_cases e : j = i
    · subst e
      rw [upA_s, upA_n (by omega)]
      rcases q2 with w | w
      · rw [w]; exact h.inj (by omega) (by omega) n
      · have := h.lt (i := l) (by omega); omega
    · rw [upA_n e]
      by_cases e2 : l = i
      · subst e2
        rw [upA_s]
        rcases q2 with w | w
        · rw [w]; exact h.inj (by omega) (by omega) n
        · have := h.lt (i := j) (by omega); omega
      · rw [upA_n e2]; exact h.inj (by omega) (by omega) n
  · by_cases e : j = i
    · subst e; rw [upA_s]; exact q4
    · rw [upA_n e]; exact Nat.le_refl _
  · refine q3.mono (fun q _ hq => ?_)
    rcases hq with w | w
    · exact Or.inl (w ▸ nA_in i2)
    · exact Or.inr ⟨i, by omega, w⟩
  · have := sm_up (c := c) (i := i) (v := ca) (by omega)
    omega
/-- work and quotient -/
theorem CI.p2 (h : CI t σ L c V A T W) {y z : Nat} {u : Unit} (hP : P2 σ (nA t 8) (L 8) (c 8) (nA t 9) (L 9) (c 9) y z u σ1 k s) : ∃ L' c', CI t σ1 L' c' (upA (upA V 8 y) 9 z) A T W ∧ Rl t σ L c σ1 L' c' k s := by
  obtain ⟨La, ca, Lb, cb, q1, q1', q2, q2', qn, q3, q4, q4', q5, q6⟩ := hP
  have hL : ∀ j, j < 13 → upA (upA L 8 La) 9 Lb j = L j ∨ σ.2.1 ≤ upA (upA L 8 La) 9 Lb j := fun j hj => by
    by_cases e : j = 9
    · subst e; rw [upA_s]; exact q2'
    · rw [upA_n e]
      by_cases e : j = 8
      · subst e; rw [upA_s]; exact q2
      · rw [upA_n e]; exact Or.inl rfl
  have h10 : NV σ1 (nA t 10) (L 10) (c 10) (V 10) := by
    refine (h.nv (by decide)).fr h.dm q3 (fun w => ?_) (fun w => ?_)
    · rcases w with w | w | w | w
      · exact nA_inj (by decide) (by decide) (by decide) w
      · obtain ⟨n, hn⟩ := (h.nv (i := 10) (by decide)).ob
        obtain ⟨f, hf⟩ := (h.nv (i := 8) (by decide)).ar
        rw [w] at hn
        exact ne_AO hf hn rfl
      · exact nA_inj (by decide) (by decide) (by decide) w
      · obtain ⟨n, hn⟩ := (h.nv (i := 10) (by decide)).ob
        obtain ⟨f, hf⟩ := (h.nv (i := 9) (by decide)).ar
        rw [w] at hn
        exact ne_AO hf hn rfl
    · rcases w with w | w | w | w
      · obtain ⟨n, hn⟩ := (h.nv (i := 8) (by decide)).ob
        obtain ⟨f, hf⟩ := (h.nv (i := 10) (by decide)).ar
        exact ne_AO hf hn w
      · exact h.inj (by decide) (by decide) (by decide) w
      · obtain ⟨n, hn⟩ := (h.nv (i := 9) (by decide)).ob
        obtain ⟨f, hf⟩ := (h.nv (i := 10) (by decide)).ar
        exact ne_AO hf hn w
      · exact h.inj (by decide) (by decide) (by decide) w
  have l10 := h.lt (i := 10) (by decide)
  have n10a : La ≠ L 10 := by
    rcases q2 with w | w
    · rw [w]; exact h.inj (by decide) (by decide) (by decide)
    · omega
  have n10b : Lb ≠ L 10 := by
    rcases q2' with w | w
    · rw [w]; exact h.inj (by decide) (by decide) (by decide)
    · omega
  refine ⟨upA (upA L 8 La) 9 Lb, upA (upA c 8 ca) 9 cb, h.upd q3 (fun q hq => ?_) (fun j j1 j2 => ?_) (fun j hj hj2 => ⟨by rw [upA_n (by omega), upA_n (by omega)], by rw [upA_n (by omega), upA_n (by omega)]⟩) (fun j hj => by rw [upA_n (by omega), upA_n (by omega)]) hL (fun j l j1 j2 l1 l2 n => ?_) (fun j hj => ?_), ?_, hL, q5, ?_⟩
  · rcases hq with w | w | w | w
    · exact ⟨8, by decide, by decide, Or.inl w⟩
    · exact ⟨8, by decide, by decide, Or.inr w⟩
    · exact ⟨9, by decide, by decide, Or.inl w⟩
    · exact ⟨9, by decide, by decide, Or.inr w⟩
  · have e : j = 8 ∨ j = 9 ∨ j = 10 := by omega
    rcases e with rfl | rfl | rfl
    · exact q1
    · exact q1'
    · exact h10
  · have e : j = 8 ∨ j = 9 ∨ j = 10 := by omega
    have e' : l = 8 ∨ l = 9 ∨ l = 10 := by omega
    rcases e with rfl | rfl | rfl <;> rcases e' with rfl | rfl | rfl
    · exact absurd rfl n
    · exact qn
    · exact n10a
    · exact qn.symm
    · exact absurd rfl n
    · exact n10b
    · exact n10a.symm
    · exact n10b.symm
    · exact absurd rfl n
  · by_cases e : j = 9
    · subst e; rw [upA_s]; exact q4'
    · rw [upA_n e]
      by_cases e : j = 8
      · subst e; rw [upA_s]; exact q4
      · rw [upA_n e]; exact Nat.le_refl _
  · refine q3.mono (fun q _ hq => ?_)
    rcases hq with w | w | w | w
    · exact Or.inl (w ▸ nA_in (by decide))
    · exact Or.inr ⟨8, by omega, w⟩
    · exact Or.inl (w ▸ nA_in (by decide))
    · exact Or.inr ⟨9, by omega, w⟩
  · have e1 := sm_up (c := c) (i := 8) (v := ca) (by omega)
    have e2 := sm_up (c := upA c 8 ca) (i := 9) (v := cb) (by omega)
    rw [upA_n (by decide)] at e2
    omega
/-- work, quotient, spare -/
theorem CI.p3 (h : CI t σ L c V A T W) {x y z : Nat} {u : Unit} (hP : P3 σ (nA t 8) (L 8) (c 8) (nA t 9) (L 9) (c 9) (nA t 10) (L 10) (c 10) x y z u σ1 k s) : ∃ L' c', CI t σ1 L' c' (upA (upA (upA V 8 x) 9 y) 10 z) A T W ∧ Rl t σ L c σ1 L' c' k s := by
  obtain ⟨Lb, cb, Ld, cd, q1, q1', q1'', q2, q2', n1, n2, n3, q3, q4, q4', q5, q6⟩ := hP
  have hL : ∀ j, j < 13 → upA (upA L 9 Lb) 10 Ld j = L j ∨ σ.2.1 ≤ upA (upA L 9 Lb) 10 Ld j := fun j hj => by
    by_cases e : j = 10
    · subst e; rw [upA_s]; exact q2'
    · rw [upA_n e]
      by_cases e : j = 9
      · subst e; rw [upA_s]; exact q2
      · rw [upA_n e]; exact Or.inl rfl
  refine ⟨upA (upA L 9 Lb) 10 Ld, upA (upA c 9 cb) 10 cd, h.upd q3 (fun q hq => ?_) (fun j j1 j2 => ?_) (fun j hj hj2 => ⟨by rw [upA_n (by omega), upA_n (by omega)], by rw [upA_n (by omega), upA_n (by omega)]⟩) (fun j hj => by rw [upA_n (by omega), upA_n (by omega), upA_n (by omega)]) hL (fun j l j1 j2 l1 l2 n => ?_) (fun j hj => ?_), ?_, hL, q5, ?_⟩
  · rcases hq with w | w | w | w | w | w
    · exact ⟨8, by decide, by decide, Or.inl w⟩
    · exact ⟨8, by decide, by decide, Or.inr w⟩
    · exact ⟨9, by decide, by decide, Or.inl w⟩
    · exact ⟨9, by decide, by decide, Or.inr w⟩
    · exact ⟨10, by decide, by decide, Or.inl w⟩
    · exact ⟨10, by decide, by decide, Or.inr w⟩
  · have e : j = 8 ∨ j = 9 ∨ j = 10 := by omega
    rcases e with rfl | rfl | rfl
    · exact q1
    · exact q1'
    · exact q1''
  · have e : j = 8 ∨ j = 9 ∨ j = 10 := by omega
    have e' : l = 8 ∨ l = 9 ∨ l = 10 := by omega
    rcases e with rfl | rfl | rfl <;> rcases e' with rfl | rfl | rfl
    · exact absurd rfl n
    · exact n1
    · exact n2
    · exact n1.symm
    · exact absurd rfl n
    · exact n3
    · exact n2.symm
    · exact n3.symm
    · exact absurd rfl n
  · by_cases e : j = 10
    · subst e; rw [upA_s]; exact q4'
    · rw [upA_n e]
      by_cases e : j = 9
      · subst e; rw [upA_s]; exact q4
      · rw [upA_n e]; exact Nat.le_refl _
  · refine q3.mono (fun q _ hq => ?_)
    rcases hq with w | w | w | w | w | w
    · exact Or.inl (w ▸ nA_in (by decide))
    · exact Or.inr ⟨8, by omega, w⟩
    · exact Or.inl (w ▸ nA_in (by decide))
    · exact Or.inr ⟨9, by omega, w⟩
    · exact Or.inl (w ▸ nA_in (by decide))
    · exact Or.inr ⟨10, by omega, w⟩
  · have e1 := sm_up (c := c) (i := 9) (v := cb) (by omega)
    have e2 := sm_up (c := upA c 9 cb) (i := 10) (v := cd) (by omega)
    rw [upA_n (by decide)] at e2
    omega
end CIs
