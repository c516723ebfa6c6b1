/-! ===== states: cells by their addresses; what a method's heap must look like ===== -/
abbrev Cel : Type := (FieldType × vp_A) ⊕ (Nat × List Value) ⊕ (Nat × (Nat → Int32))
abbrev St : Type := (Nat → Option Cel) × Nat × Nat
abbrev Gm : Type := va_G × (FieldType → ClassId) × Heap × Nat × (Nat → Option (Nat × (Nat → Int32)))
def okT (ty : FieldType) : Prop := ty = .int ∨ ty = .byte ∨ ty = .object "TensMill$Decimal"
def fitB (a : FieldType × vp_A) : Prop := a.1 = .byte → ∀ f : Nat → Int32, a.2.2 = .inl f → ∀ j, fits .byte (.int (f j)) = true
def atC (G : Gm) (q : Nat) (e : Cel) (H : Heap) : Prop := match e with
  | .inl a => okT a.1 ∧ H[q]? = some (vp_cell (G.2.1 a.1) a.2) ∧ fitB a
  | .inr (.inl o) => ∃ r : vw_C, vwCl[o.1]? = some r ∧ t_OB q (G.1.1 o.1) r.2.2 (G.1.2 o.1) H (vp_V o.2)
  | .inr (.inr x) => G.2.2.2.2 q = some x
def wrC (e : Cel) : Prop := match e with
  | .inr (.inr _) => False
  | _ => True
def Pic (G : Gm) (σ : St) (H : Heap) : Prop := H.size = σ.2.1 ∧ G.2.2.1.size ≤ σ.2.1 ∧ (∀ q, q < G.2.2.1.size → H[q]? = G.2.2.1[q]?) ∧ σ.2.2 = G.2.2.2.1 ∧ ∀ q e, σ.1 q = some e → atC G q e H ∧ (wrC e → G.2.2.1.size ≤ q)
def Aof (σ : St) (q : Nat) : Prop := (∃ e, σ.1 q = some e ∧ wrC e) ∨ σ.2.1 ≤ q
def KK (G : Gm) (U : State) : Prop := va_K G.1 vwCl [] U ∧ (∀ ty, okT ty → ArrOfT U (G.2.1 ty) ty ∧ va_RA U (G.2.1 ty) ty) ∧ va_Z "TensMill" "TENS" "[I" (.ref G.2.2.2.1) (fun q => G.2.2.1.size ≤ q) U G.2.2.1 ∧ (∀ q x, G.2.2.2.2 q = some x → va_T .int q x.1 (fun j => .int (x.2 j)) (fun q => G.2.2.1.size ≤ q) U G.2.2.1) ∧ (∀ w ∈ NW, va_Nw w U) ∧ va_AO "TensMill$Decimal" U
theorem fitI {n : Nat} {x : (Nat → Int32) ⊕ (Nat → Int64) ⊕ (Nat → UInt32) ⊕ (Nat → UInt64) ⊕ (Nat → Option Nat)} : fitB (.int, n, x) := fun h => by cases h
theorem fitA {C : String} {n : Nat} {x : (Nat → Int32) ⊕ (Nat → Int64) ⊕ (Nat → UInt32) ⊕ (Nat → UInt64) ⊕ (Nat → Option Nat)} : fitB (.object C, n, x) := fun h => by cases h
theorem fitBB {n : Nat} {f : Nat → Int32} (hf : ∀ j, fits .byte (.int (f j)) = true) : fitB (.byte, n, .inl f) := fun _ g hg j => by cases hg; exact hf j
theorem atC.lt {G : Gm} {q : Nat} {e : Cel} {H : Heap} (h : atC G q e H) (hw : wrC e) : q < H.size := by
  rcases e with a | o | x
  · exact (Array.getElem?_eq_some_iff.mp h.2.1).1
  · obtain ⟨r, h1, cell, h2, -⟩ := h
    exact (Array.getElem?_eq_some_iff.mp h2).1
  · exact hw.elim
theorem atC.kept {G : Gm} {q : Nat} {e : Cel} {H H1 : Heap} (h : atC G q e H) (hq : wrC e → H1[q]? = H[q]?) : atC G q e H1 := by
  rcases e with a | o | x
  · exact ⟨h.1, (hq trivial).trans h.2.1, h.2.2⟩
  · obtain ⟨r, h1, h2⟩ := h
    exact ⟨r, h1, h2.kept (hq trivial)⟩
  · exact h
theorem KK.warm {G : Gm} {s U : State} (hW : s.WarmedH U.vm) (h : KK G s) : KK G U := by
  obtain ⟨h1, h2, h3, h4, h5, h6⟩ := h
  refine ⟨h1.moved hW.alike, fun ty ht => ⟨arrOfT_moved hW.alike (h2 ty ht).1, (h2 ty ht).2.moved hW.alike⟩, h3.moved hW.alike, fun q x hx => (h4 q x hx).moved hW.alike, fun w hw => ?_, h6.moved hW.alike⟩
  exact NW_warm hW w hw (h5 w hw)
theorem KK.same {G : Gm} {s U : State} (hv : s.vm = U.vm) (h : KK G s) : KK G U := by
  obtain ⟨h1, h2, h3, h4, h5, h6⟩ := h
  have hA : s.vm.Alike U.vm := by rw [hv]; exact Vm.Alike.refl _
  exact ⟨h1.moved hA, fun ty ht => ⟨arrOfT_moved hA (h2 ty ht).1, (h2 ty ht).2.moved hA⟩, h3.moved hA, fun q x hx => (h4 q x hx).moved hA, fun w hw => va_Nw.same (NW_tab w hw) hv (h5 w hw), h6.moved hA⟩
/-! ===== the operations of a lifted method ===== -/
def gF (σ : St) (ci a k : Nat) : Option Value := match σ.1 a with
  | some (.inr (.inl o)) => if o.1 = ci then o.2[k]? else none
  | _ => none
def vI : Value → Option Int32
  | .int x => some x
  | _ => none
def vL : Value → Option Int64
  | .long x => some x
  | _ => none
def vR : Value → Option Nat
  | .ref x => some x
  | _ => none
def gI (σ : St) (ci a k : Nat) : Option Int32 := (gF σ ci a k).bind vI
def gL (σ : St) (ci a k : Nat) : Option Int64 := (gF σ ci a k).bind vL
def gR (σ : St) (ci a k : Nat) : Option Nat := (gF σ ci a k).bind vR
def stH (σ : St) (a : Nat) (e : Cel) : St := (va_up σ.1 a (some e), σ.2)
def pF (σ : St) (ci a k : Nat) (v : Value) : Option St := match σ.1 a with
  | some (.inr (.inl o)) => if o.1 = ci ∧ k < o.2.length then some (stH σ a (.inr (.inl (ci, o.2.set k v)))) else none
  | _ => none
def isB (x : Int32) : Option Unit := if x = 0 ∨ x = 1 then some () else none
def ldI (σ : St) (a : Nat) (i : Int32) : Option Int32 := match σ.1 a with
  | some (.inl (.int, n, .inl f)) => if i < 0 ∨ n ≤ i.toNatClampNeg then none else some (f i.toNatClampNeg)
  | some (.inr (.inr x)) => if i < 0 ∨ x.1 ≤ i.toNatClampNeg then none else some (x.2 i.toNatClampNeg)
  | _ => none
def stI (σ : St) (a : Nat) (i x : Int32) : Option St := match σ.1 a with
  | some (.inl (.int, n, .inl f)) => if i < 0 ∨ n ≤ i.toNatClampNeg then none else some (stH σ a (.inl (.int, n, .inl (upd f i.toNatClampNeg x))))
  | _ => none
def ldB (σ : St) (a : Nat) (i : Int32) : Option Int32 := match σ.1 a with
  | some (.inl (.byte, n, .inl f)) => if i < 0 ∨ n ≤ i.toNatClampNeg then none else some (f i.toNatClampNeg)
  | _ => none
def stB (σ : St) (a : Nat) (i x : Int32) : Option St := match σ.1 a with
  | some (.inl (.byte, n, .inl f)) => if i < 0 ∨ n ≤ i.toNatClampNeg then none else some (stH σ a (.inl (.byte, n, .inl (upd f i.toNatClampNeg (vp_nar .byte x)))))
  | _ => none
def ldA (σ : St) (a : Nat) (i : Int32) : Option Nat := match σ.1 a with
  | some (.inl (.object "TensMill$Decimal", n, .inr (.inr (.inr (.inr f))))) => if i < 0 ∨ n ≤ i.toNatClampNeg then none else f i.toNatClampNeg
  | _ => none
def stA (σ : St) (a : Nat) (i : Int32) (x : Nat) : Option St := match σ.1 a, σ.1 x with
  | some (.inl (.object "TensMill$Decimal", n, .inr (.inr (.inr (.inr f))))), some (.inr (.inl o)) => if o.1 = 0 then (if i < 0 ∨ n ≤ i.toNatClampNeg then none else some (stH σ a (.inl (.object "TensMill$Decimal", n, .inr (.inr (.inr (.inr (va_up f i.toNatClampNeg (some x)))))))) ) else none
  | _, _ => none
def aLn (σ : St) (a : Nat) : Option Int32 := match σ.1 a with
  | some (.inl x) => some (Int32.ofNat x.2.1)
  | some (.inr (.inr x)) => some (Int32.ofNat x.1)
  | _ => none
def nwH (σ : St) (e : Cel) : St := (va_up σ.1 σ.2.1 (some e), σ.2.1 + 1, σ.2.2)
def arI (n : Int32) : Cel := .inl (.int, n.toNatClampNeg, .inl (fun _ => 0))
def arB (n : Int32) : Cel := .inl (.byte, n.toNatClampNeg, .inl (fun _ => 0))
def arA (n : Int32) : Cel := .inl (.object "TensMill$Decimal", n.toNatClampNeg, .inr (.inr (.inr (.inr (fun _ => none)))))
def lenOk (n : Int32) : Option Unit := if n < 0 ∨ 1000000 < n.toNatClampNeg then none else some ()
def cpy (σ : St) (a0 : Nat) (sp : Int32) (a1 : Nat) (dp n : Int32) : Option St := match σ.1 a0, σ.1 a1 with
  | some (.inl (.int, n0, .inl f)), some (.inl (.int, n1, .inl g)) => if sp < 0 ∨ dp < 0 ∨ n < 0 ∨ n0 < sp.toNatClampNeg + n.toNatClampNeg ∨ n1 < dp.toNatClampNeg + n.toNatClampNeg then none else some (stH σ a1 (.inl (.int, n1, .inl (va_cpy f g sp.toNatClampNeg dp.toNatClampNeg n.toNatClampNeg))))
  | _, _ => none
def cpyB (σ : St) (a0 : Nat) (sp : Int32) (a1 : Nat) (dp n : Int32) : Option St := match σ.1 a0, σ.1 a1 with
  | some (.inl (.byte, n0, .inl f)), some (.inl (.byte, n1, .inl g)) => if sp < 0 ∨ dp < 0 ∨ n < 0 ∨ n0 < sp.toNatClampNeg + n.toNatClampNeg ∨ n1 < dp.toNatClampNeg + n.toNatClampNeg then none else some (stH σ a1 (.inl (.byte, n1, .inl (va_cpy f g sp.toNatClampNeg dp.toNatClampNeg n.toNatClampNeg))))
  | _, _ => none
def dvI (x y : Int32) : Option Int32 := if y = 0 then none else some (x / y)
def rmI (x y : Int32) : Option Int32 := if y = 0 then none else some (x - x / y * y)
def dvL (x y : Int64) : Option Int64 := if y = 0 then none else some (x / y)
def rmL (x y : Int64) : Option Int64 := if y = 0 then none else some (x - x / y * y)
abbrev Rs (ρ : Type) : Type := Option (ρ × St × Nat × Nat)
def ac {ρ : Type} (k s : Nat) (x : Rs ρ) : Rs ρ := x.map fun z => (z.1, z.2.1, k + z.2.2.1, s + z.2.2.2)
def bd {α β : Type} (x : Rs α) (f : α → St → Rs β) : Rs β := x.bind fun z => ac z.2.2.1 z.2.2.2 (f z.1 z.2.1)
def nw {ρ : Type} (σ : St) (e : Cel) (n : Nat) (f : Nat → St → Rs ρ) : Rs ρ := ac 1 n (f σ.2.1 (nwH σ e))
def lt {α β : Type} (e : α) (f : α → β) : β := f e
def jn {α β : Type} (f : α → β) (g : (α → β) → β) : β := g f
def ob {β : Type} (σ : St) (ci a : Nat) (k : Option β) : Option β := match σ.1 a with
  | some (.inr (.inl o)) => if o.1 = ci then k else none
  | _ => none
noncomputable def FU : Nat := Classical.choose (⟨1000000000000, Nat.le_refl _⟩ : ∃ n : Nat, 1000000000000 ≤ n)
theorem FU_ge : 1000000000000 ≤ FU := Classical.choose_spec (⟨1000000000000, Nat.le_refl _⟩ : ∃ n : Nat, 1000000000000 ≤ n)
/-! ===== the judgement ===== -/
abbrev Cq : Type := Gm × Program × Launch × Env × Room × State × MethodId × Array Value × List Frame × Method × Code × Nat × (Nat → Prop) × (State → Prop) × Nat × Nat
abbrev kG (K : Cq) : Gm := K.1
abbrev kp (K : Cq) : Program := K.2.1
abbrev kl (K : Cq) : Launch := K.2.2.1
abbrev ke (K : Cq) : Env := K.2.2.2.1
abbrev kR (K : Cq) : Room := K.2.2.2.2.1
abbrev ks (K : Cq) : State := K.2.2.2.2.2.1
abbrev km (K : Cq) : MethodId := K.2.2.2.2.2.2.1
abbrev ka (K : Cq) : Array Value := K.2.2.2.2.2.2.2.1
abbrev kb (K : Cq) : List Frame := K.2.2.2.2.2.2.2.2.1
abbrev kt (K : Cq) : Method := K.2.2.2.2.2.2.2.2.2.1
abbrev kc (K : Cq) : Code := K.2.2.2.2.2.2.2.2.2.2.1
abbrev kn (K : Cq) : Nat := K.2.2.2.2.2.2.2.2.2.2.2.1
abbrev kA (K : Cq) : Nat → Prop := K.2.2.2.2.2.2.2.2.2.2.2.2.1
abbrev kQ (K : Cq) : State → Prop := K.2.2.2.2.2.2.2.2.2.2.2.2.2.1
abbrev kmc (K : Cq) : Nat := K.2.2.2.2.2.2.2.2.2.2.2.2.2.2.1
abbrev kms (K : Cq) : Nat := K.2.2.2.2.2.2.2.2.2.2.2.2.2.2.2
abbrev WK (K : Cq) (H : Heap) (locs : List Loc) (cells slots : Nat) (g : JFrame) : Prop := W (kp K) (kl K) (ke K) (kR K) (ks K) (km K) (ka K) (kb K) (kt K) (kc K) H locs cells slots (kQ K) g
def V (K : Cq) (kr sr : Nat) (σ : St) (pc : Nat) (lv : List (Nat × Value)) (st : List Value) : Prop :=
  ∀ (H : Heap) (locs : List Loc) (ls : Array Slot) (cells slots : Nat), Pic (kG K) σ H → va_S (kA K) (ks K).heap H locs → (∀ q, Aof σ q → kA K q) → lv_has ls (kn K) lv → cells + kr = kmc K → slots + sr = kms K → WK K H locs cells slots (F0 (km K) pc ls st)
def Cx (K : Cq) (cc : ByteArray) (own : String) : Prop :=
  (kp K).tables.exec = Jvm.exec ∧ (kc K).code = cc ∧ (kc K).maxLocals = kn K ∧ (ks K).vm.findClass own = some (km K).cls ∧ (∀ w ∈ GT, w.before (ka K) (ks K) = true) ∧ KK (kG K) (ks K) ∧ kmc K ≤ (kR K).cells ∧ kms K ≤ (kR K).slots ∧ ∀ q, kA K q → (kG K).2.2.1.size ≤ q
def rmF (F L k s : Nat) : Room := { frames := F, cells := k, slots := s, locals := L }
def Qof (G : Gm) (σ : St) (r : Option Value) (σ' : St) : Array Value → State → Outcome → State → Prop := fun _ st oc t => (oc = .returned r ∧ Pic G σ' t.heap ∧ ∀ q, Aof σ' q → Aof σ q) ∧ va_F (Aof σ) st t
/-- a method's contract: from the state σ, with these arguments, it returns r and leaves σ'; k cells of s slots are new -/
def Ct (G : Gm) (l : Launch) (y : MethodName) (cc : ByteArray) (maxL : Nat) (ret : Option FieldType) (F L : Nat) (as : List Value) (σ : St) (r : Option Value) (σ' : St) (k s : Nat) : Prop :=
  Met l y (.code y cc maxL ret :: GT) (rmF F L k s) (va_Pc as (fun U => Pic G σ U.heap ∧ KK G U)) (Qof G σ r σ') k s (Aof σ)
