/-! ===== a small calculus for the lifted functions: 'Yes e P': e is some r with P r ===== -/
def Yes {α : Type} (e : Option α) (P : α → Prop) : Prop := ∃ r, e = some r ∧ P r
section YS
variable {α β : Type} {P : α → Prop} {Q : β → Prop}
theorem y_some {r : α} (h : P r) : Yes (some r) P := ⟨r, rfl, h⟩
theorem y_bind {e : Option β} {f : β → Option α} (h : Yes e Q) (k : ∀ r, Q r → Yes (f r) P) : Yes (e.bind f) P := by
  obtain ⟨r, rfl, hr⟩ := h
  exact k r hr
theorem y_b1 {e : Option β} {f : β → Option α} {r : β} (h : e = some r) (k : Yes (f r) P) : Yes (e.bind f) P := by
  subst h
  exact k
theorem y_if {c : Prop} [Decidable c] {A B : Option α} (t : c → Yes A P) (f : ¬ c → Yes B P) : Yes (if c then A else B) P := by
  by_cases h : c
  · rw [if_pos h]; exact t h
  · rw [if_neg h]; exact f h
theorem y_t {c : Prop} [Decidable c] {A B : Option α} (h : c) (t : Yes A P) : Yes (if c then A else B) P := by rw [if_pos h]; exact t
theorem y_f {c : Prop} [Decidable c] {A B : Option α} (h : ¬ c) (t : Yes B P) : Yes (if c then A else B) P := by rw [if_neg h]; exact t
theorem y_lt {e : β} {f : β → Option α} (k : Yes (f e) P) : Yes (lt e f) P := k
theorem y_le {e x : β} {f : β → Option α} (h : e = x) (k : Yes (f x) P) : Yes (lt e f) P := by subst h; exact k
theorem y_jn {f : β → Option α} {g : (β → Option α) → Option α} (Q : β → Prop) (h1 : ∀ z, Q z → Yes (f z) P) (h2 : ∀ k : β → Option α, (∀ z, Q z → Yes (k z) P) → Yes (g k) P) : Yes (jn f g) P := h2 f h1
theorem y_j1 {f : β → Option α} {g : (β → Option α) → Option α} (x : β) (h : ∀ k : β → Option α, g k = k x) (h1 : Yes (f x) P) : Yes (jn f g) P := by
  unfold jn
  rw [h]
  exact h1
theorem y_im {e : Option α} {P' : α → Prop} (h : Yes e P') (k : ∀ r, P' r → P r) : Yes e P := by
  obtain ⟨r, h1, h2⟩ := h
  exact ⟨r, h1, k r h2⟩
theorem y_ob {σ : St} {ci a : Nat} {e : Option α} {fs : List Value} (h : σ.1 a = some (.inr (.inl (ci, fs)))) (k : Yes e P) : Yes (ob σ ci a e) P := by
  unfold ob
  rw [h]
  show Yes (if ci = ci then e else none) P
  rw [if_pos rfl]
  exact k
end YS
section YR
variable {ρ τ : Type}
/-- of an effectful text: the answer, the state, cells and slots -/
def Ye (e : Rs ρ) (P : ρ → St → Nat → Nat → Prop) : Prop := ∃ r σ k s, e = some (r, σ, k, s) ∧ P r σ k s
theorem e_ret {P : ρ → St → Nat → Nat → Prop} {r : ρ} {σ : St} (h : P r σ 0 0) : Ye (some (r, σ, 0, 0)) P := ⟨r, σ, 0, 0, rfl, h⟩
theorem e_b1 {P : ρ → St → Nat → Nat → Prop} {β : Type} {e : Option β} {f : β → Rs ρ} {r : β} (h : e = some r) (k : Ye (f r) P) : Ye (e.bind f) P := by
  subst h
  exact k
theorem e_by {P : ρ → St → Nat → Nat → Prop} {β : Type} {e : Option β} {f : β → Rs ρ} {Q : β → Prop} (h : Yes e Q) (k : ∀ r, Q r → Ye (f r) P) : Ye (e.bind f) P := by
  obtain ⟨r, rfl, hr⟩ := h
  exact k r hr
theorem e_bd {P : ρ → St → Nat → Nat → Prop} {e : Rs τ} {f : τ → St → Rs ρ} {Q : τ → St → Nat → Nat → Prop} (h : Ye e Q) (k : ∀ a σ1 kc sc, Q a σ1 kc sc → Ye (f a σ1) (fun r σ2 k' s' => P r σ2 (kc + k') (sc + s'))) : Ye (bd e f) P := by
  obtain ⟨a, σ1, kc, sc, rfl, hq⟩ := h
  obtain ⟨r, σ2, k', s', h1, h2⟩ := k a σ1 kc sc hq
  refine ⟨r, σ2, kc + k', sc + s', ?_, h2⟩
  unfold bd
  show ac kc sc (f a σ1) = _
  rw [h1]
  rfl
theorem e_if {P : ρ → St → Nat → Nat → Prop} {c : Prop} [Decidable c] {A B : Rs ρ} (t : c → Ye A P) (f : ¬ c → Ye B P) : Ye (if c then A else B) P := by
  by_cases h : c
  · rw [if_pos h]; exact t h
  · rw [if_neg h]; exact f h
theorem e_t {P : ρ → St → Nat → Nat → Prop} {c : Prop} [Decidable c] {A B : Rs ρ} (h : c) (t : Ye A P) : Ye (if c then A else B) P := by rw [if_pos h]; exact t
theorem e_f {P : ρ → St → Nat → Nat → Prop} {c : Prop} [Decidable c] {A B : Rs ρ} (h : ¬ c) (t : Ye B P) : Ye (if c then A else B) P := by rw [if_neg h]; exact t
theorem e_lt {P : ρ → St → Nat → Nat → Prop} {β : Type} {e : β} {f : β → Rs ρ} (k : Ye (f e) P) : Ye (lt e f) P := k
theorem e_le {P : ρ → St → Nat → Nat → Prop} {β : Type} {e x : β} {f : β → Rs ρ} (h : e = x) (k : Ye (f x) P) : Ye (lt e f) P := by subst h; exact k
theorem e_jn {P : ρ → St → Nat → Nat → Prop} {β : Type} {f : β → Rs ρ} {g : (β → Rs ρ) → Rs ρ} (Q : β → Prop) (h1 : ∀ z, Q z → Ye (f z) P) (h2 : ∀ k : β → Rs ρ, (∀ z, Q z → Ye (k z) P) → Ye (g k) P) : Ye (jn f g) P := h2 f h1
theorem e_j1 {P : ρ → St → Nat → Nat → Prop} {β : Type} {f : β → Rs ρ} {g : (β → Rs ρ) → Rs ρ} (x : β) (h : ∀ k : β → Rs ρ, g k = k x) (h1 : Ye (f x) P) : Ye (jn f g) P := by
  unfold jn
  rw [h]
  exact h1
theorem e_im {e : Rs ρ} {P P' : ρ → St → Nat → Nat → Prop} (h : Ye e P') (k : ∀ r σ kc sc, P' r σ kc sc → P r σ kc sc) : Ye e P := by
  obtain ⟨r, σ, kc, sc, h1, h2⟩ := h
  exact ⟨r, σ, kc, sc, h1, k r σ kc sc h2⟩
theorem e_ob {P : ρ → St → Nat → Nat → Prop} {σ : St} {ci a : Nat} {e : Rs ρ} {fs : List Value} (h : σ.1 a = some (.inr (.inl (ci, fs)))) (k : Ye e P) : Ye (ob σ ci a e) P := by
  unfold ob
  rw [h]
  show Ye (if ci = ci then e else none) P
  rw [if_pos rfl]
  exact k
theorem e_nw {P : ρ → St → Nat → Nat → Prop} {σ : St} {e : Cel} {n : Nat} {f : Nat → St → Rs ρ} (k : Ye (f σ.2.1 (nwH σ e)) (fun r σ2 k' s' => P r σ2 (1 + k') (n + s'))) : Ye (nw σ e n f) P := by
  obtain ⟨r, σ2, k', s', h1, h2⟩ := k
  refine ⟨r, σ2, 1 + k', n + s', ?_, h2⟩
  unfold nw
  rw [h1]
  rfl
end YR
/-! ===== cells ===== -/
theorem stH_s {σ : St} {a : Nat} {e : Cel} : (stH σ a e).1 a = some e := if_pos rfl
theorem stH_n {σ : St} {a q : Nat} {e : Cel} (h : q ≠ a) : (stH σ a e).1 q = σ.1 q := if_neg h
theorem nwH_s {σ : St} {e : Cel} : (nwH σ e).1 σ.2.1 = some e := if_pos rfl
theorem nwH_n {σ : St} {q : Nat} {e : Cel} (h : q ≠ σ.2.1) : (nwH σ e).1 q = σ.1 q := if_neg h
theorem gI_eq {σ : St} {ci a k : Nat} {fs : List Value} {x : Int32} (h : σ.1 a = some (.inr (.inl (ci, fs)))) (hk : fs[k]? = some (.int x)) : gI σ ci a k = some x := by
  unfold gI gF
  rw [h]
  show ((if ci = ci then fs[k]? else none).bind vI) = _
  rw [if_pos rfl, hk]
  rfl
theorem gL_eq {σ : St} {ci a k : Nat} {fs : List Value} {x : Int64} (h : σ.1 a = some (.inr (.inl (ci, fs)))) (hk : fs[k]? = some (.long x)) : gL σ ci a k = some x := by
  unfold gL gF
  rw [h]
  show ((if ci = ci then fs[k]? else none).bind vL) = _
  rw [if_pos rfl, hk]
  rfl
theorem gR_eq {σ : St} {ci a k : Nat} {fs : List Value} {x : Nat} (h : σ.1 a = some (.inr (.inl (ci, fs)))) (hk : fs[k]? = some (.ref x)) : gR σ ci a k = some x := by
  unfold gR gF
  rw [h]
  show ((if ci = ci then fs[k]? else none).bind vR) = _
  rw [if_pos rfl, hk]
  rfl
theorem pF_eq {σ : St} {ci a k : Nat} {fs : List Value} {v : Value} (h : σ.1 a = some (.inr (.inl (ci, fs)))) (hk : k < fs.length) : pF σ ci a k v = some (stH σ a (.inr (.inl (ci, fs.set k v)))) := by
  unfold pF
  rw [h]
  show (if ci = ci ∧ k < fs.length then _ else none) = _
  rw [if_pos ⟨rfl, hk⟩]
theorem in_nI {i n : Nat} (hi : i < n) (hn : n < 2 ^ 31) : ¬ (nI i < 0 ∨ n ≤ (nI i).toNatClampNeg) := nI_in hi hn
theorem ldI_eq {σ : St} {a n i : Nat} {f : Nat → Int32} {x : Int32} (h : σ.1 a = some (.inl (.int, n, .inl f))) (hx : x = nI i) (hi : i < n) (hn : n < 2 ^ 31) : ldI σ a x = some (f i) := by
  subst hx
  unfold ldI
  rw [h]
  show (if nI i < 0 ∨ n ≤ (nI i).toNatClampNeg then none else some (f (nI i).toNatClampNeg)) = _
  rw [if_neg (in_nI hi hn), nI_clamp (by omega)]
theorem ldI_ro {σ : St} {a n i : Nat} {f : Nat → Int32} {x : Int32} (h : σ.1 a = some (.inr (.inr (n, f)))) (hx : x = nI i) (hi : i < n) (hn : n < 2 ^ 31) : ldI σ a x = some (f i) := by
  subst hx
  unfold ldI
  rw [h]
  show (if nI i < 0 ∨ n ≤ (nI i).toNatClampNeg then none else some (f (nI i).toNatClampNeg)) = _
  rw [if_neg (in_nI hi hn), nI_clamp (by omega)]
theorem stI_eq {σ : St} {a n i : Nat} {f : Nat → Int32} {x v : Int32} (h : σ.1 a = some (.inl (.int, n, .inl f))) (hx : x = nI i) (hi : i < n) (hn : n < 2 ^ 31) : stI σ a x v = some (stH σ a (.inl (.int, n, .inl (upd f i v)))) := by
  subst hx
  unfold stI
  rw [h]
  show (if nI i < 0 ∨ n ≤ (nI i).toNatClampNeg then none else some (stH σ a (.inl (.int, n, .inl (upd f (nI i).toNatClampNeg v))))) = _
  rw [if_neg (in_nI hi hn), nI_clamp (by omega)]
theorem ldB_eq {σ : St} {a n i : Nat} {f : Nat → Int32} {x : Int32} (h : σ.1 a = some (.inl (.byte, n, .inl f))) (hx : x = nI i) (hi : i < n) (hn : n < 2 ^ 31) : ldB σ a x = some (f i) := by
  subst hx
  unfold ldB
  rw [h]
  show (if nI i < 0 ∨ n ≤ (nI i).toNatClampNeg then none else some (f (nI i).toNatClampNeg)) = _
  rw [if_neg (in_nI hi hn), nI_clamp (by omega)]
theorem stB_eq {σ : St} {a n i : Nat} {f : Nat → Int32} {x v : Int32} (h : σ.1 a = some (.inl (.byte, n, .inl f))) (hx : x = nI i) (hi : i < n) (hn : n < 2 ^ 31) : stB σ a x v = some (stH σ a (.inl (.byte, n, .inl (upd f i (vp_nar .byte v))))) := by
  subst hx
  unfold stB
  rw [h]
  show (if nI i < 0 ∨ n ≤ (nI i).toNatClampNeg then none else some (stH σ a (.inl (.byte, n, .inl (upd f (nI i).toNatClampNeg (vp_nar .byte v)))))) = _
  rw [if_neg (in_nI hi hn), nI_clamp (by omega)]
theorem aLn_eq {σ : St} {a n : Nat} {ty : FieldType} {x : (Nat → Int32) ⊕ (Nat → Int64) ⊕ (Nat → UInt32) ⊕ (Nat → UInt64) ⊕ (Nat → Option Nat)} (h : σ.1 a = some (.inl (ty, n, x))) : aLn σ a = some (nI n) := by
  unfold aLn
  rw [h]
  rfl
theorem aLn_ro {σ : St} {a n : Nat} {f : Nat → Int32} (h : σ.1 a = some (.inr (.inr (n, f)))) : aLn σ a = some (nI n) := by
  unfold aLn
  rw [h]
  rfl
theorem cpy_eq {σ : St} {a0 a1 n0 n1 sp dp n : Nat} {f g : Nat → Int32} {x y z : Int32} (h0 : σ.1 a0 = some (.inl (.int, n0, .inl f))) (h1 : σ.1 a1 = some (.inl (.int, n1, .inl g))) (hx : x = nI sp) (hy : y = nI dp) (hz : z = nI n) (h2 : sp + n ≤ n0) (h3 : dp + n ≤ n1) (b0 : n0 < 2 ^ 31) (b1 : n1 < 2 ^ 31) : cpy σ a0 x a1 y z = some (stH σ a1 (.inl (.int, n1, .inl (va_cpy f g sp dp n)))) := by
  subst hx hy hz
  unfold cpy
  rw [h0, h1]
  show (if nI sp < 0 ∨ nI dp < 0 ∨ nI n < 0 ∨ n0 < (nI sp).toNatClampNeg + (nI n).toNatClampNeg ∨ n1 < (nI dp).toNatClampNeg + (nI n).toNatClampNeg then none else some (stH σ a1 (.inl (.int, n1, .inl (va_cpy f g (nI sp).toNatClampNeg (nI dp).toNatClampNeg (nI n).toNatClampNeg))))) = _
  rw [nI_clamp (by omega), nI_clamp (by omega), nI_clamp (by omega), if_neg]
  rintro (h | h | h | h | h)
  · exact nI_pos (by omega) h
  · exact nI_pos (by omega) h
  · exact nI_pos (by omega) h
  · omega
  · omega
theorem cpyB_eq {σ : St} {a0 a1 n0 n1 sp dp n : Nat} {f g : Nat → Int32} {x y z : Int32} (h0 : σ.1 a0 = some (.inl (.byte, n0, .inl f))) (h1 : σ.1 a1 = some (.inl (.byte, n1, .inl g))) (hx : x = nI sp) (hy : y = nI dp) (hz : z = nI n) (h2 : sp + n ≤ n0) (h3 : dp + n ≤ n1) (b0 : n0 < 2 ^ 31) (b1 : n1 < 2 ^ 31) : cpyB σ a0 x a1 y z = some (stH σ a1 (.inl (.byte, n1, .inl (va_cpy f g sp dp n)))) := by
  subst hx hy hz
  unfold cpyB
  rw [h0, h1]
  show (if nI sp < 0 ∨ nI dp < 0 ∨ nI n < 0 ∨ n0 < (nI sp).toNatClampNeg + (nI n).toNatClampNeg ∨ n1 < (nI dp).toNatClampNeg + (nI n).toNatClampNeg then none else some (stH σ a1 (.inl (.byte, n1, .inl (va_cpy f g (nI sp).toNatClampNeg (nI dp).toNatClampNeg (nI n).toNatClampNeg))))) = _
  rw [nI_clamp (by omega), nI_clamp (by omega), nI_clamp (by omega), if_neg]
  rintro (h | h | h | h | h)
  · exact nI_pos (by omega) h
  · exact nI_pos (by omega) h
  · exact nI_pos (by omega) h
  · omega
  · omega
theorem dvI_eq {a b : Nat} {x y : Int32} (hx : x = nI a) (hy : y = nI b) (ha : a < 2 ^ 31) (h0 : 0 < b) (hb : b < 2 ^ 31) : dvI x y = some (nI (a / b)) := by
  subst hx hy
  unfold dvI
  rw [if_neg (nI_ne0 h0 hb), pk_div ha h0 hb]
theorem rmI_eq {a b : Nat} {x y : Int32} (hx : x = nI a) (hy : y = nI b) (ha : a < 2 ^ 31) (h0 : 0 < b) (hb : b < 2 ^ 31) : rmI x y = some (nI (a % b)) := by
  subst hx hy
  unfold rmI
  rw [if_neg (nI_ne0 h0 hb), pk_rem ha h0 hb]
theorem lN_ne0 {b : Nat} (h0 : 0 < b) (hb : b < 2 ^ 63) : ¬ lN b = 0 := by
  intro h
  have h2 : lN b = lN 0 := h
  have := (pk_lEQ hb (by decide)).mp h2
  omega
theorem dvL_eq {a b : Nat} {x y : Int64} (hx : x = lN a) (hy : y = lN b) (ha : a < 2 ^ 63) (h0 : 0 < b) (hb : b < 2 ^ 63) : dvL x y = some (lN (a / b)) := by
  subst hx hy
  unfold dvL
  rw [if_neg (lN_ne0 h0 hb), pk_lDiv ha h0 hb]
theorem rmL_eq {a b : Nat} {x y : Int64} (hx : x = lN a) (hy : y = lN b) (ha : a < 2 ^ 63) (h0 : 0 < b) (hb : b < 2 ^ 63) : rmL x y = some (lN (a % b)) := by
  subst hx hy
  unfold rmL
  rw [if_neg (lN_ne0 h0 hb), pk_lRem ha h0 hb]
theorem isB_0 : isB 0 = some () := rfl
theorem isB_1 : isB 1 = some () := rfl
theorem lenOk_eq {n : Nat} {x : Int32} (hx : x = nI n) (h : n ≤ 1000000) : lenOk x = some () := by
  subst hx
  unfold lenOk
  rw [if_neg]
  rintro (h1 | h1)
  · exact nI_pos (by omega) h1
  · rw [nI_clamp (by omega)] at h1; omega
/-! ===== numbers in a base, lowest first ===== -/
def vl (B : Nat) (g : Nat → Nat) : Nat → Nat
  | 0 => 0
  | n + 1 => vl B g n + g n * B ^ n
theorem vl_lt {B : Nat} {g : Nat → Nat} {n : Nat} (h : ∀ j, j < n → g j < B) : vl B g n < B ^ n := by
  induction n with
  | zero => simp [vl]
  | succ n ih =>
    have h1 := ih (fun j hj => h j (by omega))
    have h2 := h n (by omega)
    show vl B g n + g n * B ^ n < B ^ (n + 1)
    have h3 : (g n + 1) * B ^ n ≤ B * B ^ n := Nat.mul_le_mul_right _ h2
    rw [Nat.add_mul, Nat.one_mul] at h3
    rw [Nat.pow_succ, Nat.mul_comm (B ^ n) B]
    omega
theorem vl_congr {B : Nat} {g g' : Nat → Nat} {n : Nat} (h : ∀ j, j < n → g j = g' j) : vl B g n = vl B g' n := by
  induction n with
  | zero => rfl
  | succ n ih =>
    show vl B g n + g n * B ^ n = vl B g' n + g' n * B ^ n
    rw [ih (fun j hj => h j (by omega)), h n (by omega)]
theorem vl_add {B : Nat} {g : Nat → Nat} (a : Nat) : ∀ b : Nat, vl B g (a + b) = vl B g a + B ^ a * vl B (fun j => g (a + j)) b
  | 0 => by simp [vl]
  | b + 1 => by
    show vl B g (a + b) + g (a + b) * B ^ (a + b) = vl B g a + B ^ a * (vl B (fun j => g (a + j)) b + g (a + b) * B ^ b)
    rw [vl_add a b, Nat.mul_add, Nat.pow_add, Nat.add_assoc]
    congr 2
    rw [Nat.mul_left_comm]
theorem vl_div {B : Nat} {g : Nat → Nat} {a b : Nat} (h : ∀ j, j < a → g j < B) : vl B g (a + b) / B ^ a = vl B (fun j => g (a + j)) b := by
  have h1 := vl_lt h
  rw [vl_add, Nat.add_mul_div_left _ _ (by omega), Nat.div_eq_of_lt h1, Nat.zero_add]
theorem vl_mod {B : Nat} {g : Nat → Nat} {a b : Nat} (h : ∀ j, j < a → g j < B) : vl B g (a + b) % B ^ a = vl B g a := by
  rw [vl_add, Nat.add_mul_mod_self_left, Nat.mod_eq_of_lt (vl_lt h)]
theorem vl_zero {B : Nat} {g : Nat → Nat} {n : Nat} (h : ∀ j, j < n → g j = 0) : vl B g n = 0 := by
  induction n with
  | zero => rfl
  | succ n ih =>
    show vl B g n + g n * B ^ n = 0
    rw [ih (fun j hj => h j (by omega)), h n (by omega), Nat.zero_mul]
theorem vl_ge {B : Nat} {g : Nat → Nat} {n : Nat} (h : 0 < g n) : B ^ n ≤ vl B g (n + 1) := by
  show B ^ n ≤ vl B g n + g n * B ^ n
  have h1 : 1 * B ^ n ≤ g n * B ^ n := Nat.mul_le_mul_right _ h
  omega
theorem vl_pad {B : Nat} {g : Nat → Nat} {n m : Nat} (hm : n ≤ m) (h : ∀ j, n ≤ j → j < m → g j = 0) : vl B g m = vl B g n := by
  obtain ⟨d, rfl⟩ : ∃ d, m = n + d := ⟨m - n, by omega⟩
  rw [vl_add, vl_zero (fun j hj => h (n + j) (by omega) (by omega)), Nat.mul_zero, Nat.add_zero]
theorem vl_digit {B : Nat} {g : Nat → Nat} {n k : Nat} (hB : 0 < B) (h : ∀ j, j < n → g j < B) (hk : k < n) : vl B g n / B ^ k % B = g k := by
  obtain ⟨d, rfl⟩ : ∃ d, n = k + (1 + d) := ⟨n - k - 1, by omega⟩
  rw [vl_div (fun j hj => h j (by omega)), vl_add]
  have e : vl B (fun j => g (k + j)) 1 = g k := by simp [vl]
  rw [e, Nat.pow_one, Nat.add_mul_mod_self_left, Nat.mod_eq_of_lt (h k hk)]
theorem vl_inj {B : Nat} {g g' : Nat → Nat} {n : Nat} (hB : 0 < B) (h : ∀ j, j < n → g j < B) (h' : ∀ j, j < n → g' j < B) (e : vl B g n = vl B g' n) : ∀ j, j < n → g j = g' j := fun j hj => by
  rw [← vl_digit hB h hj, e, vl_digit hB h' hj]
/-! ===== the same, where the answer is known ===== -/
theorem q_b1 {β α : Type} {e : Option β} {f : β → Option α} {r : β} {x : Option α} (h : e = some r) (k : f r = x) : e.bind f = x := by subst h; exact k
theorem q_t {α : Type} {c : Prop} [Decidable c] {A B : α} {x : α} (h : c) (t : A = x) : (if c then A else B) = x := by rw [if_pos h]; exact t
theorem q_f {α : Type} {c : Prop} [Decidable c] {A B : α} {x : α} (h : ¬ c) (t : B = x) : (if c then A else B) = x := by rw [if_neg h]; exact t
theorem q_lt {β α : Type} {e : β} {f : β → α} {x : α} (k : f e = x) : lt e f = x := k
theorem q_le {β α : Type} {e y : β} {f : β → α} {x : α} (h : e = y) (k : f y = x) : lt e f = x := by subst h; exact k
theorem q_j1 {β α : Type} {f : β → α} {g : (β → α) → α} {x : α} (y : β) (h : ∀ k : β → α, g k = k y) (k : f y = x) : jn f g = x := by unfold jn; rw [h]; exact k
theorem q_bd {τ ρ : Type} {e : Rs τ} {f : τ → St → Rs ρ} {a : τ} {σ1 : St} {k s : Nat} {r : ρ} {σ2 : St} {k' s' : Nat} (h : e = some (a, σ1, k, s)) (h2 : f a σ1 = some (r, σ2, k', s')) : bd e f = some (r, σ2, k + k', s + s') := by
  subst h
  unfold bd
  show ac k s (f a σ1) = _
  rw [h2]
  rfl
theorem q_bd0 {τ ρ : Type} {e : Rs τ} {f : τ → St → Rs ρ} {a : τ} {σ1 : St} {x : Rs ρ} (h : e = some (a, σ1, 0, 0)) (h2 : f a σ1 = x) : bd e f = x := by
  subst h
  unfold bd
  show ac 0 0 (f a σ1) = _
  rw [h2]
  cases x with
  | none => rfl
  | some z =>
    obtain ⟨r, σ2, k', s'⟩ := z
    show some (r, σ2, 0 + k', 0 + s') = _
    rw [Nat.zero_add, Nat.zero_add]
theorem q_ob {α : Type} {σ : St} {ci a : Nat} {e : Option α} {fs : List Value} {x : Option α} (h : σ.1 a = some (.inr (.inl (ci, fs)))) (k : e = x) : ob σ ci a e = x := by
  unfold ob
  rw [h]
  show (if ci = ci then e else none) = x
  rw [if_pos rfl]
  exact k
theorem q_nw {ρ : Type} {σ : St} {e : Cel} {n : Nat} {f : Nat → St → Rs ρ} {r : ρ} {σ2 : St} {k' s' : Nat} (h : f σ.2.1 (nwH σ e) = some (r, σ2, k', s')) : nw σ e n f = some (r, σ2, 1 + k', n + s') := by
  unfold nw
  rw [h]
  rfl
theorem e_eq {ρ : Type} {e : Rs ρ} {P : ρ → St → Nat → Nat → Prop} {r : ρ} {σ : St} {k s : Nat} (h : e = some (r, σ, k, s)) (hp : P r σ k s) : Ye e P := ⟨r, σ, k, s, h, hp⟩
theorem y_eq {ρ : Type} {e : Option ρ} {P : ρ → Prop} {r : ρ} (h : e = some r) (hp : P r) : Yes e P := ⟨r, h, hp⟩
theorem e_bd1 {τ ρ : Type} {P : ρ → St → Nat → Nat → Prop} {e : Rs τ} {f : τ → St → Rs ρ} {a : τ} {σ1 : St} {kc sc : Nat} (h : e = some (a, σ1, kc, sc)) (k : Ye (f a σ1) (fun r σ2 k' s' => P r σ2 (kc + k') (sc + s'))) : Ye (bd e f) P := by
  obtain ⟨r, σ2, k', s', h1, h2⟩ := k
  exact ⟨r, σ2, kc + k', sc + s', q_bd h h1, h2⟩
theorem e_bd0 {τ ρ : Type} {P : ρ → St → Nat → Nat → Prop} {e : Rs τ} {f : τ → St → Rs ρ} {a : τ} {σ1 : St} (h : e = some (a, σ1, 0, 0)) (k : Ye (f a σ1) P) : Ye (bd e f) P := by
  obtain ⟨r, σ2, k', s', h1, h2⟩ := k
  exact ⟨r, σ2, k', s', (q_bd0 h h1), h2⟩
/-- a join that is not taken -/
theorem e_jno {ρ β : Type} {P : ρ → St → Nat → Nat → Prop} {f : β → Rs ρ} {g : (β → Rs ρ) → Rs ρ} (h2 : ∀ k : β → Rs ρ, Ye (g k) P) : Ye (jn f g) P := h2 f
