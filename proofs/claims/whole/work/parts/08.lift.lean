section R5
variable {K : Cq} {cc : ByteArray} {own : String} {kr sr ko so : Nat} {σ : St} {pc : Nat} {lv : List (Nat × Value)} {st : List Value}
theorem v_at (pc1 : Nat) (h : pc = pc1) (kk : V K kr sr σ pc1 lv st) : V K kr sr σ pc lv st := h ▸ kk
theorem v_ltI {e : Int32} {τ : Type} {k : Int32 → Option τ} {res : τ} (hf : lt e k = some res) (kk : ∀ x : Int32, k x = some res → V K kr sr σ pc lv (.int x :: st)) : V K kr sr σ pc lv (.int e :: st) := kk e hf
theorem v_ltL {e : Int64} {τ : Type} {k : Int64 → Option τ} {res : τ} (hf : lt e k = some res) (kk : ∀ x : Int64, k x = some res → V K kr sr σ pc lv (.long x :: st)) : V K kr sr σ pc lv (.long e :: st) := kk e hf
theorem v_incL (hC : Cx K cc own) {i N : Nat} {n : Int} {x c : Int32} {τ : Type} {k : Int32 → Option τ} {res : τ} (hf : lt (x + c) k = some res) (pos : Nat) (lv1 : Int32 → List (Nat × Value)) (hd : decode cc pc = .ok (.iinc i n, 3)) (hk : lv[pos]? = some (i, .int x)) (hv : Int32.ofInt n = c) (hN : kn K = N) (hn : i < N) (hl : ∀ v : Int32, (i, Value.int v) :: lv.filter (fun q => !(q.1 == i) && !(q.1 + 1 == i && q.2.category == 2)) = lv1 v) (kk : ∀ v : Int32, k v = some res → V K kr sr σ (pc + 3) (lv1 v) st) : V K kr sr σ pc lv st := by
  subst hv
  exact v_iinc hC pos (lv1 (x + Int32.ofInt n)) hd hk rfl hN hn (hl _) (kk _ hf)
theorem v_jnE {α τ : Type} {f : α → Rs τ} {g : (α → Rs τ) → Rs τ} {rr : τ} {σf : St} {X : Prop} (hf : jn f g = some (rr, σf, kr, sr)) (P : α → Nat → Nat → Prop) (h1 : ∀ v k s, f v = some (rr, σf, k, s) → P v k s) (h2 : ∀ kf : α → Rs τ, (∀ v k s, kf v = some (rr, σf, k, s) → P v k s) → g kf = some (rr, σf, kr, sr) → X) : X := h2 f h1 hf
theorem v_jnP {α τ : Type} {f : α → Option τ} {g : (α → Option τ) → Option τ} {res : τ} {X : Prop} (hf : jn f g = some res) (P : α → Prop) (h1 : ∀ v, f v = some res → P v) (h2 : ∀ kf : α → Option τ, (∀ v, kf v = some res → P v) → g kf = some res → X) : X := h2 f h1 hf
/-- a loop, then what follows -/
theorem v_lpE {β τ : Type} {fl : Rs β} {kf : β → St → Rs τ} {rr : τ} {σf : St} (hf : bd fl kf = some (rr, σf, kr, sr)) (E : β → St → Nat → Nat → Prop) (hl : ∀ y σ1 k s k' s', fl = some (y, σ1, k, s) → E y σ1 k' s' → V K (k + k') (s + s') σ pc lv st) (kk : ∀ y σ1 k' s', kf y σ1 = some (rr, σf, k', s') → E y σ1 (k' + ko) (s' + so)) : V K (kr + ko) (sr + so) σ pc lv st := by
  obtain ⟨y, σ1, k, s, k', s', h1, h2, rfl, rfl⟩ := bd_some hf
  rw [Nat.add_assoc, Nat.add_assoc]
  exact hl y σ1 k s _ _ h1 (kk y σ1 k' s' h2)
theorem v_lpP {β τ : Type} {fl : Option β} {kf : β → Option τ} {res : τ} (hf : fl.bind kf = some res) (E : β → Prop) (hl : ∀ y, fl = some y → E y → V K kr sr σ pc lv st) (kk : ∀ y, kf y = some res → E y) : V K kr sr σ pc lv st := by
  obtain ⟨y, h1, h2⟩ := Option.bind_eq_some_iff.mp hf
  exact hl y h1 (kk y h2)
theorem v_exE {β : Type} {y y0 : β} {σ1 : St} {E : β → St → Nat → Nat → Prop} (hf : some (y, σ, 0, 0) = some (y0, σ1, kr, sr)) (hE : E y0 σ1 ko so) : E y σ ko so ∧ kr + ko = ko ∧ sr + so = so := by
  cases hf
  exact ⟨hE, Nat.zero_add _, Nat.zero_add _⟩
theorem v_exP {β : Type} {y y0 : β} {E : β → Prop} (hf : some y = some y0) (hE : E y0) : E y := by
  cases hf
  exact hE
theorem v_cVE (hC : Cx K cc own) {index b ci n : Nat} {y : MethodName} {bytes : ByteArray} {maxL F L Fr Lr k0 s0 : Nat} {ret : Option FieldType} {cq : vw_C} {ρ τ : Type} {fc : Rs ρ} {kf : ρ → St → Rs τ} {rr : τ} {σf : St} {stA : List Value} (As : List Value) (st : List Value) (rv : ρ → Option Value) (stk : ρ → List Value) (hf : bd fc kf = some (rr, σf, kr, sr)) (hM : ∀ r σ' k s, fc = some (r, σ', k, s) → (∃ fs : List Value, σ.1 b = some (.inr (.inl (ci, fs)))) ∧ Ct (kG K) (kl K) y bytes maxL ret F L (.ref b :: As) σ (rv r) σ' k s) (hsA : stA = As.reverse ++ .ref b :: st) (hsk : ∀ r, (rv r).toList ++ st = stk r) (hc : vwCl[ci]? = some cq) (hy : y.cls = cq.1) (hR : kR K = rmF Fr Lr k0 s0) (hF : F + 1 ≤ Fr) (hL : 8 + (maxL + 11) + L ≤ Lr) (w1 : Cond.code y bytes maxL ret ∈ GT) (w2 : Cond.methodLink own index y ∈ GT) (w3 : Cond.instanceMethod y ∈ GT) (w4 : Cond.selects y.cls y y ∈ GT) (w5 : Cond.initialized y.cls ∈ GT) (hn : y.cls ≠ "java/lang/invoke/MethodHandle" ∧ y.cls ≠ "java/lang/invoke/VarHandle" ∧ (parseMethodDescriptor y.desc).map (fun d => d.parameters.length) = some n) (hlen : As.length = n) (hst : (st.map fun v => v.category).sum ≤ 8) (hd : decode cc pc = .ok (.invokevirtual index, 3))
    (kk : ∀ r σ1 k' s', kf r σ1 = some (rr, σf, k', s') → V K (k' + ko) (s' + so) σ1 (pc + 3) lv (stk r)) : V K (kr + ko) (sr + so) σ pc lv stA := by
  obtain ⟨r, σ1, k, s, k', s', h1, h2, rfl, rfl⟩ := bd_some hf
  obtain ⟨⟨fs, hb⟩, hM⟩ := hM r σ1 k s h1
  rw [hsA, Nat.add_assoc, Nat.add_assoc]
  exact v_rmV (as := []) hC hM hb hc hy hR hF hL w1 w2 w3 w4 w5 hn hlen hst hd (by rw [hsk]; exact kk r σ1 k' s' h2)
theorem v_cVP (hC : Cx K cc own) {index b ci n : Nat} {y : MethodName} {bytes : ByteArray} {maxL F L Fr Lr k0 s0 : Nat} {ret : Option FieldType} {cq : vw_C} {ρ τ : Type} {fc : Option ρ} {kf : ρ → Option τ} {res : τ} {stA : List Value} (As : List Value) (st : List Value) (rv : ρ → Option Value) (stk : ρ → List Value) (hf : fc.bind kf = some res) (hM : ∀ r, fc = some r → (∃ fs : List Value, σ.1 b = some (.inr (.inl (ci, fs)))) ∧ Ct (kG K) (kl K) y bytes maxL ret F L (.ref b :: As) σ (rv r) σ 0 0) (hsA : stA = As.reverse ++ .ref b :: st) (hsk : ∀ r, (rv r).toList ++ st = stk r) (hc : vwCl[ci]? = some cq) (hy : y.cls = cq.1) (hR : kR K = rmF Fr Lr k0 s0) (hF : F + 1 ≤ Fr) (hL : 8 + (maxL + 11) + L ≤ Lr) (w1 : Cond.code y bytes maxL ret ∈ GT) (w2 : Cond.methodLink own index y ∈ GT) (w3 : Cond.instanceMethod y ∈ GT) (w4 : Cond.selects y.cls y y ∈ GT) (w5 : Cond.initialized y.cls ∈ GT) (hn : y.cls ≠ "java/lang/invoke/MethodHandle" ∧ y.cls ≠ "java/lang/invoke/VarHandle" ∧ (parseMethodDescriptor y.desc).map (fun d => d.parameters.length) = some n) (hlen : As.length = n) (hst : (st.map fun v => v.category).sum ≤ 8) (hd : decode cc pc = .ok (.invokevirtual index, 3))
    (kk : ∀ r, kf r = some res → V K kr sr σ (pc + 3) lv (stk r)) : V K kr sr σ pc lv stA := by
  obtain ⟨r, h1, h2⟩ := Option.bind_eq_some_iff.mp hf
  obtain ⟨⟨fs, hb⟩, hM⟩ := hM r h1
  have := v_rmV (as := []) (kr := kr) (sr := sr) hC hM hb hc hy hR hF hL w1 w2 w3 w4 w5 hn hlen hst hd (by rw [hsk]; exact kk r h2)
  rw [hsA]
  rw [Nat.zero_add, Nat.zero_add] at this
  exact this
theorem v_cSE (hC : Cx K cc own) {index n : Nat} {y : MethodName} {bytes : ByteArray} {maxL F L Fr Lr k0 s0 : Nat} {ret : Option FieldType} {ρ τ : Type} {fc : Rs ρ} {kf : ρ → St → Rs τ} {rr : τ} {σf : St} {stA : List Value} (As : List Value) (st : List Value) (rv : ρ → Option Value) (stk : ρ → List Value) (hf : bd fc kf = some (rr, σf, kr, sr)) (hM : ∀ r σ' k s, fc = some (r, σ', k, s) → Ct (kG K) (kl K) y bytes maxL ret F L As σ (rv r) σ' k s) (hsA : stA = As.reverse ++ st) (hsk : ∀ r, (rv r).toList ++ st = stk r) (hR : kR K = rmF Fr Lr k0 s0) (hF : F + 1 ≤ Fr) (hL : 8 + (maxL + 11) + L ≤ Lr) (w1 : Cond.code y bytes maxL ret ∈ GT) (w2 : Cond.methodLink own index y ∈ GT) (w3 : Cond.static y ∈ GT) (w5 : Cond.initialized y.cls ∈ GT) (hn : y.cls ≠ "java/lang/invoke/MethodHandle" ∧ y.cls ≠ "java/lang/invoke/VarHandle" ∧ (parseMethodDescriptor y.desc).map (fun d => d.parameters.length) = some n) (hlen : As.length = n) (hst : (st.map fun v => v.category).sum ≤ 8) (hd : decode cc pc = .ok (.invokestatic index, 3))
    (kk : ∀ r σ1 k' s', kf r σ1 = some (rr, σf, k', s') → V K (k' + ko) (s' + so) σ1 (pc + 3) lv (stk r)) : V K (kr + ko) (sr + so) σ pc lv stA := by
  obtain ⟨r, σ1, k, s, k', s', h1, h2, rfl, rfl⟩ := bd_some hf
  rw [hsA, Nat.add_assoc, Nat.add_assoc]
  exact v_rmS hC (hM r σ1 k s h1) hR hF hL w1 w2 w3 w5 hn hlen hst hd (by rw [hsk]; exact kk r σ1 k' s' h2)
theorem v_cSP (hC : Cx K cc own) {index n : Nat} {y : MethodName} {bytes : ByteArray} {maxL F L Fr Lr k0 s0 : Nat} {ret : Option FieldType} {ρ τ : Type} {fc : Option ρ} {kf : ρ → Option τ} {res : τ} {stA : List Value} (As : List Value) (st : List Value) (rv : ρ → Option Value) (stk : ρ → List Value) (hf : fc.bind kf = some res) (hM : ∀ r, fc = some r → Ct (kG K) (kl K) y bytes maxL ret F L As σ (rv r) σ 0 0) (hsA : stA = As.reverse ++ st) (hsk : ∀ r, (rv r).toList ++ st = stk r) (hR : kR K = rmF Fr Lr k0 s0) (hF : F + 1 ≤ Fr) (hL : 8 + (maxL + 11) + L ≤ Lr) (w1 : Cond.code y bytes maxL ret ∈ GT) (w2 : Cond.methodLink own index y ∈ GT) (w3 : Cond.static y ∈ GT) (w5 : Cond.initialized y.cls ∈ GT) (hn : y.cls ≠ "java/lang/invoke/MethodHandle" ∧ y.cls ≠ "java/lang/invoke/VarHandle" ∧ (parseMethodDescriptor y.desc).map (fun d => d.parameters.length) = some n) (hlen : As.length = n) (hst : (st.map fun v => v.category).sum ≤ 8) (hd : decode cc pc = .ok (.invokestatic index, 3))
    (kk : ∀ r, kf r = some res → V K kr sr σ (pc + 3) lv (stk r)) : V K kr sr σ pc lv stA := by
  obtain ⟨r, h1, h2⟩ := Option.bind_eq_some_iff.mp hf
  have := v_rmS (kr := kr) (sr := sr) hC (hM r h1) hR hF hL w1 w2 w3 w5 hn hlen hst hd (by rw [hsk]; exact kk r h2)
  rw [hsA]
  rw [Nat.zero_add, Nat.zero_add] at this
  exact this
theorem v_cIE (hC : Cx K cc own) {index b n : Nat} {y : MethodName} {bytes : ByteArray} {maxL F L Fr Lr k0 s0 : Nat} {ρ τ : Type} {fc : Rs ρ} {kf : ρ → St → Rs τ} {rr : τ} {σf : St} {stA : List Value} (As : List Value) (st : List Value) (hf : bd fc kf = some (rr, σf, kr, sr)) (hM : ∀ r σ' k s, fc = some (r, σ', k, s) → Ct (kG K) (kl K) y bytes maxL none F L (.ref b :: As) σ none σ' k s) (hsA : stA = As.reverse ++ .ref b :: st) (hR : kR K = rmF Fr Lr k0 s0) (hF : F + 1 ≤ Fr) (hL : 8 + (maxL + 11) + L ≤ Lr) (w1 : Cond.code y bytes maxL none ∈ GT) (w2 : Cond.methodLink own index y ∈ GT) (w3 : Cond.instanceMethod y ∈ GT) (w5 : Cond.initialized y.cls ∈ GT) (hy : y.name = "<init>") (hn : y.cls ≠ "java/lang/invoke/MethodHandle" ∧ y.cls ≠ "java/lang/invoke/VarHandle" ∧ (parseMethodDescriptor y.desc).map (fun d => d.parameters.length) = some n) (hlen : As.length = n) (hst : (st.map fun v => v.category).sum ≤ 8) (hd : decode cc pc = .ok (.invokespecial index, 3))
    (kk : ∀ r σ1 k' s', kf r σ1 = some (rr, σf, k', s') → V K (k' + ko) (s' + so) σ1 (pc + 3) lv st) : V K (kr + ko) (sr + so) σ pc lv stA := by
  obtain ⟨r, σ1, k, s, k', s', h1, h2, rfl, rfl⟩ := bd_some hf
  rw [hsA, Nat.add_assoc, Nat.add_assoc]
  exact v_rmI hC (hM r σ1 k s h1) hR hF hL w1 w2 w3 w5 hy hn hlen hst hd (kk r σ1 k' s' h2)
theorem v_cIN (hC : Cx K cc own) {index b n : Nat} {y : MethodName} {host : String} {bytes : ByteArray} {maxL F L Fr Lr k0 s0 : Nat} {ρ τ : Type} {fc : Rs ρ} {kf : ρ → St → Rs τ} {rr : τ} {σf : St} {stA : List Value} (As : List Value) (st : List Value) (hf : bd fc kf = some (rr, σf, kr, sr)) (hM : ∀ r σ' k s, fc = some (r, σ', k, s) → Ct (kG K) (kl K) y bytes maxL none F L (.ref b :: As) σ none σ' k s) (hsA : stA = As.reverse ++ .ref b :: st) (hR : kR K = rmF Fr Lr k0 s0) (hF : F + 1 ≤ Fr) (hL : 8 + (maxL + 11) + L ≤ Lr) (w1 : Cond.code y bytes maxL none ∈ GT) (w2 : Cond.methodLinkNest own index y host ∈ NW) (w3 : Cond.instanceMethod y ∈ GT) (w5 : Cond.initialized y.cls ∈ GT) (hy : y.name = "<init>") (hn : y.cls ≠ "java/lang/invoke/MethodHandle" ∧ y.cls ≠ "java/lang/invoke/VarHandle" ∧ (parseMethodDescriptor y.desc).map (fun d => d.parameters.length) = some n) (hlen : As.length = n) (hst : (st.map fun v => v.category).sum ≤ 8) (hd : decode cc pc = .ok (.invokespecial index, 3))
    (kk : ∀ r σ1 k' s', kf r σ1 = some (rr, σf, k', s') → V K (k' + ko) (s' + so) σ1 (pc + 3) lv st) : V K (kr + ko) (sr + so) σ pc lv stA := by
  obtain ⟨r, σ1, k, s, k', s', h1, h2, rfl, rfl⟩ := bd_some hf
  rw [hsA, Nat.add_assoc, Nat.add_assoc]
  exact v_rmIN hC (hM r σ1 k s h1) hR hF hL w1 w2 w3 w5 hy hn hlen hst hd (kk r σ1 k' s' h2)
theorem v_retI (hC : Cx K cc own) {σ0 σf : St} {x r : Int32} (hf : some (x, σ, 0, 0) = some (r, σf, kr, sr)) (hE : End K σ0 (some .int) (some (.int r)) σf) (hd : decode cc pc = .ok (.ireturn, 1)) : V K (kr + 0) (sr + 0) σ pc lv [.int x] := by
  cases hf
  exact v_zret hC hE rfl hd
theorem v_retZ (hC : Cx K cc own) {σ0 σf : St} {x r : Int32} (hf : (isB x).bind (fun _ => some (x, σ, 0, 0)) = some (r, σf, kr, sr)) (hE : End K σ0 (some .boolean) (some (.int r)) σf) (hd : decode cc pc = .ok (.ireturn, 1)) : V K (kr + 0) (sr + 0) σ pc lv [.int x] := by
  obtain ⟨⟨h1, -⟩, hf⟩ := zB hf
  cases hf
  exact v_zret hC hE h1 hd
theorem v_retL (hC : Cx K cc own) {σ0 σf : St} {x r : Int64} (hf : some (x, σ, 0, 0) = some (r, σf, kr, sr)) (hE : End K σ0 (some .long) (some (.long r)) σf) (hd : decode cc pc = .ok (.lreturn, 1)) : V K (kr + 0) (sr + 0) σ pc lv [.long x] := by
  cases hf
  exact v_lret hC hE hd
theorem v_retA (hC : Cx K cc own) {σ0 σf : St} {t : FieldType} {x r : Nat} (hf : some (x, σ, 0, 0) = some (r, σf, kr, sr)) (hE : End K σ0 (some (.array t)) (some (.ref r)) σf) (hd : decode cc pc = .ok (.areturn, 1)) : V K (kr + 0) (sr + 0) σ pc lv [.ref x] := by
  cases hf
  exact v_aret hC hE hd
theorem v_retV (hC : Cx K cc own) {σ0 σf : St} {r : Unit} (hf : some ((), σ, 0, 0) = some (r, σf, kr, sr)) (hE : End K σ0 none none σf) (hd : decode cc pc = .ok (.return_, 1)) : V K (kr + 0) (sr + 0) σ pc lv [] := by
  cases hf
  exact v_vret hC hE hd
theorem v_retIP (hC : Cx K cc own) {σ0 : St} {x r : Int32} (hf : some x = some r) (hE : End K σ0 (some .int) (some (.int r)) σ) (hd : decode cc pc = .ok (.ireturn, 1)) : V K 0 0 σ pc lv [.int x] := by
  cases hf
  exact v_zret hC hE rfl hd
theorem v_retZP (hC : Cx K cc own) {σ0 : St} {x r : Int32} (hf : (isB x).bind (fun _ => some x) = some r) (hE : End K σ0 (some .boolean) (some (.int r)) σ) (hd : decode cc pc = .ok (.ireturn, 1)) : V K 0 0 σ pc lv [.int x] := by
  obtain ⟨⟨h1, -⟩, hf⟩ := zB hf
  cases hf
  exact v_zret hC hE h1 hd
theorem v_retLP (hC : Cx K cc own) {σ0 : St} {x r : Int64} (hf : some x = some r) (hE : End K σ0 (some .long) (some (.long r)) σ) (hd : decode cc pc = .ok (.lreturn, 1)) : V K 0 0 σ pc lv [.long x] := by
  cases hf
  exact v_lret hC hE hd
theorem v_bZ {x : Int32} {τ : Type} {f : Unit → Option τ} {res : τ} {X : Prop} (hf : (isB x).bind f = some res) (kk : narrow .boolean (.int x) = .int x → fits .boolean (.int x) = true → f () = some res → X) : X := by
  obtain ⟨⟨h1, h2⟩, h3⟩ := zB hf
  exact kk h1 h2 h3
theorem v_tabIn (hC : Cx K cc own) {dflt lo hi off : Int} {offs : Array Int} {len tgt : Nat} {x : Int32} (hd : decode cc pc = .ok (.tableswitch dflt lo hi offs, len)) (h1 : ¬ x.toInt < lo) (h2 : ¬ hi < x.toInt) (ho : offs[(x.toInt - lo).toNat]? = some off) (ht : (pc : Int) + off = (tgt : Int)) (kk : V K kr sr σ tgt lv st) : V K kr sr σ pc lv (.int x :: st) := fun H locs ls cells slots g1 g2 g3 g4 g5 g6 => lv_tableIn hC.1 hC.2.1 hd h1 h2 ho ht (kk H locs ls cells slots g1 g2 g3 g4 g5 g6)
theorem v_tabOut (hC : Cx K cc own) {dflt lo hi : Int} {offs : Array Int} {len tgt : Nat} {x : Int32} (hd : decode cc pc = .ok (.tableswitch dflt lo hi offs, len)) (h : x.toInt < lo ∨ hi < x.toInt) (ht : (pc : Int) + dflt = (tgt : Int)) (kk : V K kr sr σ tgt lv st) : V K kr sr σ pc lv (.int x :: st) := fun H locs ls cells slots g1 g2 g3 g4 g5 g6 => lv_tableOut hC.1 hC.2.1 hd h ht (kk H locs ls cells slots g1 g2 g3 g4 g5 g6)
end R5
