section R4
variable {K : Cq} {cc : ByteArray} {own : String} {kr sr : Nat} {σ : St} {pc : Nat} {lv : List (Nat × Value)} {st : List Value}
theorem pre_blind {G : Gm} {σ : St} {as : List Value} : FrameBlind (va_Pc as (fun U => Pic G σ U.heap ∧ KK G U)) := fun a U g mk h => ⟨h.1, h.2.1, KK.same (s := U) (U := U.calling g mk a) rfl h.2.2⟩
/-- behind a call: the state is the callee's, what it did not own is as it was -/
theorem v_after {g : JFrame} {rest : List Value} {r : Option Value} {σ' : St} {k s : Nat} {as : Array Value} {H : Heap} {locs : List Loc} {ls : Array Slot} {cells slots : Nat} (hg : g = F0 (km K) pc ls g.stack) (hr : va_Run (kp K) (kl K) (ke K) (kR K) (ks K) (km K) (ka K) (kb K) (kt K) (kc K) H locs cells slots k s g rest (Qof (kG K) σ r σ' as) (Aof σ))
    (h2 : va_S (kA K) (ks K).heap H locs) (h3 : ∀ q, Aof σ q → kA K q) (h4 : lv_has ls (kn K) lv) (h5 : cells + (k + kr) = kmc K) (h6 : slots + (s + sr) = kms K) (kk : V K kr sr σ' (pc + 3) lv (r.toList ++ rest)) : WK K H locs cells slots g := by
  intro T hT X
  obtain ⟨v, st₀, t, T', L, q1, X', hL, e1, e2, ⟨⟨hv, hP, hA⟩, hz, hk⟩, go⟩ := hr T hT X
  cases hv
  rw [q1] at hz hk
  have hS : va_S (kA K) (ks K).heap T'.heap (locs ++ L) := ⟨Nat.le_trans h2.1 (by rw [e1]; exact hz), fun q a1 a2 => by rw [e1, hk q (Nat.lt_of_lt_of_le a1 h2.1) (fun z => a2 (h3 q z))]; exact h2.2.1 q a1 a2, fun q hq => by
      rcases List.mem_append.mp hq with h | h
      · exact h2.2.2 q h
      · exact h3 _ (hL q h)⟩
  obtain ⟨t2, a1, b1⟩ := kk T'.heap (locs ++ L) ls (cells + k) (slots + s) (by rw [e1]; exact hP) hS (fun q hq => h3 q (hA q hq)) h4 (by omega) (by omega) T' rfl X'
  refine ⟨t2, go t2 ?_, b1⟩
  have hg2 : ({ g with pc := g.pc + 3, stack := r.toList ++ rest } : JFrame) = F0 (km K) (pc + 3) ls (r.toList ++ rest) := by rw [hg]
  rw [hg2]
  exact a1
theorem good_code {y : MethodName} {bytes : ByteArray} {maxL : Nat} {ret : Option FieldType} (h : Cond.code y bytes maxL ret ∈ GT) : GoodIn GT (Cond.code y bytes maxL ret :: GT) := fun w hw => ⟨(List.mem_cons.mp hw).elim (fun e => e ▸ h) id, good_of_word ((List.mem_cons.mp hw).elim (fun e => e ▸ (GT_ok _ h).2) (fun h => (GT_ok w h).2))⟩
theorem v_rmV (hC : Cx K cc own) {index b ci n : Nat} {y : MethodName} {bytes : ByteArray} {maxL F L Fr Lr k0 s0 k s : Nat} {ret : Option FieldType} {as As : List Value} {r : Option Value} {σ' : St} {cq : vw_C} {fs : List Value} (hM : Ct (kG K) (kl K) y bytes maxL ret F L (.ref b :: As) σ r σ' k s) (hb : σ.1 b = some (.inr (.inl (ci, fs)))) (hc : vwCl[ci]? = some cq) (hy : y.cls = cq.1) (hR : kR K = rmF Fr Lr k0 s0) (hF : F + 1 ≤ Fr) (hL : 8 + (maxL + 11) + L ≤ Lr) (w1 : Cond.code y bytes maxL ret ∈ GT) (w2 : Cond.methodLink own index y ∈ GT) (w3 : Cond.instanceMethod y ∈ GT) (w4 : Cond.selects y.cls y y ∈ GT) (w5 : Cond.initialized y.cls ∈ GT) (hn : y.cls ≠ "java/lang/invoke/MethodHandle" ∧ y.cls ≠ "java/lang/invoke/VarHandle" ∧ (parseMethodDescriptor y.desc).map (fun d => d.parameters.length) = some n) (hlen : As.length = n) (hst : (st.map fun v => v.category).sum ≤ 8) (hd : decode cc pc = .ok (.invokevirtual index, 3))
    (kk : V K kr sr σ' (pc + 3) lv (r.toList ++ st)) : V K (k + kr) (s + sr) σ pc lv (As.reverse ++ .ref b :: st) := by
  intro H locs ls cells slots h1 h2 h3 h4 h5 h6
  have hts := hC.2.2.2.2.1
  have b1 := hC.2.2.2.2.2.2.1
  have b2 := hC.2.2.2.2.2.2.2.1
  refine v_after (r := r) (σ' := σ') (k := k) (s := s) rfl (va_runV (Ts := GT) (own := own) (C := cq.1) (n := n) (bytes := bytes) (maxL := maxL) (ret := ret) ⟨hC.1, hC.2.1, hC.2.2.1, hC.2.2.2.1, hts⟩ hM ?_ ⟨pre_blind, va_recv hC.2.2.2.2.2.1.1 (va1 h1 hb) (q0 := 0) hc rfl, fun U hU hW => ⟨rfl, by rw [hU]; exact h1, hC.2.2.2.2.2.1.warm hW⟩⟩ rfl hlen h4.1 rfl (lv_room hst) hd ⟨by omega, by omega⟩) h2 h3 h4 h5 h6 kk
  refine ⟨callB_of n hts (good_code w1) rfl rfl rfl (hts _ w5) (hts _ w2) hn ⟨by rw [hR]; exact hF, by rw [hR]; exact hL⟩, hts _ w3, ?_⟩
  rw [← hy]
  exact hts _ w4
theorem v_rmS (hC : Cx K cc own) {index n : Nat} {y : MethodName} {bytes : ByteArray} {maxL F L Fr Lr k0 s0 k s : Nat} {ret : Option FieldType} {As : List Value} {r : Option Value} {σ' : St} (hM : Ct (kG K) (kl K) y bytes maxL ret F L As σ r σ' k s) (hR : kR K = rmF Fr Lr k0 s0) (hF : F + 1 ≤ Fr) (hL : 8 + (maxL + 11) + L ≤ Lr) (w1 : Cond.code y bytes maxL ret ∈ GT) (w2 : Cond.methodLink own index y ∈ GT) (w3 : Cond.static y ∈ GT) (w5 : Cond.initialized y.cls ∈ GT) (hn : y.cls ≠ "java/lang/invoke/MethodHandle" ∧ y.cls ≠ "java/lang/invoke/VarHandle" ∧ (parseMethodDescriptor y.desc).map (fun d => d.parameters.length) = some n) (hlen : As.length = n) (hst : (st.map fun v => v.category).sum ≤ 8) (hd : decode cc pc = .ok (.invokestatic index, 3))
    (kk : V K kr sr σ' (pc + 3) lv (r.toList ++ st)) : V K (k + kr) (s + sr) σ pc lv (As.reverse ++ st) := by
  intro H locs ls cells slots h1 h2 h3 h4 h5 h6
  have hts := hC.2.2.2.2.1
  have b1 := hC.2.2.2.2.2.2.1
  have b2 := hC.2.2.2.2.2.2.2.1
  exact v_after (r := r) (σ' := σ') (k := k) (s := s) rfl (va_runS (Ts := GT) (own := own) (n := n) (bytes := bytes) (maxL := maxL) (ret := ret) ⟨hC.1, hC.2.1, hC.2.2.1, hC.2.2.2.1, hts⟩ hM ⟨callB_of n hts (good_code w1) rfl rfl rfl (hts _ w5) (hts _ w2) hn ⟨by rw [hR]; exact hF, by rw [hR]; exact hL⟩, hts _ w3⟩ ⟨pre_blind, fun U hU hW => ⟨rfl, by rw [hU]; exact h1, hC.2.2.2.2.2.1.warm hW⟩⟩ rfl hlen h4.1 rfl (lv_room hst) hd ⟨by omega, by omega⟩) h2 h3 h4 h5 h6 kk
theorem v_rmI (hC : Cx K cc own) {index b n : Nat} {y : MethodName} {bytes : ByteArray} {maxL F L Fr Lr k0 s0 k s : Nat} {As : List Value} {r : Option Value} {σ' : St} (hM : Ct (kG K) (kl K) y bytes maxL none F L (.ref b :: As) σ r σ' k s) (hR : kR K = rmF Fr Lr k0 s0) (hF : F + 1 ≤ Fr) (hL : 8 + (maxL + 11) + L ≤ Lr) (w1 : Cond.code y bytes maxL none ∈ GT) (w2 : Cond.methodLink own index y ∈ GT) (w3 : Cond.instanceMethod y ∈ GT) (w5 : Cond.initialized y.cls ∈ GT) (hy : y.name = "<init>") (hn : y.cls ≠ "java/lang/invoke/MethodHandle" ∧ y.cls ≠ "java/lang/invoke/VarHandle" ∧ (parseMethodDescriptor y.desc).map (fun d => d.parameters.length) = some n) (hlen : As.length = n) (hst : (st.map fun v => v.category).sum ≤ 8) (hd : decode cc pc = .ok (.invokespecial index, 3))
    (kk : V K kr sr σ' (pc + 3) lv (r.toList ++ st)) : V K (k + kr) (s + sr) σ pc lv (As.reverse ++ .ref b :: st) := by
  intro H locs ls cells slots h1 h2 h3 h4 h5 h6
  have hts := hC.2.2.2.2.1
  have b1 := hC.2.2.2.2.2.2.1
  have b2 := hC.2.2.2.2.2.2.2.1
  exact v_after (r := r) (σ' := σ') (k := k) (s := s) rfl (va_runI (Ts := GT) (own := own) (n := n) (bytes := bytes) (maxL := maxL) ⟨hC.1, hC.2.1, hC.2.2.1, hC.2.2.2.1, hts⟩ hM ⟨callB_of n hts (good_code w1) rfl rfl rfl (hts _ w5) (hts _ w2) hn ⟨by rw [hR]; exact hF, by rw [hR]; exact hL⟩, hy, hts _ w3⟩ ⟨pre_blind, fun U hU hW => ⟨rfl, by rw [hU]; exact h1, hC.2.2.2.2.2.1.warm hW⟩⟩ rfl hlen h4.1 rfl (lv_room hst) hd ⟨by omega, by omega⟩) h2 h3 h4 h5 h6 kk
theorem v_rmIN (hC : Cx K cc own) {index b n : Nat} {y : MethodName} {host : String} {bytes : ByteArray} {maxL F L Fr Lr k0 s0 k s : Nat} {As : List Value} {r : Option Value} {σ' : St} (hM : Ct (kG K) (kl K) y bytes maxL none F L (.ref b :: As) σ r σ' k s) (hR : kR K = rmF Fr Lr k0 s0) (hF : F + 1 ≤ Fr) (hL : 8 + (maxL + 11) + L ≤ Lr) (w1 : Cond.code y bytes maxL none ∈ GT) (w2 : Cond.methodLinkNest own index y host ∈ NW) (w3 : Cond.instanceMethod y ∈ GT) (w5 : Cond.initialized y.cls ∈ GT) (hy : y.name = "<init>") (hn : y.cls ≠ "java/lang/invoke/MethodHandle" ∧ y.cls ≠ "java/lang/invoke/VarHandle" ∧ (parseMethodDescriptor y.desc).map (fun d => d.parameters.length) = some n) (hlen : As.length = n) (hst : (st.map fun v => v.category).sum ≤ 8) (hd : decode cc pc = .ok (.invokespecial index, 3))
    (kk : V K kr sr σ' (pc + 3) lv (r.toList ++ st)) : V K (k + kr) (s + sr) σ pc lv (As.reverse ++ .ref b :: st) := by
  intro H locs ls cells slots h1 h2 h3 h4 h5 h6
  have hts := hC.2.2.2.2.1
  have b1 := hC.2.2.2.2.2.2.1
  have b2 := hC.2.2.2.2.2.2.2.1
  exact v_after (r := r) (σ' := σ') (k := k) (s := s) rfl (va_runIN (Ts := GT) (own := own) (n := n) (bytes := bytes) (maxL := maxL) (host := host) ⟨hC.1, hC.2.1, hC.2.2.1, hC.2.2.2.1, hts⟩ hM ⟨va_cnB n hts (good_code w1) rfl rfl rfl (hC.2.2.2.2.2.1.2.2.2.2.1 _ w2) (hts _ w5) hn ⟨by rw [hR]; exact hF, by rw [hR]; exact hL⟩, hy, hts _ w3⟩ ⟨pre_blind, fun U hU hW => ⟨rfl, by rw [hU]; exact h1, hC.2.2.2.2.2.1.warm hW⟩⟩ rfl hlen h4.1 rfl (lv_room hst) hd ⟨by omega, by omega⟩) h2 h3 h4 h5 h6 kk
theorem v_oinit (hC : Cx K cc own) {index b Fr Lr k0 s0 : Nat} (hR : kR K = rmF Fr Lr k0 s0) (hF : 1 ≤ Fr) (hL : 20 ≤ Lr) (w1 : Cond.methodLink own index ⟨"java/lang/Object", "<init>", "()V"⟩ ∈ GT) (w2 : Cond.instanceMethod ⟨"java/lang/Object", "<init>", "()V"⟩ ∈ GT) (w3 : Cond.code ⟨"java/lang/Object", "<init>", "()V"⟩ ⟨#[0xb1]⟩ 1 none ∈ GT) (hst : (st.map fun v => v.category).sum ≤ 8) (hd : decode cc pc = .ok (.invokespecial index, 3)) (kk : V K kr sr σ (pc + 3) lv st) : V K kr sr σ pc lv (.ref b :: st) := by
  intro H locs ls cells slots h1 h2 h3 h4 h5 h6
  have hts := hC.2.2.2.2.1
  exact W.objInit hC.1 hC.2.1 hC.2.2.2.1 (hts _ w1) (hts _ w2) (hts _ w3) rfl (h4.1.trans hC.2.2.1.symm) rfl hd (by rw [hR]; exact hF) (by rw [hR]; show 2 * 0 + _ + 12 ≤ Lr; omega) (kk H locs ls cells slots h1 h2 h3 h4 h5 h6)
/-- a method's end -/
def End (K : Cq) (σ0 : St) (ret : Option FieldType) (r : Option Value) (σf : St) : Prop := kQ K = MQ (kb K) (Qof (kG K) σ0 r σf) (ka K) (ks K) (kmc K) (kms K) (Aof σ0) ∧ kA K = Aof σ0 ∧ (kt K).sig.returnType = ret ∧ (kt K).locks = false
theorem v_zret (hC : Cx K cc own) {σ0 : St} {ty : FieldType} {x : Int32} (hE : End K σ0 (some ty) (some (.int x)) σ) (hn : narrow ty (.int x) = .int x) (hd : decode cc pc = .ok (.ireturn, 1)) : V K 0 0 σ pc lv [.int x] := by
  obtain ⟨e1, e2, e3, e4⟩ := hE
  intro H locs ls cells slots h1 h2 h3 h4 h5 h6
  rw [Nat.add_zero] at h5 h6
  unfold WK
  rw [e1, ← h5, ← h6]
  rw [e2] at h2 h3
  exact W.zret hC.1 hC.2.1 e3 hn (fun t ht hW => ⟨⟨rfl, by rw [ht]; exact h1, h3⟩, h2.F ht⟩) h2.2.2 hd e4
theorem v_lret (hC : Cx K cc own) {σ0 : St} {x : Int64} (hE : End K σ0 (some .long) (some (.long x)) σ) (hd : decode cc pc = .ok (.lreturn, 1)) : V K 0 0 σ pc lv [.long x] := by
  obtain ⟨e1, e2, e3, e4⟩ := hE
  intro H locs ls cells slots h1 h2 h3 h4 h5 h6
  rw [Nat.add_zero] at h5 h6
  unfold WK
  rw [e1, ← h5, ← h6]
  rw [e2] at h2 h3
  exact W.lret hC.1 hC.2.1 e3 (fun t ht hW => ⟨⟨rfl, by rw [ht]; exact h1, h3⟩, h2.F ht⟩) h2.2.2 hd e4
theorem v_aret (hC : Cx K cc own) {σ0 : St} {t : FieldType} {x : Nat} (hE : End K σ0 (some (.array t)) (some (.ref x)) σ) (hd : decode cc pc = .ok (.areturn, 1)) : V K 0 0 σ pc lv [.ref x] := by
  obtain ⟨e1, e2, e3, e4⟩ := hE
  intro H locs ls cells slots h1 h2 h3 h4 h5 h6
  rw [Nat.add_zero] at h5 h6
  unfold WK
  rw [e1, ← h5, ← h6]
  rw [e2] at h2 h3
  exact W.aret hC.1 hC.2.1 e3 (Or.inr ⟨_, rfl⟩) (Or.inr ⟨_, rfl⟩) (fun t ht hW => ⟨⟨rfl, by rw [ht]; exact h1, h3⟩, h2.F ht⟩) h2.2.2 hd e4
theorem v_vret (hC : Cx K cc own) {σ0 : St} (hE : End K σ0 none none σ) (hd : decode cc pc = .ok (.return_, 1)) : V K 0 0 σ pc lv [] := by
  obtain ⟨e1, e2, e3, e4⟩ := hE
  intro H locs ls cells slots h1 h2 h3 h4 h5 h6
  rw [Nat.add_zero] at h5 h6
  unfold WK
  rw [e1, ← h5, ← h6]
  rw [e2] at h2 h3
  exact W.vret hC.1 hC.2.1 e3 (fun t ht hW => ⟨⟨rfl, by rw [ht]; exact h1, h3⟩, h2.F ht⟩) h2.2.2 hd e4
theorem Met.ofWF {l : Launch} {y : MethodName} {ws ws' : List Cond} {rm : Room} {Pc : Array Value → State → Prop} {Qc : Array Value → State → Outcome → State → Prop} {mc ms : Nat} {free : Addr → Prop} {cc : ByteArray} {maxL : Nat} {ret : Option FieldType}
    (hy : plainFor y = true) (hw : ws = Cond.code y cc maxL ret :: ws')
    (body : ∀ p e s m args below meth c s₁, BodyLoose p l y (headSpec ws rm) cc maxL ret e s m args below meth c s₁ → c.maxLocals = maxL → Pc args s →
      W p l e (headSpec ws rm).room s m args below meth c s.heap [] 0 0 (MQ below Qc args s mc ms free) (entryFrame m args maxL)) : Met l y ws rm Pc Qc mc ms free := by
  refine MetFree.of_bodySF (code := cc) (maxLocals := maxL) (ret := ret) hy ?_ ?_
  · intro args s m h hn
    obtain ⟨meth, c, h1, h2, h3, h4, h5, h6, -, -⟩ := Cond.code_spec hn (atoms_spec (ws := ws) h _ (by rw [hw]; exact List.mem_cons_self))
    exact ⟨meth, c, h1, h2, h3, h4, h5, h6⟩
  · intro p e s m args below meth c s₁ B hml hP _
    have hh0 : s₁.heap = s.heap := by rw [B.state]; rfl
    obtain ⟨t, a1, o, b1, b2, b3⟩ := body p e s m args below meth c s₁ B hml hP s₁ hh0 (Stand.of_body B)
    exact ⟨t, o, a1, b1, b2, ⟨b3.1, b3.2⟩⟩
/-- a contract out of one walk -/
theorem Ct.ofV {G : Gm} {l : Launch} {y : MethodName} {cc : ByteArray} {maxL : Nat} {ret : Option FieldType} {F L : Nat} {as : List Value} {σ : St} {r : Option Value} {σ' : St} {k s : Nat} (hy : plainFor y = true) (has : (lg_sl as).length ≤ maxL)
    (h : ∀ K : Cq, kR K = rmF F L k s → kn K = maxL → (kt K).name = y.name → Cx K cc y.cls → End K σ ret r σ' → V K k s σ 0 (lv_args 0 as) []) : Ct G l y cc maxL ret F L as σ r σ' k s := by
  refine Met.ofWF (cc := cc) (maxL := maxL) (ret := ret) hy rfl ?_
  intro p e s' m args below meth c s₁ B hml hv
  obtain ⟨rfl, hP, hK⟩ := hv
  have hts := atoms_spec (ws := Cond.code y cc maxL ret :: GT) B.pre
  have hA : ∀ q, Aof σ q → G.2.2.1.size ≤ q := fun q hq => by
    rcases hq with ⟨e1, q1, q2⟩ | q1
    · exact (hP.2.2.2.2 q e1 q1).2 q2
    · exact Nat.le_trans hP.2.1 q1
  have hl := lv_entry as has
  rw [lg_entry_eq]
  exact h (G, p, l, e, rmF F L k s, s', m, as.toArray, below, meth, c, maxL, Aof σ, MQ below (Qof G σ r σ') as.toArray s' k s (Aof σ), k, s) rfl rfl ((name_of_methodNamed B.named B.method).1) ⟨B.exec, B.bytes, hml, findClass_of_methodNamed B.named, fun w hw => hts w (List.mem_cons_of_mem _ hw), hK, Nat.le_refl _, Nat.le_refl _, hA⟩ ⟨rfl, rfl, B.returns, B.notSynchronized⟩ s'.heap [] _ 0 0 hP va_S.rf (fun q h => h) hl (Nat.zero_add _) (Nat.zero_add _)
theorem ob_some {β : Type} {σ : St} {ci a : Nat} {k : Option β} {res : β} (h : ob σ ci a k = some res) : (∃ fs : List Value, σ.1 a = some (.inr (.inl (ci, fs)))) ∧ k = some res := by
  unfold ob at h
  split at h
  · rename_i o ho
    by_cases hc : o.1 = ci
    · rw [if_pos hc] at h
      exact ⟨⟨o.2, by rw [ho, ← hc]⟩, h⟩
    · rw [if_neg hc] at h; cases h
  · cases h
end R4
