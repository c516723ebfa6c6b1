section R3
variable {K : Cq} {cc : ByteArray} {own : String} {kr sr : Nat} {σ : St} {pc : Nat} {lv : List (Nat × Value)} {st : List Value}
theorem ac_some {ρ : Type} {k s : Nat} {x : Rs ρ} {r : ρ} {σf : St} {kr sr : Nat} (h : ac k s x = some (r, σf, kr, sr)) : ∃ k' s', x = some (r, σf, k', s') ∧ kr = k + k' ∧ sr = s + s' := by
  unfold ac at h
  obtain ⟨z, hz, he⟩ := Option.map_eq_some_iff.mp h
  obtain ⟨a, b, c, d⟩ := z
  simp only [Prod.mk.injEq] at he
  obtain ⟨rfl, rfl, rfl, rfl⟩ := he
  exact ⟨c, d, hz, rfl, rfl⟩
theorem bd_some {α β : Type} {x : Rs α} {f : α → St → Rs β} {r : β} {σf : St} {kr sr : Nat} (h : bd x f = some (r, σf, kr, sr)) : ∃ a σ1 k s k' s', x = some (a, σ1, k, s) ∧ f a σ1 = some (r, σf, k', s') ∧ kr = k + k' ∧ sr = s + s' := by
  unfold bd at h
  obtain ⟨z, hz, h⟩ := Option.bind_eq_some_iff.mp h
  obtain ⟨a, b, c, d⟩ := z
  obtain ⟨k', s', h1, h2, h3⟩ := ac_some h
  exact ⟨a, b, c, d, k', s', hz, h1, h2, h3⟩
theorem v_new (hC : Cx K cc own) {ko so : Nat} {index ci N : Nat} {C : String} {T : u_T} {ty0 : Nat → FieldType} {fs : List Value} {ρ : Type} {f : Nat → St → Rs ρ} {r : ρ} {σf : St} (hf : nw σ (.inr (.inl (ci, fs))) N f = some (r, σf, kr, sr)) (hc : vwCl[ci]? = some (C, T, N)) (hu : ∀ w ∈ u_ws C T N, w ∈ GT) (hty : ∀ k, k < N → parseFieldDescriptor (T k).2.2.1 = some (ty0 k)) (hfs : ∀ j, j < N → defaultValue (ty0 j) = vp_V fs j) (w1 : Cond.classLink own index C ∈ GT) (w2 : Cond.instantiable C N ∈ GT) (w3 : Cond.initialized C ∈ GT) (hd : decode cc pc = .ok (.new index, 3))
    (kk : ∀ a σ1 k' s', f a σ1 = some (r, σf, k', s') → V K (k' + ko) (s' + so) σ1 (pc + 3) lv (.ref a :: st)) : V K (kr + ko) (sr + so) σ pc lv st := by
  obtain ⟨k', s', hf2, rfl, rfl⟩ := ac_some hf
  intro H locs ls cells slots h1 h2 h3 h4 h5 h6
  have hts := hC.2.2.2.2.1
  have hKn := hC.2.2.2.2.2.1.1.1 ci _ hc
  have b1 := hC.2.2.2.2.2.2.1
  have b2 := hC.2.2.2.2.2.2.2.1
  refine W.newcK hC.1 hC.2.1 hC.2.2.2.1 (hts _ w1) (hts _ w2) (hts _ w3) rfl hd (by omega) (by omega) hKn.2.1 h1.1 fun H1 kC hkC g1 g2 g3 => ?_
  have hat : atC (kG K) σ.2.1 (.inr (.inl (ci, fs))) H1 := ⟨_, hc, (u_born ty0 hts hu hKn hkC g1 hty).to hfs⟩
  exact kk σ.2.1 _ k' s' hf2 H1 locs ls (cells + 1) (slots + N) (h1.push hat g2 (fun q hq => g3 q hq)) ⟨Nat.le_trans h2.1 (by rw [h1.1, g2]; exact Nat.le_succ _), fun q q1 q2 => (g3 q (by rw [← h1.1]; exact Nat.lt_of_lt_of_le q1 h2.1)).trans (h2.2.1 q q1 q2), h2.2.2⟩ (fun q hq => h3 q (Aof.push hq)) h4 (by omega) (by omega)
theorem lenOk_some {n : Int32} {τ : Type} {f : Unit → Option τ} {res : τ} (hf : (lenOk n).bind f = some res) : ¬ n < 0 ∧ n.toNatClampNeg ≤ 1000000 ∧ f () = some res := by
  unfold lenOk at hf
  by_cases h : n < 0 ∨ 1000000 < n.toNatClampNeg
  · rw [if_pos h] at hf; cases hf
  · rw [if_neg h] at hf
    exact ⟨fun q => h (Or.inl q), Nat.not_lt.mp fun q => h (Or.inr q), hf⟩
theorem cI_eq {G : Gm} {s : State} (hK : KK G s) {cA : ClassId} (h : s.vm.findClass ("[" ++ FieldType.int.toString) = some cA) : cA = G.2.1 .int := Option.some.inj (h.symm.trans (hK.2.1 .int (Or.inl rfl)).2)
theorem cB_eq {G : Gm} {s : State} (hK : KK G s) {cA : ClassId} (h : s.vm.findClass ("[" ++ FieldType.byte.toString) = some cA) : cA = G.2.1 .byte := Option.some.inj (h.symm.trans (hK.2.1 .byte (Or.inr (Or.inl rfl))).2)
theorem v_newI (hC : Cx K cc own) {ko so : Nat} {n : Int32} {ρ : Type} {f : Nat → St → Rs ρ} {r : ρ} {σf : St} (hf : (lenOk n).bind (fun _ => nw σ (arI n) n.toNatClampNeg f) = some (r, σf, kr, sr)) (w1 : Cond.arrayClass .int ∈ GT) (hd : decode cc pc = .ok (.newarray .int, 2))
    (kk : ∀ a σ1 k' s', f a σ1 = some (r, σf, k', s') → V K (k' + ko) (s' + so) σ1 (pc + 2) lv (.ref a :: st)) : V K (kr + ko) (sr + so) σ pc lv (.int n :: st) := by
  obtain ⟨hn, hle, hf⟩ := lenOk_some hf
  obtain ⟨k', s', hf2, rfl, rfl⟩ := ac_some hf
  intro H locs ls cells slots h1 h2 h3 h4 h5 h6
  have b1 := hC.2.2.2.2.2.2.1
  have b2 := hC.2.2.2.2.2.2.2.1
  refine va_newaK hC.1 hC.2.1 (atype := .int) (hC.2.2.2.2.1 _ w1) rfl hd rfl hn rfl (by show n.toNatClampNeg * 4 ≤ 536870912; omega) (by omega) (by omega) h1.1 fun H1 cA g1 g2 g3 g4 g5 => ?_
  have hcA := cI_eq hC.2.2.2.2.2.1 g5
  have hat : atC (kG K) σ.2.1 (arI n) H1 := ⟨Or.inl rfl, by rw [g1, hcA]; rfl, fitI⟩
  exact kk σ.2.1 _ k' s' hf2 H1 locs ls (cells + 1) (slots + n.toNatClampNeg) (h1.push hat g2 (fun q hq => g3 q hq)) ⟨Nat.le_trans h2.1 (by rw [h1.1, g2]; exact Nat.le_succ _), fun q q1 q2 => (g3 q (by rw [← h1.1]; exact Nat.lt_of_lt_of_le q1 h2.1)).trans (h2.2.1 q q1 q2), h2.2.2⟩ (fun q hq => h3 q (Aof.push hq)) h4 (by omega) (by omega)
theorem v_newB (hC : Cx K cc own) {ko so : Nat} {n : Int32} {ρ : Type} {f : Nat → St → Rs ρ} {r : ρ} {σf : St} (hf : (lenOk n).bind (fun _ => nw σ (arB n) n.toNatClampNeg f) = some (r, σf, kr, sr)) (w1 : Cond.arrayClass .byte ∈ GT) (hd : decode cc pc = .ok (.newarray .byte, 2))
    (kk : ∀ a σ1 k' s', f a σ1 = some (r, σf, k', s') → V K (k' + ko) (s' + so) σ1 (pc + 2) lv (.ref a :: st)) : V K (kr + ko) (sr + so) σ pc lv (.int n :: st) := by
  obtain ⟨hn, hle, hf⟩ := lenOk_some hf
  obtain ⟨k', s', hf2, rfl, rfl⟩ := ac_some hf
  intro H locs ls cells slots h1 h2 h3 h4 h5 h6
  have b1 := hC.2.2.2.2.2.2.1
  have b2 := hC.2.2.2.2.2.2.2.1
  refine va_newaK hC.1 hC.2.1 (atype := .byte) (hC.2.2.2.2.1 _ w1) rfl hd rfl hn rfl (by show n.toNatClampNeg * 1 ≤ 536870912; omega) (by omega) (by omega) h1.1 fun H1 cA g1 g2 g3 g4 g5 => ?_
  have hcA := cB_eq hC.2.2.2.2.2.1 g5
  have hat : atC (kG K) σ.2.1 (arB n) H1 := ⟨Or.inr (Or.inl rfl), by rw [g1, hcA]; rfl, fitBB (fun _ => rfl)⟩
  exact kk σ.2.1 _ k' s' hf2 H1 locs ls (cells + 1) (slots + n.toNatClampNeg) (h1.push hat g2 (fun q hq => g3 q hq)) ⟨Nat.le_trans h2.1 (by rw [h1.1, g2]; exact Nat.le_succ _), fun q q1 q2 => (g3 q (by rw [← h1.1]; exact Nat.lt_of_lt_of_le q1 h2.1)).trans (h2.2.1 q q1 q2), h2.2.2⟩ (fun q hq => h3 q (Aof.push hq)) h4 (by omega) (by omega)
theorem v_anew (hC : Cx K cc own) {ko so : Nat} {n : Int32} {index : Nat} {ρ : Type} {f : Nat → St → Rs ρ} {r : ρ} {σf : St} (hf : (lenOk n).bind (fun _ => nw σ (arA n) n.toNatClampNeg f) = some (r, σf, kr, sr)) (w1 : Cond.classLink own index "TensMill$Decimal" ∈ GT) (hd : decode cc pc = .ok (.anewarray index, 3))
    (kk : ∀ a σ1 k' s', f a σ1 = some (r, σf, k', s') → V K (k' + ko) (s' + so) σ1 (pc + 3) lv (.ref a :: st)) : V K (kr + ko) (sr + so) σ pc lv (.int n :: st) := by
  obtain ⟨hn, hle, hf⟩ := lenOk_some hf
  obtain ⟨k', s', hf2, rfl, rfl⟩ := ac_some hf
  intro H locs ls cells slots h1 h2 h3 h4 h5 h6
  have b1 := hC.2.2.2.2.2.2.1
  have b2 := hC.2.2.2.2.2.2.2.1
  have hK := hC.2.2.2.2.2.1
  refine W.anew hC.1 hC.2.1 hC.2.2.2.1 (hC.2.2.2.2.1 _ w1) (va_AO.use hK.2.2.2.2.2) rfl hd rfl hn (by omega) (by omega) (by omega) fun cA kA comp e1 e2 e3 e4 => ?_
  obtain ⟨kA', comp', f1, f2, f3, f4⟩ := (hK.2.1 (.object "TensMill$Decimal") (Or.inr (Or.inr rfl))).2
  have hcA : cA = (kG K).2.1 (.object "TensMill$Decimal") := Option.some.inj (e1.symm.trans f4)
  have hat : atC (kG K) σ.2.1 (arA n) (H.push { cls := cA, slots := Array.replicate n.toNatClampNeg .null, vm := .none }) := by
    refine ⟨Or.inr (Or.inr rfl), ?_, fitA⟩
    rw [← h1.1, hcA]
    show _ = some (vp_cell _ (n.toNatClampNeg, .inr (.inr (.inr (.inr (fun _ => none))))))
    rw [vp_cell_q]
    simp only [va_rf]
    rw [← arrV_new]
    simp
  rw [h1.1]
  exact kk σ.2.1 _ k' s' hf2 _ locs ls (cells + 1) (slots + n.toNatClampNeg) (h1.push hat (by simp [h1.1]) (fun q hq => by rw [Array.getElem?_push, if_neg (by rw [h1.1]; omega)])) ⟨Nat.le_trans h2.1 (by simp), fun q q1 q2 => by
    rw [Array.getElem?_push, if_neg (Nat.ne_of_lt (Nat.lt_of_lt_of_le q1 h2.1))]
    exact h2.2.1 q q1 q2, h2.2.2⟩ (fun q hq => h3 q (Aof.push hq)) h4 (by omega) (by omega)
theorem v_stA (hC : Cx K cc own) {a x : Nat} {i : Int32} {τ : Type} {f : St → Option τ} {res : τ} (hf : (stA σ a i x).bind f = some res) (hd : decode cc pc = .ok (.aastore, 1)) (kk : ∀ σ1 : St, f σ1 = some res → V K kr sr σ1 (pc + 1) lv st) : V K kr sr σ pc lv (.ref x :: .int i :: .ref a :: st) := by
  obtain ⟨σ1, hx, hf⟩ := Option.bind_eq_some_iff.mp hf
  intro H locs ls cells slots h1 h2 h3 h4 h5 h6
  unfold stA at hx
  split at hx
  · rename_i n g o hs ho
    obtain ⟨ci, vs⟩ := o
    by_cases hc : ci = 0
    · rw [if_pos hc] at hx
      subst hc
      by_cases hin : i < 0 ∨ n ≤ i.toNatClampNeg
      · rw [if_pos hin] at hx; cases hx
      · rw [if_neg hin] at hx
        cases hx
        have hK := hC.2.2.2.2.2.1
        have hlt : i.toNatClampNeg < n := Nat.not_le.mp fun q => hin (Or.inr q)
        have h0 : ¬ i < 0 := fun q => hin (Or.inl q)
        obtain ⟨r', hr', cellV, g1, g2, g3, -⟩ := (h1.2.2.2.2 x _ ho).1
        have hcls := (hK.1.1 0 _ rfl).2
        obtain ⟨kA', comp, k1, k2, k3, -⟩ := (hK.2.1 (.object "TensMill$Decimal") (Or.inr (Or.inr rfl))).2
        have hcomp : comp = (kG K).1.1 0 := Option.some.inj (k3.symm.trans hcls.1)
        subst hcomp
        obtain ⟨kC, hkC, -⟩ := id hcls.2
        refine W.aast hC.1 hC.2.1 (h1.2.2.2.2 a _ hs).1.2.1 (fun q h => by cases h) (fun h => by cases h) k1 k2 rfl hkC ⟨h0, by show _ < (arrV _ _ _).slots.size; rw [arrV_size]; exact hlt⟩ g1 (fun q h => by rw [g3] at h; cases h) (by rw [g2]; exact hkC) (by rw [g2]; exact va_assign hcls) rfl rfl hd fun H1 e z oq => ?_
        have hat : atC (kG K) a (.inl (.object "TensMill$Decimal", n, .inr (.inr (.inr (.inr (va_up g i.toNatClampNeg (some x))))))) H1 := by
          refine ⟨Or.inr (Or.inr rfl), ?_, fitA⟩
          rw [e]
          rw [vp_cell_q, vp_cell_q, arrV_store]
          congr 2
          funext q
          by_cases hq : q = i.toNatClampNeg
          · subst hq
            simp [updV, va_up, va_rf]
          · simp [updV, va_up, hq]
        exact kk _ hf H1 _ ls cells slots (h1.set hs trivial hat z oq) (h2.put z oq (h3 a (Or.inl ⟨_, hs, trivial⟩))) (fun q hq => h3 q (Aof.set hs trivial hq)) h4 h5 h6
    · rw [if_neg hc] at hx; cases hx
  · cases hx
/-- System.arraycopy of ints -/
theorem v_cpy (hC : Cx K cc own) {a0 a1 index : Nat} {sp dp n : Int32} {τ : Type} {f : St → Option τ} {res : τ} {Fr L0 k0 s0 : Nat} (hf : (cpy σ a0 sp a1 dp n).bind f = some res) (hR : kR K = rmF Fr L0 k0 s0) (hF : 1 ≤ Fr) (hL : 26 ≤ L0) (w1 : Cond.methodLink own index arraycopyName ∈ GT) (w2 : Cond.native arraycopyName ∈ GT) (w3 : Cond.static arraycopyName ∈ GT) (w4 : Cond.initialized "java/lang/System" ∈ GT) (hst : (st.map fun v => v.category).sum ≤ 8) (hd : decode cc pc = .ok (.invokestatic index, 3)) (kk : ∀ σ1 : St, f σ1 = some res → V K kr sr σ1 (pc + 3) lv st) : V K kr sr σ pc lv (.int n :: .int dp :: .ref a1 :: .int sp :: .ref a0 :: st) := by
  obtain ⟨σ1, hx, hf⟩ := Option.bind_eq_some_iff.mp hf
  intro H locs ls cells slots h1 h2 h3 h4 h5 h6
  unfold cpy at hx
  split at hx
  · rename_i n0 ff n1 gg hs0 hs1
    by_cases hin : sp < 0 ∨ dp < 0 ∨ n < 0 ∨ n0 < sp.toNatClampNeg + n.toNatClampNeg ∨ n1 < dp.toNatClampNeg + n.toNatClampNeg
    · rw [if_pos hin] at hx; cases hx
    · rw [if_neg hin] at hx
      cases hx
      have c1 : ¬ sp < 0 := fun q => hin (Or.inl q)
      have c2 : ¬ dp < 0 := fun q => hin (Or.inr (Or.inl q))
      have c3 : ¬ n < 0 := fun q => hin (Or.inr (Or.inr (Or.inl q)))
      have c4 : sp.toNatClampNeg + n.toNatClampNeg ≤ n0 := Nat.not_lt.mp fun q => hin (Or.inr (Or.inr (Or.inr (Or.inl q))))
      have c5 : dp.toNatClampNeg + n.toNatClampNeg ≤ n1 := Nat.not_lt.mp fun q => hin (Or.inr (Or.inr (Or.inr (Or.inr q))))
      have hK := hC.2.2.2.2.2.1
      have hts := hC.2.2.2.2.1
      have nn : ∀ z : Int32, ¬ z < 0 → z.toInt = (z.toNatClampNeg : Int) := by
        intro z hz
        have hz0 : (0 : Int) ≤ z.toInt := by
          have := Int32.not_lt.mp hz
          simpa using Int32.le_iff_toInt_le.mp this
        show z.toInt = ((z.toInt.toNat : Nat) : Int)
        omega
      have hz : nativeFrameWords "java/lang/System" "arraycopy" 5 = 7 := by decide +kernel
      intro T hT X
      have hc0 : H[a0]? = some (vp_cell ((kG K).2.1 .int) (n0, .inl ff)) := (h1.2.2.2.2 a0 _ hs0).1.2.1
      have hc1 : H[a1]? = some (vp_cell ((kG K).2.1 .int) (n1, .inl gg)) := (h1.2.2.2.2 a1 _ hs1).1.2.1
      obtain ⟨-, kk0, hk0, cm0, hkk0⟩ := (hK.2.1 .int (Or.inl rfl)).1 n0 (fun j => .int (ff j))
      obtain ⟨-, kk1, hk1, cm1, hkk1⟩ := (hK.2.1 .int (Or.inl rfl)).1 n1 (fun j => .int (gg j))
      obtain ⟨vm', X', step⟩ := X.arraycopy hC.1 hC.2.2.2.1 (hts _ w1) (hts _ w2) (hts _ w3) (hts _ w4) (src := a0) (dst := a1) (cs := vp_cell ((kG K).2.1 .int) (n0, .inl ff)) (cd := vp_cell ((kG K).2.1 .int) (n1, .inl gg)) (srcPos := sp) (destPos := dp) (n := n) (by rw [hT]; exact hc0) (by rw [hT]; exact hc1)
        (fun _ h => by cases h) (fun _ h => by cases h) (fun h => by cases h) (fun h => by cases h) hk0 hk1 hkk0 hkk1 (by simp [refKind]) c1 c2 c3
        (by rw [nn sp c1, nn n c3]; show ¬ _ > ((arrV _ n0 (fun j => .int (ff j))).slots.size : Int); rw [arrV_size]; omega)
        (by rw [nn dp c2, nn n c3]; show ¬ _ > ((arrV _ n1 (fun j => .int (gg j))).slots.size : Int); rw [arrV_size]; omega)
        (fun vm₁ _ i hi => by
          have e : (vp_cell ((kG K).2.1 .int) (n0, .inl ff)).slots.getD (sp.toNatClampNeg + i) .null = .int (ff (sp.toNatClampNeg + i)) := by
            show (arrV _ n0 (fun j => .int (ff j))).slots.getD _ _ = _
            rw [Array.getD_eq_getD_getElem?, arrV_read _ _ (by omega)]
            rfl
          refine ⟨?_, ?_⟩
          · rw [e]
            exact rfl
          · rw [e]
            exact trivial)
        (g := F0 (km K) pc ls (.int n :: .int dp :: .ref a1 :: .int sp :: .ref a0 :: st)) rfl (h4.1.trans hC.2.2.1.symm) (rest := st) rfl (by rw [hC.2.1]; exact hd) (by rw [hR]; exact hF) (by rw [hR]; show 2 * 0 + _ + (nativeFrameWords "java/lang/System" "arraycopy" 5 + 11) ≤ L0; omega)
      have e1 : copied (vp_cell ((kG K).2.1 .int) (n0, .inl ff)) (vp_cell ((kG K).2.1 .int) (n1, .inl gg)) sp dp n = vp_cell ((kG K).2.1 .int) (n1, .inl (va_cpy ff gg sp.toNatClampNeg dp.toNatClampNeg n.toNatClampNeg)) := va_copied (fun z => .int z) _ _ ff gg c4
      rw [e1] at X' step
      have hl : a1 < H.size := (Array.getElem?_eq_some_iff.mp hc1).1
      have hheap : ((T.setVm vm').setCell a1 (vp_cell ((kG K).2.1 .int) (n1, .inl (va_cpy ff gg sp.toNatClampNeg dp.toNatClampNeg n.toNatClampNeg)))).heap = H.setIfInBounds a1 (vp_cell ((kG K).2.1 .int) (n1, .inl (va_cpy ff gg sp.toNatClampNeg dp.toNatClampNeg n.toNatClampNeg))) := by rw [← hT]; rfl
      have oq : ∀ q : Nat, q ≠ a1 → (H.setIfInBounds a1 (vp_cell ((kG K).2.1 .int) (n1, .inl (va_cpy ff gg sp.toNatClampNeg dp.toNatClampNeg n.toNatClampNeg))))[q]? = H[q]? := fun q hq => by simp [Array.getElem?_setIfInBounds, Ne.symm hq]
      have hat : atC (kG K) a1 (.inl (.int, n1, .inl (va_cpy ff gg sp.toNatClampNeg dp.toNatClampNeg n.toNatClampNeg))) (H.setIfInBounds a1 (vp_cell ((kG K).2.1 .int) (n1, .inl (va_cpy ff gg sp.toNatClampNeg dp.toNatClampNeg n.toNatClampNeg)))) := ⟨(Or.inl rfl), by simp [Array.getElem?_setIfInBounds, hl], fitI⟩
      have hA1 : kA K a1 := h3 a1 (Or.inl ⟨_, hs1, trivial⟩)
      obtain ⟨t, b1, b2⟩ := kk _ hf _ _ ls cells slots (h1.set hs1 trivial hat (by simp) oq) ⟨by simp; exact h2.1, fun q g1 g2 => by
          rw [oq q (fun e => g2 (by rw [e]; exact hA1))]
          exact h2.2.1 q g1 g2, fun q hq => by
          rcases List.mem_append.mp hq with h | h
          · exact h2.2.2 q h
          · obtain ⟨z, -, hz⟩ := List.mem_map.mp h
            rw [← hz]
            exact hA1⟩ (fun q hq => h3 q (Aof.set hs1 trivial hq)) h4 h5 h6 _ hheap X'
      exact ⟨t, step t b1, b2⟩
  · cases hx
theorem v_cpyB (hC : Cx K cc own) {a0 a1 index : Nat} {sp dp n : Int32} {τ : Type} {f : St → Option τ} {res : τ} {Fr L0 k0 s0 : Nat} (hf : (cpyB σ a0 sp a1 dp n).bind f = some res) (hR : kR K = rmF Fr L0 k0 s0) (hF : 1 ≤ Fr) (hL : 26 ≤ L0) (w1 : Cond.methodLink own index arraycopyName ∈ GT) (w2 : Cond.native arraycopyName ∈ GT) (w3 : Cond.static arraycopyName ∈ GT) (w4 : Cond.initialized "java/lang/System" ∈ GT) (hst : (st.map fun v => v.category).sum ≤ 8) (hd : decode cc pc = .ok (.invokestatic index, 3)) (kk : ∀ σ1 : St, f σ1 = some res → V K kr sr σ1 (pc + 3) lv st) : V K kr sr σ pc lv (.int n :: .int dp :: .ref a1 :: .int sp :: .ref a0 :: st) := by
  obtain ⟨σ1, hx, hf⟩ := Option.bind_eq_some_iff.mp hf
  intro H locs ls cells slots h1 h2 h3 h4 h5 h6
  unfold cpyB at hx
  split at hx
  · rename_i n0 ff n1 gg hs0 hs1
    by_cases hin : sp < 0 ∨ dp < 0 ∨ n < 0 ∨ n0 < sp.toNatClampNeg + n.toNatClampNeg ∨ n1 < dp.toNatClampNeg + n.toNatClampNeg
    · rw [if_pos hin] at hx; cases hx
    · rw [if_neg hin] at hx
      cases hx
      have c1 : ¬ sp < 0 := fun q => hin (Or.inl q)
      have c2 : ¬ dp < 0 := fun q => hin (Or.inr (Or.inl q))
      have c3 : ¬ n < 0 := fun q => hin (Or.inr (Or.inr (Or.inl q)))
      have c4 : sp.toNatClampNeg + n.toNatClampNeg ≤ n0 := Nat.not_lt.mp fun q => hin (Or.inr (Or.inr (Or.inr (Or.inl q))))
      have c5 : dp.toNatClampNeg + n.toNatClampNeg ≤ n1 := Nat.not_lt.mp fun q => hin (Or.inr (Or.inr (Or.inr (Or.inr q))))
      have hK := hC.2.2.2.2.2.1
      have hts := hC.2.2.2.2.1
      have nn : ∀ z : Int32, ¬ z < 0 → z.toInt = (z.toNatClampNeg : Int) := by
        intro z hz
        have hz0 : (0 : Int) ≤ z.toInt := by
          have := Int32.not_lt.mp hz
          simpa using Int32.le_iff_toInt_le.mp this
        show z.toInt = ((z.toInt.toNat : Nat) : Int)
        omega
      have hz : nativeFrameWords "java/lang/System" "arraycopy" 5 = 7 := by decide +kernel
      intro T hT X
      have hb0 := (h1.2.2.2.2 a0 _ hs0).1.2.2 rfl ff rfl
      have hb1 := (h1.2.2.2.2 a1 _ hs1).1.2.2 rfl gg rfl
      have hc0 : H[a0]? = some (vp_cell ((kG K).2.1 .byte) (n0, .inl ff)) := (h1.2.2.2.2 a0 _ hs0).1.2.1
      have hc1 : H[a1]? = some (vp_cell ((kG K).2.1 .byte) (n1, .inl gg)) := (h1.2.2.2.2 a1 _ hs1).1.2.1
      obtain ⟨-, kk0, hk0, cm0, hkk0⟩ := (hK.2.1 .byte (Or.inr (Or.inl rfl))).1 n0 (fun j => .int (ff j))
      obtain ⟨-, kk1, hk1, cm1, hkk1⟩ := (hK.2.1 .byte (Or.inr (Or.inl rfl))).1 n1 (fun j => .int (gg j))
      obtain ⟨vm', X', step⟩ := X.arraycopy hC.1 hC.2.2.2.1 (hts _ w1) (hts _ w2) (hts _ w3) (hts _ w4) (src := a0) (dst := a1) (cs := vp_cell ((kG K).2.1 .byte) (n0, .inl ff)) (cd := vp_cell ((kG K).2.1 .byte) (n1, .inl gg)) (srcPos := sp) (destPos := dp) (n := n) (by rw [hT]; exact hc0) (by rw [hT]; exact hc1)
        (fun _ h => by cases h) (fun _ h => by cases h) (fun h => by cases h) (fun h => by cases h) hk0 hk1 hkk0 hkk1 (by simp [refKind]) c1 c2 c3
        (by rw [nn sp c1, nn n c3]; show ¬ _ > ((arrV _ n0 (fun j => .int (ff j))).slots.size : Int); rw [arrV_size]; omega)
        (by rw [nn dp c2, nn n c3]; show ¬ _ > ((arrV _ n1 (fun j => .int (gg j))).slots.size : Int); rw [arrV_size]; omega)
        (fun vm₁ _ i hi => by
          have e : (vp_cell ((kG K).2.1 .byte) (n0, .inl ff)).slots.getD (sp.toNatClampNeg + i) .null = .int (ff (sp.toNatClampNeg + i)) := by
            show (arrV _ n0 (fun j => .int (ff j))).slots.getD _ _ = _
            rw [Array.getD_eq_getD_getElem?, arrV_read _ _ (by omega)]
            rfl
          refine ⟨?_, ?_⟩
          · rw [e]
            exact hb0 _
          · rw [e]
            exact trivial)
        (g := F0 (km K) pc ls (.int n :: .int dp :: .ref a1 :: .int sp :: .ref a0 :: st)) rfl (h4.1.trans hC.2.2.1.symm) (rest := st) rfl (by rw [hC.2.1]; exact hd) (by rw [hR]; exact hF) (by rw [hR]; show 2 * 0 + _ + (nativeFrameWords "java/lang/System" "arraycopy" 5 + 11) ≤ L0; omega)
      have e1 : copied (vp_cell ((kG K).2.1 .byte) (n0, .inl ff)) (vp_cell ((kG K).2.1 .byte) (n1, .inl gg)) sp dp n = vp_cell ((kG K).2.1 .byte) (n1, .inl (va_cpy ff gg sp.toNatClampNeg dp.toNatClampNeg n.toNatClampNeg)) := va_copied (fun z => .int z) _ _ ff gg c4
      rw [e1] at X' step
      have hl : a1 < H.size := (Array.getElem?_eq_some_iff.mp hc1).1
      have hheap : ((T.setVm vm').setCell a1 (vp_cell ((kG K).2.1 .byte) (n1, .inl (va_cpy ff gg sp.toNatClampNeg dp.toNatClampNeg n.toNatClampNeg)))).heap = H.setIfInBounds a1 (vp_cell ((kG K).2.1 .byte) (n1, .inl (va_cpy ff gg sp.toNatClampNeg dp.toNatClampNeg n.toNatClampNeg))) := by rw [← hT]; rfl
      have oq : ∀ q : Nat, q ≠ a1 → (H.setIfInBounds a1 (vp_cell ((kG K).2.1 .byte) (n1, .inl (va_cpy ff gg sp.toNatClampNeg dp.toNatClampNeg n.toNatClampNeg))))[q]? = H[q]? := fun q hq => by simp [Array.getElem?_setIfInBounds, Ne.symm hq]
      have hat : atC (kG K) a1 (.inl (.byte, n1, .inl (va_cpy ff gg sp.toNatClampNeg dp.toNatClampNeg n.toNatClampNeg))) (H.setIfInBounds a1 (vp_cell ((kG K).2.1 .byte) (n1, .inl (va_cpy ff gg sp.toNatClampNeg dp.toNatClampNeg n.toNatClampNeg)))) := ⟨(Or.inr (Or.inl rfl)), by simp [Array.getElem?_setIfInBounds, hl], fitBB (fun j => by unfold va_cpy; split; exact hb0 _; exact hb1 _)⟩
      have hA1 : kA K a1 := h3 a1 (Or.inl ⟨_, hs1, trivial⟩)
      obtain ⟨t, b1, b2⟩ := kk _ hf _ _ ls cells slots (h1.set hs1 trivial hat (by simp) oq) ⟨by simp; exact h2.1, fun q g1 g2 => by
          rw [oq q (fun e => g2 (by rw [e]; exact hA1))]
          exact h2.2.1 q g1 g2, fun q hq => by
          rcases List.mem_append.mp hq with h | h
          · exact h2.2.2 q h
          · obtain ⟨z, -, hz⟩ := List.mem_map.mp h
            rw [← hz]
            exact hA1⟩ (fun q hq => h3 q (Aof.set hs1 trivial hq)) h4 h5 h6 _ hheap X'
      exact ⟨t, step t b1, b2⟩
  · cases hx
end R3
