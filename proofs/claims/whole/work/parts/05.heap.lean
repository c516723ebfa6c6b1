theorem KK.k1 {G : Gm} {U : State} (h : KK G U) {ty : FieldType} (ht : okT ty) : va_K G.1 vwCl [(G.2.1 ty, ty)] U := by
  refine ⟨h.1.1, fun k q hk => ?_⟩
  cases k with
  | zero => cases hk; exact h.2.1 ty ht
  | succ k => simp at hk
theorem va1 {G : Gm} {σ : St} {H : Heap} {a ci : Nat} {fs : List Value} (hP : Pic G σ H) (h : σ.1 a = some (.inr (.inl (ci, fs)))) : va_P G.1 vwCl [(a, .inr (ci, fs))] H := by
  intro k q hk
  cases k with
  | zero => cases hk; exact (hP.2.2.2.2 a _ h).1
  | succ k => simp at hk
theorem va2 {G : Gm} {σ : St} {H : Heap} {a : Nat} {ty : FieldType} {x : vp_A} (hP : Pic G σ H) (h : σ.1 a = some (.inl (ty, x))) : va_P G.1 vwCl [(a, .inl (G.2.1 ty, x))] H := by
  intro k q hk
  cases k with
  | zero => cases hk; exact (hP.2.2.2.2 a _ h).1.2.1
  | succ k => simp at hk
theorem Pic.set {G : Gm} {σ : St} {H H1 : Heap} {a : Nat} {e0 e : Cel} (hP : Pic G σ H) (h : σ.1 a = some e0) (hw : wrC e0) (ha : atC G a e H1) (hz : H1.size = H.size) (oq : ∀ q : Nat, q ≠ a → H1[q]? = H[q]?) : Pic G (stH σ a e) H1 := by
  obtain ⟨p1, p2, p3, p4, p5⟩ := hP
  have hge : G.2.2.1.size ≤ a := (p5 a e0 h).2 hw
  refine ⟨hz.trans p1, p2, fun q hq => (oq q (by omega)).trans (p3 q hq), p4, fun q e1 h1 => ?_⟩
  by_cases hq : q = a
  · subst hq
    have h2 : (some e : Option Cel) = some e1 := by rw [← h1]; exact (if_pos rfl).symm
    cases h2
    exact ⟨ha, fun _ => hge⟩
  · have h2 : σ.1 q = some e1 := by rw [← h1]; exact (if_neg hq).symm
    exact ⟨(p5 q e1 h2).1.kept (fun _ => oq q hq), (p5 q e1 h2).2⟩
theorem Aof.set {σ : St} {a : Nat} {e0 e : Cel} (h : σ.1 a = some e0) (hw : wrC e0) {q : Nat} (hq : Aof (stH σ a e) q) : Aof σ q := by
  rcases hq with ⟨e1, h1, h2⟩ | h1
  · by_cases hqa : q = a
    · subst hqa; exact Or.inl ⟨e0, h, hw⟩
    · exact Or.inl ⟨e1, by rw [← h1]; exact (if_neg hqa).symm, h2⟩
  · exact Or.inr h1
theorem Pic.push {G : Gm} {σ : St} {H H1 : Heap} {e : Cel} (hP : Pic G σ H) (ha : atC G σ.2.1 e H1) (hz : H1.size = σ.2.1 + 1) (oq : ∀ q : Nat, q < σ.2.1 → H1[q]? = H[q]?) : Pic G (nwH σ e) H1 := by
  obtain ⟨p1, p2, p3, p4, p5⟩ := hP
  refine ⟨hz, Nat.le_succ_of_le p2, fun q hq => (oq q (Nat.lt_of_lt_of_le hq p2)).trans (p3 q hq), p4, fun q e1 h1 => ?_⟩
  by_cases hq : q = σ.2.1
  · subst hq
    have h2 : (some e : Option Cel) = some e1 := by rw [← h1]; exact (if_pos rfl).symm
    cases h2
    exact ⟨ha, fun _ => p2⟩
  · have h2 : σ.1 q = some e1 := by rw [← h1]; exact (if_neg hq).symm
    exact ⟨(p5 q e1 h2).1.kept (fun hw => oq q (by rw [← p1]; exact (p5 q e1 h2).1.lt hw)), (p5 q e1 h2).2⟩
theorem Aof.push {σ : St} {e : Cel} {q : Nat} (hq : Aof (nwH σ e) q) : Aof σ q := by
  rcases hq with ⟨e1, h1, h2⟩ | h1
  · by_cases hqa : q = σ.2.1
    · subst hqa; exact Or.inr (Nat.le_refl _)
    · exact Or.inl ⟨e1, by rw [← h1]; exact (if_neg hqa).symm, h2⟩
  · exact Or.inr (Nat.le_of_succ_le h1)
/-- field k of class ci: its name, descriptor, type, whether it is final -/
def FD (ci k : Nat) (C nm desc : String) (fin : Bool) (ty : FieldType) : Prop := ∃ (T : u_T) (N : Nat) (ty0 : Nat → FieldType), vwCl[ci]? = some (C, T, N) ∧ (∀ w ∈ u_ws C T N, w ∈ GT) ∧ k < N ∧ T k = (C, nm, desc, fin) ∧ (∀ j, j < N → parseFieldDescriptor (T j).2.2.1 = some (ty0 j)) ∧ (∀ a, a < N → ∀ b, b < N → a ≠ b → (T a).2.1 ≠ (T b).2.1) ∧ parseFieldDescriptor desc = some ty
theorem gF_some {σ : St} {ci a k : Nat} {v : Value} (h : gF σ ci a k = some v) : ∃ fs : List Value, σ.1 a = some (.inr (.inl (ci, fs))) ∧ fs[k]? = some v := by
  unfold gF at h
  split at h
  · rename_i o ho
    by_cases hc : o.1 = ci
    · rw [if_pos hc] at h
      refine ⟨o.2, ?_, h⟩
      rw [ho, ← hc]
    · rw [if_neg hc] at h; cases h
  · cases h
theorem pF_some {σ σ1 : St} {ci a k : Nat} {v : Value} (h : pF σ ci a k v = some σ1) : ∃ fs : List Value, σ.1 a = some (.inr (.inl (ci, fs))) ∧ k < fs.length ∧ σ1 = stH σ a (.inr (.inl (ci, fs.set k v))) := by
  unfold pF at h
  split at h
  · rename_i o ho
    by_cases hc : o.1 = ci ∧ k < o.2.length
    · rw [if_pos hc] at h
      cases h
      refine ⟨o.2, ?_, hc.2, rfl⟩
      rw [ho, ← hc.1]
    · rw [if_neg hc] at h; cases h
  · cases h
section R2
variable {K : Cq} {cc : ByteArray} {own : String} {kr sr : Nat} {σ : St} {pc : Nat} {lv : List (Nat × Value)} {st : List Value}
theorem v_getV (hC : Cx K cc own) {index ci a k : Nat} {C nm desc : String} {fin : Bool} {ty : FieldType} {v : Value} (hg : gF σ ci a k = some v) (hF : FD ci k C nm desc fin ty) (hw : Cond.fieldLink own index C nm desc ∈ GT) (hd : decode cc pc = .ok (.getfield index, 3)) (kk : V K kr sr σ (pc + 3) lv (v :: st)) : V K kr sr σ pc lv (.ref a :: st) := by
  obtain ⟨fs, hs, hv⟩ := gF_some hg
  obtain ⟨T, N, ty0, f1, f2, f3, f4, f5, f6, f7⟩ := hF
  intro H locs ls cells slots h1 h2 h3 h4 h5 h6
  have e1 : (T k).1 = C := by rw [f4]
  have e2 : (T k).2.1 = nm := by rw [f4]
  have e3 : (T k).2.2.1 = desc := by rw [f4]
  exact va_get (Ts := GT) (own := own) (ref := C) hC.1 hC.2.1 hC.2.2.2.2.1 f2 hC.2.2.2.1 hC.2.2.2.2.2.1.1 (va1 h1 hs) 0 rfl f1 k f3 (by rw [e2, e3]; exact hC.2.2.2.2.1 _ hw) (by rw [e1]; exact fun _ h => h) hv hd (kk H locs ls cells slots h1 h2 h3 h4 h5 h6)
theorem v_getVN (hC : Cx K cc own) {index ci a k : Nat} {C nm desc host : String} {fin : Bool} {ty : FieldType} {v : Value} (hg : gF σ ci a k = some v) (hF : FD ci k C nm desc fin ty) (hw : Cond.fieldLinkNest own index C nm desc host ∈ NW) (hd : decode cc pc = .ok (.getfield index, 3)) (kk : V K kr sr σ (pc + 3) lv (v :: st)) : V K kr sr σ pc lv (.ref a :: st) := by
  obtain ⟨fs, hs, hv⟩ := gF_some hg
  obtain ⟨T, N, ty0, f1, f2, f3, f4, f5, f6, f7⟩ := hF
  intro H locs ls cells slots h1 h2 h3 h4 h5 h6
  have e1 : (T k).1 = C := by rw [f4]
  have e2 : (T k).2.1 = nm := by rw [f4]
  have e3 : (T k).2.2.1 = desc := by rw [f4]
  exact va_getN (Ts := GT) (own := own) (ref := C) (host := host) hC.1 hC.2.1 hC.2.2.2.2.1 f2 hC.2.2.2.1 hC.2.2.2.2.2.1.1 (va1 h1 hs) 0 rfl f1 k f3 (by rw [e2, e3]; exact va_Nw.use (NW_tab _ hw) (hC.2.2.2.2.2.1.2.2.2.2.1 _ hw)) (by rw [e1]; exact fun _ h => h) hv hd (kk H locs ls cells slots h1 h2 h3 h4 h5 h6)
theorem bindI {σ : St} {ci a k : Nat} {τ : Type} {f : Int32 → Option τ} {res : τ} (hf : (gI σ ci a k).bind f = some res) : ∃ x : Int32, gF σ ci a k = some (.int x) ∧ f x = some res := by
  unfold gI at hf
  cases h : gF σ ci a k with
  | none => rw [h] at hf; cases hf
  | some v => cases v <;> rw [h] at hf <;> first | exact ⟨_, rfl, hf⟩ | cases hf
theorem bindL {σ : St} {ci a k : Nat} {τ : Type} {f : Int64 → Option τ} {res : τ} (hf : (gL σ ci a k).bind f = some res) : ∃ x : Int64, gF σ ci a k = some (.long x) ∧ f x = some res := by
  unfold gL at hf
  cases h : gF σ ci a k with
  | none => rw [h] at hf; cases hf
  | some v => cases v <;> rw [h] at hf <;> first | exact ⟨_, rfl, hf⟩ | cases hf
theorem bindR {σ : St} {ci a k : Nat} {τ : Type} {f : Nat → Option τ} {res : τ} (hf : (gR σ ci a k).bind f = some res) : ∃ x : Nat, gF σ ci a k = some (.ref x) ∧ f x = some res := by
  unfold gR at hf
  cases h : gF σ ci a k with
  | none => rw [h] at hf; cases hf
  | some v => cases v <;> rw [h] at hf <;> first | exact ⟨_, rfl, hf⟩ | cases hf
theorem v_getI (hC : Cx K cc own) {index ci a k : Nat} {C nm desc host : String} {fin : Bool} {ty : FieldType} {τ : Type} {f : Int32 → Option τ} {res : τ} (hf : (gI σ ci a k).bind f = some res) (hF : FD ci k C nm desc fin ty) (hw : Cond.fieldLink own index C nm desc ∈ GT) (hd : decode cc pc = .ok (.getfield index, 3)) (kk : ∀ x : Int32, f x = some res → V K kr sr σ (pc + 3) lv (.int x :: st)) : V K kr sr σ pc lv (.ref a :: st) := by
  obtain ⟨x, hg, hf⟩ := bindI hf
  exact v_getV hC hg hF hw hd (kk x hf)
theorem v_getIN (hC : Cx K cc own) {index ci a k : Nat} {C nm desc host : String} {fin : Bool} {ty : FieldType} {τ : Type} {f : Int32 → Option τ} {res : τ} (hf : (gI σ ci a k).bind f = some res) (hF : FD ci k C nm desc fin ty) (hw : Cond.fieldLinkNest own index C nm desc host ∈ NW) (hd : decode cc pc = .ok (.getfield index, 3)) (kk : ∀ x : Int32, f x = some res → V K kr sr σ (pc + 3) lv (.int x :: st)) : V K kr sr σ pc lv (.ref a :: st) := by
  obtain ⟨x, hg, hf⟩ := bindI hf
  exact v_getVN hC hg hF hw hd (kk x hf)
theorem v_getL (hC : Cx K cc own) {index ci a k : Nat} {C nm desc host : String} {fin : Bool} {ty : FieldType} {τ : Type} {f : Int64 → Option τ} {res : τ} (hf : (gL σ ci a k).bind f = some res) (hF : FD ci k C nm desc fin ty) (hw : Cond.fieldLink own index C nm desc ∈ GT) (hd : decode cc pc = .ok (.getfield index, 3)) (kk : ∀ x : Int64, f x = some res → V K kr sr σ (pc + 3) lv (.long x :: st)) : V K kr sr σ pc lv (.ref a :: st) := by
  obtain ⟨x, hg, hf⟩ := bindL hf
  exact v_getV hC hg hF hw hd (kk x hf)
theorem v_getLN (hC : Cx K cc own) {index ci a k : Nat} {C nm desc host : String} {fin : Bool} {ty : FieldType} {τ : Type} {f : Int64 → Option τ} {res : τ} (hf : (gL σ ci a k).bind f = some res) (hF : FD ci k C nm desc fin ty) (hw : Cond.fieldLinkNest own index C nm desc host ∈ NW) (hd : decode cc pc = .ok (.getfield index, 3)) (kk : ∀ x : Int64, f x = some res → V K kr sr σ (pc + 3) lv (.long x :: st)) : V K kr sr σ pc lv (.ref a :: st) := by
  obtain ⟨x, hg, hf⟩ := bindL hf
  exact v_getVN hC hg hF hw hd (kk x hf)
theorem v_getR (hC : Cx K cc own) {index ci a k : Nat} {C nm desc host : String} {fin : Bool} {ty : FieldType} {τ : Type} {f : Nat → Option τ} {res : τ} (hf : (gR σ ci a k).bind f = some res) (hF : FD ci k C nm desc fin ty) (hw : Cond.fieldLink own index C nm desc ∈ GT) (hd : decode cc pc = .ok (.getfield index, 3)) (kk : ∀ x : Nat, f x = some res → V K kr sr σ (pc + 3) lv (.ref x :: st)) : V K kr sr σ pc lv (.ref a :: st) := by
  obtain ⟨x, hg, hf⟩ := bindR hf
  exact v_getV hC hg hF hw hd (kk x hf)
theorem v_getRN (hC : Cx K cc own) {index ci a k : Nat} {C nm desc host : String} {fin : Bool} {ty : FieldType} {τ : Type} {f : Nat → Option τ} {res : τ} (hf : (gR σ ci a k).bind f = some res) (hF : FD ci k C nm desc fin ty) (hw : Cond.fieldLinkNest own index C nm desc host ∈ NW) (hd : decode cc pc = .ok (.getfield index, 3)) (kk : ∀ x : Nat, f x = some res → V K kr sr σ (pc + 3) lv (.ref x :: st)) : V K kr sr σ pc lv (.ref a :: st) := by
  obtain ⟨x, hg, hf⟩ := bindR hf
  exact v_getVN hC hg hF hw hd (kk x hf)
theorem v_put (hC : Cx K cc own) {index ci a k : Nat} {C nm desc : String} {ty : FieldType} {v : Value} {τ : Type} {f : St → Option τ} {res : τ} (hf : (pF σ ci a k v).bind f = some res) (hF : FD ci k C nm desc false ty) (hw : Cond.fieldLink own index C nm desc ∈ GT) (hn : narrow ty v = v) (hfit : fits ty v = true) (hd : decode cc pc = .ok (.putfield index, 3)) (kk : ∀ σ1 : St, f σ1 = some res → V K kr sr σ1 (pc + 3) lv st) : V K kr sr σ pc lv (v :: .ref a :: st) := by
  obtain ⟨σ1, hp, hf⟩ := Option.bind_eq_some_iff.mp hf
  obtain ⟨fs, hs, hlt, hσ⟩ := pF_some hp
  obtain ⟨T, N, ty0, f1, f2, f3, f4, f5, f6, f7⟩ := hF
  intro H locs ls cells slots h1 h2 h3 h4 h5 h6
  have e1 : (T k).1 = C := by rw [f4]
  have e2 : (T k).2.1 = nm := by rw [f4]
  have e3 : (T k).2.2.1 = desc := by rw [f4]
  have e4 : (T k).2.2.2 = false := by rw [f4]
  have hts := hC.2.2.2.2.1
  have hK := hC.2.2.2.2.2.1.1
  have hap := va_apart (own := own) hts f2 ty0 f5 f6 hK f1
  obtain ⟨r, hr1, cell, q1, q2, q3, q4⟩ := (h1.2.2.2.2 a _ hs).1
  have hr : r = (C, T, N) := Option.some.inj (hr1.symm.trans f1)
  subst hr
  obtain ⟨hS, hfc, kC, hkC, hkind⟩ := hK.1 ci _ f1
  obtain ⟨cf, kf, fi, fl, hi, hsl⟩ := hS k f3
  have hlay := hts _ (f2 _ (u_in_lay f3))
  unfold u_lay at hlay
  rw [if_neg (by rw [e4]; decide)] at hlay
  have hst := (u_facts hfc hkC (u_lays hts f2 f3) hi).1
  have h8 := u_store hfc hkC hkind hlay hi (by rw [e3]; exact f7) hn hfit
  have hlink : (Cond.fieldLink own index C (T k).2.1 (T k).2.2.1).before (ka K) (ks K) = true := by rw [e2, e3]; exact hts _ hw
  have hsame : (ks K).fieldFound? C (T k).2.1 (T k).2.2.1 = some (cf, kf, fi, fl) := by rw [← hi, e1]
  refine W.putK hC.1 hC.2.1 (f := fl) ⟨hC.2.2.2.1, hlink, ⟨_, _, _, hsame⟩, hst⟩ (by rw [q2]; exact h8) q1 q3 (by rw [hsl]; exact k2_hasslot (q4 k f3)) rfl rfl hd fun H' g1 g2 g3 => ?_
  rw [hsl] at g1 ⊢
  have hat : atC (kG K) a (.inr (.inl (ci, fs.set k v))) H' := ⟨_, f1, t_OB.to (V := updV (vp_V fs) k v) ⟨_, g1, q2, q3, t_set q4 hap f3 v⟩ (fun j _ => vp_updV_set hlt v j)⟩
  subst hσ
  exact kk _ hf H' _ ls cells slots (h1.set hs trivial hat g2 g3) (h2.put g2 g3 (h3 a (Or.inl ⟨_, hs, trivial⟩))) (fun q hq => h3 q (Aof.set hs trivial hq)) h4 h5 h6
theorem v_putN (hC : Cx K cc own) {index ci a k : Nat} {C nm desc host : String} {ty : FieldType} {v : Value} {τ : Type} {f : St → Option τ} {res : τ} (hf : (pF σ ci a k v).bind f = some res) (hF : FD ci k C nm desc false ty) (hw : Cond.fieldLinkNest own index C nm desc host ∈ NW) (hn : narrow ty v = v) (hfit : fits ty v = true) (hd : decode cc pc = .ok (.putfield index, 3)) (kk : ∀ σ1 : St, f σ1 = some res → V K kr sr σ1 (pc + 3) lv st) : V K kr sr σ pc lv (v :: .ref a :: st) := by
  obtain ⟨σ1, hp, hf⟩ := Option.bind_eq_some_iff.mp hf
  obtain ⟨fs, hs, hlt, hσ⟩ := pF_some hp
  obtain ⟨T, N, ty0, f1, f2, f3, f4, f5, f6, f7⟩ := hF
  intro H locs ls cells slots h1 h2 h3 h4 h5 h6
  have e1 : (T k).1 = C := by rw [f4]
  have e2 : (T k).2.1 = nm := by rw [f4]
  have e3 : (T k).2.2.1 = desc := by rw [f4]
  have e4 : (T k).2.2.2 = false := by rw [f4]
  have hts := hC.2.2.2.2.1
  have hK := hC.2.2.2.2.2.1.1
  have hap := va_apart (own := own) hts f2 ty0 f5 f6 hK f1
  obtain ⟨r, hr1, cell, q1, q2, q3, q4⟩ := (h1.2.2.2.2 a _ hs).1
  have hr : r = (C, T, N) := Option.some.inj (hr1.symm.trans f1)
  subst hr
  obtain ⟨hS, hfc, kC, hkC, hkind⟩ := hK.1 ci _ f1
  obtain ⟨cf, kf, fi, fl, hi, hsl⟩ := hS k f3
  have hlay := hts _ (f2 _ (u_in_lay f3))
  unfold u_lay at hlay
  rw [if_neg (by rw [e4]; decide)] at hlay
  have hst := (u_facts hfc hkC (u_lays hts f2 f3) hi).1
  have h8 := u_store hfc hkC hkind hlay hi (by rw [e3]; exact f7) hn hfit
  have hlink : (Cond.fieldLinkNest own index C (T k).2.1 (T k).2.2.1 host).before (ka K) (ks K) = true := by rw [e2, e3]; exact va_Nw.use (NW_tab _ hw) (hC.2.2.2.2.2.1.2.2.2.2.1 _ hw)
  have hsame : (ks K).fieldFound? C (T k).2.1 (T k).2.2.1 = some (cf, kf, fi, fl) := by rw [← hi, e1]
  refine va_WputK hC.1 hC.2.1 (f := fl) hC.2.2.2.1 hlink hsame hst (by rw [q2]; exact h8) q1 q3 (by rw [hsl]; exact k2_hasslot (q4 k f3)) rfl rfl hd fun H' g1 g2 g3 => ?_
  rw [hsl] at g1 ⊢
  have hat : atC (kG K) a (.inr (.inl (ci, fs.set k v))) H' := ⟨_, f1, t_OB.to (V := updV (vp_V fs) k v) ⟨_, g1, q2, q3, t_set q4 hap f3 v⟩ (fun j _ => vp_updV_set hlt v j)⟩
  subst hσ
  exact kk _ hf H' _ ls cells slots (h1.set hs trivial hat g2 g3) (h2.put g2 g3 (h3 a (Or.inl ⟨_, hs, trivial⟩))) (fun q hq => h3 q (Aof.set hs trivial hq)) h4 h5 h6
theorem v_putF (hC : Cx K cc own) {index ci a k : Nat} {C nm desc : String} {ty : FieldType} {v : Value} {τ : Type} {f : St → Option τ} {res : τ} (hf : (pF σ ci a k v).bind f = some res) (hin2 : (kt K).name = "<init>") (hown : C = own) (hF : FD ci k C nm desc true ty) (hw : Cond.fieldLink own index C nm desc ∈ GT) (hn : narrow ty v = v) (hfit : fits ty v = true) (hd : decode cc pc = .ok (.putfield index, 3)) (kk : ∀ σ1 : St, f σ1 = some res → V K kr sr σ1 (pc + 3) lv st) : V K kr sr σ pc lv (v :: .ref a :: st) := by
  obtain ⟨σ1, hp, hf⟩ := Option.bind_eq_some_iff.mp hf
  obtain ⟨fs, hs, hlt, hσ⟩ := pF_some hp
  obtain ⟨T, N, ty0, f1, f2, f3, f4, f5, f6, f7⟩ := hF
  intro H locs ls cells slots h1 h2 h3 h4 h5 h6
  have e1 : (T k).1 = C := by rw [f4]
  have e2 : (T k).2.1 = nm := by rw [f4]
  have e3 : (T k).2.2.1 = desc := by rw [f4]
  have e4 : (T k).2.2.2 = true := by rw [f4]
  have hts := hC.2.2.2.2.1
  have hK := hC.2.2.2.2.2.1.1
  have hap := va_apart (own := own) hts f2 ty0 f5 f6 hK f1
  obtain ⟨r, hr1, cell, q1, q2, q3, q4⟩ := (h1.2.2.2.2 a _ hs).1
  have hr : r = (C, T, N) := Option.some.inj (hr1.symm.trans f1)
  subst hr
  obtain ⟨hS, hfc, kC, hkC, hkind⟩ := hK.1 ci _ f1
  obtain ⟨cf, kf, fi, fl, hi, hsl⟩ := hS k f3
  have hlay := hts _ (f2 _ (u_in_lay f3))
  unfold u_lay at hlay
  rw [if_pos e4] at hlay
  have hst := (u_facts hfc hkC (u_lays hts f2 f3) hi).1
  have hcf : (km K).cls = cf := by
    obtain ⟨_, _, c', _, _, _, -, -, hf', -, -, -, hown2, -⟩ := Cond.laysFinal_spec hlay
    have e9 : c' = cf := by have := hi.symm.trans hf'; simp at this; exact this.1.symm
    rw [e1, hown] at hown2
    rw [← e9]; exact Option.some.inj (hC.2.2.2.1.symm.trans hown2)
  have h8 := u_fits hfc hkC hkind (Or.inr hlay) hi (by rw [e3]; exact f7) hn hfit
  have hlink : (Cond.fieldLink own index C (T k).2.1 (T k).2.2.1).before (ka K) (ks K) = true := by rw [e2, e3]; exact hts _ hw
  have hsame : (ks K).fieldFound? C (T k).2.1 (T k).2.2.1 = some (cf, kf, fi, fl) := by rw [← hi, e1]
  refine W.putFinK hC.1 hC.2.1 hC.2.2.2.1 hlink hsame hst hcf hin2 (by rw [q2]; exact h8) q1 q3 (by rw [hsl]; exact k2_hasslot (q4 k f3)) rfl rfl hd fun H' g1 g2 g3 => ?_
  rw [hsl] at g1 ⊢
  have hat : atC (kG K) a (.inr (.inl (ci, fs.set k v))) H' := ⟨_, f1, t_OB.to (V := updV (vp_V fs) k v) ⟨_, g1, q2, q3, t_set q4 hap f3 v⟩ (fun j _ => vp_updV_set hlt v j)⟩
  subst hσ
  exact kk _ hf H' _ ls cells slots (h1.set hs trivial hat g2 g3) (h2.put g2 g3 (h3 a (Or.inl ⟨_, hs, trivial⟩))) (fun q hq => h3 q (Aof.set hs trivial hq)) h4 h5 h6
theorem zB {x : Int32} {τ : Type} {f : Unit → Option τ} {res : τ} (hf : (isB x).bind f = some res) : (narrow .boolean (.int x) = .int x ∧ fits .boolean (.int x) = true) ∧ f () = some res := by
  unfold isB at hf
  by_cases h : x = 0 ∨ x = 1
  · rw [if_pos h] at hf
    rcases h with rfl | rfl
    · exact ⟨⟨by decide, by decide⟩, hf⟩
    · exact ⟨⟨by decide, by decide⟩, hf⟩
  · rw [if_neg h] at hf; cases hf
theorem v_gets (hC : Cx K cc own) {index : Nat} (hw : Cond.fieldLink own index "TensMill" "TENS" "[I" ∈ GT) (hd : decode cc pc = .ok (.getstatic index, 3)) (kk : V K kr sr σ (pc + 3) lv (.ref σ.2.2 :: st)) : V K kr sr σ pc lv st := by
  intro H locs ls cells slots h1 h2 h3 h4 h5 h6
  obtain ⟨cf, kf, fi, f, a, cell, z1, z2, z3, z4, z5, z6, z7, z8⟩ := hC.2.2.2.2.2.1.2.2.1
  have hlt : a < (kG K).2.2.1.size := Nat.not_le.mp z8
  have hv : cell.slots[f.slot]? = some (.ref σ.2.2) := by rw [z7, h1.2.2.2.1]
  exact W.gets hC.1 hC.2.1 hC.2.2.2.1 (hC.2.2.2.2.1 _ hw) z1 z2 z3 z4 (by rw [h1.2.2.1 a hlt]; exact z5) (fun e => by rw [e] at z6; cases z6) hv rfl hd (kk H locs ls cells slots h1 h2 h3 h4 h5 h6)
theorem v_getsN (hC : Cx K cc own) {index : Nat} {host : String} (hw : Cond.fieldLinkNest own index "TensMill" "TENS" "[I" host ∈ NW) (hd : decode cc pc = .ok (.getstatic index, 3)) (kk : V K kr sr σ (pc + 3) lv (.ref σ.2.2 :: st)) : V K kr sr σ pc lv st := by
  intro H locs ls cells slots h1 h2 h3 h4 h5 h6
  obtain ⟨cf, kf, fi, f, a, cell, z1, z2, z3, z4, z5, z6, z7, z8⟩ := hC.2.2.2.2.2.1.2.2.1
  have hlt : a < (kG K).2.2.1.size := Nat.not_le.mp z8
  have hv : cell.slots[f.slot]? = some (.ref σ.2.2) := by rw [z7, h1.2.2.2.1]
  exact va_WgetsN hC.1 hC.2.1 hC.2.2.2.1 (va_Nw.use (NW_tab _ hw) (hC.2.2.2.2.2.1.2.2.2.2.1 _ hw)) z1 z2 z3 z4 (by rw [h1.2.2.1 a hlt]; exact z5) (fun e => by rw [e] at z6; cases z6) hv rfl hd (kk H locs ls cells slots h1 h2 h3 h4 h5 h6)
theorem roC {G : Gm} {U : State} {H : Heap} {σ : St} {a : Nat} {x : Nat × (Nat → Int32)} (hK : KK G U) (hP : Pic G σ H) (h : σ.1 a = some (.inr (.inr x))) : ∃ cell : Cell, H[a]? = some cell ∧ U.isArrayOf cell .int ∧ cell.vm ≠ .unknown ∧ x.1 ≤ cell.slots.size ∧ cell.slots.size.toInt32 = Int32.ofNat x.1 ∧ ∀ j : Nat, j < x.1 → cell.slots[j]? = some (.int (x.2 j)) := by
  obtain ⟨cell, c1, c2, c3, c4, c5, c6, c7⟩ := hK.2.2.2.1 a x (hP.2.2.2.2 a _ h).1
  exact ⟨cell, by rw [hP.2.2.1 a (Nat.not_le.mp c7)]; exact c1, c2, c3, c4, c5, c6⟩
theorem v_ldI (hC : Cx K cc own) {a : Nat} {i : Int32} {τ : Type} {f : Int32 → Option τ} {res : τ} (hf : (ldI σ a i).bind f = some res) (hd : decode cc pc = .ok (.iaload, 1)) (kk : ∀ x : Int32, f x = some res → V K kr sr σ (pc + 1) lv (.int x :: st)) : V K kr sr σ pc lv (.int i :: .ref a :: st) := by
  obtain ⟨x, hx, hf⟩ := Option.bind_eq_some_iff.mp hf
  intro H locs ls cells slots h1 h2 h3 h4 h5 h6
  unfold ldI at hx
  split at hx
  · rename_i n g hs
    by_cases hin : i < 0 ∨ n ≤ i.toNatClampNeg
    · rw [if_pos hin] at hx; cases hx
    · rw [if_neg hin] at hx
      cases hx
      exact va_iald hC.1 hC.2.1 (hC.2.2.2.2.2.1.k1 (Or.inl rfl)) (va2 h1 hs) 0 0 rfl rfl hin hd (kk _ hf H locs ls cells slots h1 h2 h3 h4 h5 h6)
  · rename_i y hs
    by_cases hin : i < 0 ∨ y.1 ≤ i.toNatClampNeg
    · rw [if_pos hin] at hx; cases hx
    · rw [if_neg hin] at hx
      cases hx
      obtain ⟨cell, c1, c2, c3, c4, c5, c6⟩ := roC hC.2.2.2.2.2.1 h1 hs
      have hlt : i.toNatClampNeg < y.1 := Nat.not_le.mp fun q => hin (Or.inr q)
      exact W.iald (v := .int (y.2 i.toNatClampNeg)) hC.1 hC.2.1 c1 c2 c3 (fun q => hin (q.elim Or.inl (fun q => Or.inr (Nat.le_trans c4 q)))) (c6 _ hlt) rfl rfl hd (kk _ hf H locs ls cells slots h1 h2 h3 h4 h5 h6)
  · cases hx
theorem v_ldB (hC : Cx K cc own) {a : Nat} {i : Int32} {τ : Type} {f : Int32 → Option τ} {res : τ} (hf : (ldB σ a i).bind f = some res) (hd : decode cc pc = .ok (.baload, 1)) (kk : ∀ x : Int32, f x = some res → V K kr sr σ (pc + 1) lv (.int x :: st)) : V K kr sr σ pc lv (.int i :: .ref a :: st) := by
  obtain ⟨x, hx, hf⟩ := Option.bind_eq_some_iff.mp hf
  intro H locs ls cells slots h1 h2 h3 h4 h5 h6
  unfold ldB at hx
  split at hx
  · rename_i n g hs
    by_cases hin : i < 0 ∨ n ≤ i.toNatClampNeg
    · rw [if_pos hin] at hx; cases hx
    · rw [if_neg hin] at hx
      cases hx
      exact va_bald hC.1 hC.2.1 (hC.2.2.2.2.2.1.k1 (Or.inr (Or.inl rfl))) (va2 h1 hs) 0 0 rfl rfl hin hd (kk _ hf H locs ls cells slots h1 h2 h3 h4 h5 h6)
  · cases hx
theorem v_ldA (hC : Cx K cc own) {a : Nat} {i : Int32} {τ : Type} {f : Nat → Option τ} {res : τ} (hf : (ldA σ a i).bind f = some res) (hd : decode cc pc = .ok (.aaload, 1)) (kk : ∀ x : Nat, f x = some res → V K kr sr σ (pc + 1) lv (.ref x :: st)) : V K kr sr σ pc lv (.int i :: .ref a :: st) := by
  obtain ⟨x, hx, hf⟩ := Option.bind_eq_some_iff.mp hf
  intro H locs ls cells slots h1 h2 h3 h4 h5 h6
  unfold ldA at hx
  split at hx
  · rename_i n g hs
    by_cases hin : i < 0 ∨ n ≤ i.toNatClampNeg
    · rw [if_pos hin] at hx; cases hx
    · rw [if_neg hin] at hx
      refine va_aldq hC.1 hC.2.1 (hC.2.2.2.2.2.1.k1 (Or.inr (Or.inr rfl))) (va2 h1 hs) 0 0 rfl rfl hin hd ?_
      rw [hx]
      exact kk _ hf H locs ls cells slots h1 h2 h3 h4 h5 h6
  · cases hx
theorem v_stI (hC : Cx K cc own) {a : Nat} {i x : Int32} {τ : Type} {f : St → Option τ} {res : τ} (hf : (stI σ a i x).bind f = some res) (hd : decode cc pc = .ok (.iastore, 1)) (kk : ∀ σ1 : St, f σ1 = some res → V K kr sr σ1 (pc + 1) lv st) : V K kr sr σ pc lv (.int x :: .int i :: .ref a :: st) := by
  obtain ⟨σ1, hx, hf⟩ := Option.bind_eq_some_iff.mp hf
  intro H locs ls cells slots h1 h2 h3 h4 h5 h6
  unfold stI at hx
  split at hx
  · rename_i n g hs
    by_cases hin : i < 0 ∨ n ≤ i.toNatClampNeg
    · rw [if_pos hin] at hx; cases hx
    · rw [if_neg hin] at hx
      cases hx
      refine W.iast hC.1 hC.2.1 (h1.2.2.2.2 a _ hs).1.2.1 ((hC.2.2.2.2.2.1.2.1 .int (Or.inl rfl)).1 n (fun j => .int (g j))) (fun q => by cases q) (by show ¬ (i < 0 ∨ (arrV _ _ _).slots.size ≤ _); rw [arrV_size]; exact hin) rfl rfl hd fun H1 e z oq => ?_
      have hat : atC (kG K) a (.inl (.int, n, .inl (upd g i.toNatClampNeg x))) H1 := by
        refine ⟨Or.inl rfl, ?_, fitI⟩
        rw [e]
        rw [vp_cell_i, vp_cell_i, arrV_store]
        congr 2
        funext q
        by_cases hq : q = i.toNatClampNeg
        · subst hq
          simp [updV, upd]
        · simp [updV, upd, hq]
      exact kk _ hf H1 _ ls cells slots (h1.set hs trivial hat z oq) (h2.put z oq (h3 a (Or.inl ⟨_, hs, trivial⟩))) (fun q hq => h3 q (Aof.set hs trivial hq)) h4 h5 h6
  · cases hx
theorem v_stB (hC : Cx K cc own) {a : Nat} {i x : Int32} {τ : Type} {f : St → Option τ} {res : τ} (hf : (stB σ a i x).bind f = some res) (hd : decode cc pc = .ok (.bastore, 1)) (kk : ∀ σ1 : St, f σ1 = some res → V K kr sr σ1 (pc + 1) lv st) : V K kr sr σ pc lv (.int x :: .int i :: .ref a :: st) := by
  obtain ⟨σ1, hx, hf⟩ := Option.bind_eq_some_iff.mp hf
  intro H locs ls cells slots h1 h2 h3 h4 h5 h6
  unfold stB at hx
  split at hx
  · rename_i n g hs
    by_cases hin : i < 0 ∨ n ≤ i.toNatClampNeg
    · rw [if_pos hin] at hx; cases hx
    · rw [if_neg hin] at hx
      cases hx
      refine W.bast hC.1 hC.2.1 (h1.2.2.2.2 a _ hs).1.2.1 ((hC.2.2.2.2.2.1.2.1 .byte (Or.inr (Or.inl rfl))).1 n (fun j => .int (g j))) (fun q => by cases q) (by show ¬ (i < 0 ∨ (arrV _ _ _).slots.size ≤ _); rw [arrV_size]; exact hin) rfl rfl hd fun H1 e z oq => ?_
      have hat : atC (kG K) a (.inl (.byte, n, .inl (upd g i.toNatClampNeg (vp_nar .byte x)))) H1 := by
        refine ⟨Or.inr (Or.inl rfl), ?_, fitBB (fun j => ?_)⟩
        rotate_left
        · by_cases hq : j = i.toNatClampNeg
          · subst hq; rw [pk_us]; exact pk_fb x
          · rw [pk_un hq]; exact (h1.2.2.2.2 a _ hs).1.2.2 rfl g rfl j
        rw [e]
        rw [vp_cell_i, vp_cell_i, arrV_store]
        congr 2
        funext q
        by_cases hq : q = i.toNatClampNeg
        · subst hq
          simp [updV, upd, vp_nar, narrow]
        · simp [updV, upd, hq]
      exact kk _ hf H1 _ ls cells slots (h1.set hs trivial hat z oq) (h2.put z oq (h3 a (Or.inl ⟨_, hs, trivial⟩))) (fun q hq => h3 q (Aof.set hs trivial hq)) h4 h5 h6
  · cases hx
theorem v_aln (hC : Cx K cc own) {a : Nat} {τ : Type} {f : Int32 → Option τ} {res : τ} (hf : (aLn σ a).bind f = some res) (hd : decode cc pc = .ok (.arraylength, 1)) (kk : ∀ x : Int32, f x = some res → V K kr sr σ (pc + 1) lv (.int x :: st)) : V K kr sr σ pc lv (.ref a :: st) := by
  obtain ⟨x, hx, hf⟩ := Option.bind_eq_some_iff.mp hf
  intro H locs ls cells slots h1 h2 h3 h4 h5 h6
  unfold aLn at hx
  split at hx
  · rename_i y hs
    cases hx
    obtain ⟨ty, y⟩ := y
    exact va_alen hC.1 hC.2.1 (hC.2.2.2.2.2.1.k1 (h1.2.2.2.2 a _ hs).1.1) (va2 h1 hs) 0 0 rfl rfl rfl hd (kk _ hf H locs ls cells slots h1 h2 h3 h4 h5 h6)
  · rename_i y hs
    cases hx
    obtain ⟨cell, c1, c2, c3, c4, c5, c6⟩ := roC hC.2.2.2.2.2.1 h1 hs
    exact W.alen hC.1 hC.2.1 c1 c2 c5 rfl rfl hd (kk _ hf H locs ls cells slots h1 h2 h3 h4 h5 h6)
  · cases hx
end R2
