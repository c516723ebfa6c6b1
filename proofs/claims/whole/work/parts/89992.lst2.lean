section ST2
variable {σ : St}
/-- the reference's nine cells -/
def m9 (o : Nat) : List Cel := [mob o X0, AA 32768 (fun _ => 0), AA 8 (fun _ => 0), AA 8 (fun _ => 0), AA 8 (fun _ => 0), AA 68000 (fun _ => 0), AA 4 (fun _ => 0), AA 6000 (fun _ => 0), AA 6000 (fun _ => 0)]
theorem t_minit : Ye (f_X6_init (adL σ [.inr (.inl (6, [.null, .null, .null, .null, .null, .null, .int 0, .int 0, .null, .int 0, .null]))]) σ.2.1) (fun _ σ' k s => σ' = adL σ (m9 σ.2.1) ∧ k ≤ 8 ∧ s ≤ 120000) := by
  have p : ∀ {es : List Cel} {k : Nat} {fs : List Value} {v : Value}, es[0]? = some (.inr (.inl (6, fs))) → k < fs.length → pF (adL σ es) 6 σ.2.1 k v = some (adL σ (es.set 0 (.inr (.inl (6, fs.set k v))))) := fun h hk => ad_pF (i := 0) h hk
  have a1 : arI 32768 = AA 32768 (fun _ => 0) := by unfold arI; rw [show (32768 : Int32).toNatClampNeg = 32768 from rfl]
  have a5 : arI 68000 = AA 68000 (fun _ => 0) := by unfold arI; rw [show (68000 : Int32).toNatClampNeg = 68000 from rfl]
  have a7 : arI 6000 = AA 6000 (fun _ => 0) := by unfold arI; rw [show (6000 : Int32).toNatClampNeg = 6000 from rfl]
  unfold f_X6_init
  rw [a1, a5, a7]
  refine e_b1 (lenOk_eq (n := 32768) rfl (by decide)) ?_
  refine e_na (m := 1) rfl (e_b1 (p rfl (Nat.le_of_ble_eq_true rfl)) ?_)
  refine e_b1 (lenOk_eq (n := 8) rfl (by decide)) ?_
  refine e_na (m := 2) rfl (e_b1 (p rfl (Nat.le_of_ble_eq_true rfl)) ?_)
  refine e_b1 (lenOk_eq (n := 8) rfl (by decide)) ?_
  refine e_na (m := 3) rfl (e_b1 (p rfl (Nat.le_of_ble_eq_true rfl)) ?_)
  refine e_b1 (lenOk_eq (n := 8) rfl (by decide)) ?_
  refine e_na (m := 4) rfl (e_b1 (p rfl (Nat.le_of_ble_eq_true rfl)) ?_)
  refine e_b1 (lenOk_eq (n := 68000) rfl (by decide)) ?_
  refine e_na (m := 5) rfl (e_b1 (p rfl (Nat.le_of_ble_eq_true rfl)) ?_)
  refine e_b1 (lenOk_eq (n := 4) rfl (by decide)) ?_
  refine e_na (m := 6) rfl (e_b1 (p rfl (Nat.le_of_ble_eq_true rfl)) ?_)
  refine e_b1 (lenOk_eq (n := 6000) rfl (by decide)) ?_
  refine e_na (m := 7) rfl (e_b1 (p rfl (Nat.le_of_ble_eq_true rfl)) ?_)
  refine e_b1 (lenOk_eq (n := 6000) rfl (by decide)) ?_
  refine e_na (m := 8) rfl (e_b1 (p rfl (Nat.le_of_ble_eq_true rfl)) ?_)
  refine e_ret ⟨rfl, by omega, ?_⟩
  have e1 : (32768 : Int32).toNatClampNeg = 32768 := rfl
  have e2 : (8 : Int32).toNatClampNeg = 8 := rfl
  have e3 : (68000 : Int32).toNatClampNeg = 68000 := rfl
  have e4 : (4 : Int32).toNatClampNeg = 4 := rfl
  have e5 : (6000 : Int32).toNatClampNeg = 6000 := rfl
  rw [e1, e2, e3, e4, e5]
  omega
end ST2
