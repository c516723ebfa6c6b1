/-! ===== the beginning of both; what holds between two calls ===== -/
def A0 : AS := (fun _ => 0, fun _ => false, fun _ => 0)
def E0 : TS := (fun _ => 0, 0)
def X0 : Nat → Nat → Int32 := fun _ _ => 0
def L0 (t i : Nat) : Nat := if i < 8 then t + (16 + 3 * i) else if i < 11 then t + (3 + 2 * (i - 8)) else if i = 11 then t + 9 else t + 11
def c0 (i : Nat) : Nat := if i < 11 then 4 else 16
section ST
variable {σ : St}
theorem ad_fr {es : List Cel} {S : Nat → Prop} : Fr S σ (adL σ es) := ⟨fun q h _ => ad_old h, by rw [ad_n]; omega, rfl, ad_dm⟩
theorem ok_A0 : okA A0 := fun i _ => ⟨by show sz 0 ≤ 4096; decide, by show -2147483648 ≤ (0 : Int); decide, by show (0 : Int) < 2147483648; decide, fun w => by cases w⟩
theorem nv0 {a l : Nat} (h1 : σ.1 a = some (OO l 0)) (h2 : σ.1 l = some (AA 4 (fun _ => 0))) : NV σ a l 4 0 := NV.mk (n := 0) (g := fun _ => 0) h1 h2 (fun j hj => by omega) (by decide) (by decide) (fun j hj => by omega) (fun h => by omega) rfl
theorem tt0 {p l : Nat} (h1 : σ.1 p = some (TO l 0)) (h2 : σ.1 l = some (BA 16 (fun _ => 0))) : TT σ p l 16 E0 := ⟨h1, ⟨_, h2, fun j hj => absurd hj (Nat.not_lt_zero j)⟩, by decide, by decide, by decide, by decide, fun j hj => absurd hj (Nat.not_lt_zero j)⟩
theorem t_ci0 {g : Nat → Option Nat} (hg : ∀ j, j < 8 → g j = some (dA σ.2.1 j)) (hD : Dm σ) (hT : TN σ) : CI σ.2.1 (adL σ (b14 σ.2.1 g ++ rgs σ.2.1 8)) (L0 σ.2.1) c0 (fun _ => 0) A0 E0 E0 := by
  obtain ⟨n, hn⟩ : ∃ n, σ.2.1 = n := ⟨_, rfl⟩
  have lo : ∀ (i : Nat) (e : Cel), (b14 σ.2.1 g)[i]? = some e → (adL σ (b14 σ.2.1 g ++ rgs σ.2.1 8)).1 (σ.2.1 + i) = some e := fun i e h => ad_at (by
    have hi : i < (b14 σ.2.1 g).length := (List.getElem?_eq_some_iff.mp h).1
    rw [List.getElem?_append_left hi]; exact h)
  have hi' : ∀ (i : Nat) (e : Cel), (rgs σ.2.1 8)[i]? = some e → (adL σ (b14 σ.2.1 g ++ rgs σ.2.1 8)).1 (σ.2.1 + (14 + i)) = some e := fun i e h => ad_at (by
    rw [List.getElem?_append_right (show (b14 σ.2.1 g).length ≤ 14 + i by show 14 ≤ _; omega)]
    show (rgs σ.2.1 8)[14 + i - 14]? = _
    rw [Nat.add_sub_cancel_left]; exact h)
  refine ⟨ok_A0, fun i hi => ⟨?_, by unfold c0; rw [if_pos hi]; decide⟩, fun i hi => rfl, fun i j hi hj hne => ?_, lo 0 _ rfl, ⟨g, lo 1 _ rfl, hg⟩, fun i hi => ?_, ?_, ?_, ⟨0, 0, 0, 0, 0, lo 12 _ rfl⟩, ⟨0, 0, 0, 0, 0, 0, lo 13 _ rfl⟩, hT.fr hD ad_fr (S := fun _ => False) id, ad_dm hD⟩
  · have ec : c0 i = 4 := if_pos hi
    rw [ec]
    by_cases h8 : i < 8
    · have el : L0 σ.2.1 i = σ.2.1 + (16 + 3 * i) := if_pos h8
      have ea : nA σ.2.1 i = σ.2.1 + (14 + (3 * i + 1)) := by unfold nA; rw [if_pos h8]; omega
      obtain ⟨r1, r2, r3⟩ := rgs_at (n := σ.2.1) (k := i) 8 h8
      rw [el, ea]
      refine nv0 (hi' _ _ r2) ?_
      have := hi' _ _ r3
      rwa [show 14 + (3 * i + 2) = 16 + 3 * i by omega] at this
    · have h3 : i = 8 ∨ i = 9 ∨ i = 10 := by omega
      rcases h3 with rfl | rfl | rfl
      · exact nv0 (lo 2 _ rfl) (lo 3 _ rfl)
      · exact nv0 (lo 4 _ rfl) (lo 5 _ rfl)
      · exact nv0 (lo 6 _ rfl) (lo 7 _ rfl)
  · unfold L0
    repeat' split
    all_goals omega
  · obtain ⟨r1, r2, r3⟩ := rgs_at (n := σ.2.1) (k := i) 8 hi
    have ed : dA σ.2.1 i = σ.2.1 + (14 + 3 * i) := by unfold dA; omega
    have ea : nA σ.2.1 i = σ.2.1 + (15 + 3 * i) := by unfold nA; rw [if_pos hi]; omega
    rw [ed, ea]
    exact hi' _ _ r1
  · exact tt0 (lo 8 _ rfl) (lo 9 _ rfl)
  · exact tt0 (lo 10 _ rfl) (lo 11 _ rfl)
end ST
