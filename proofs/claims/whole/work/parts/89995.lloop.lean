/-! ===== the law's loop ===== -/
section LW4
variable {t b N : Nat} {xs : Nat → Int32} {A A2 : AS} {T W T2 W2 : TS} {X : Nat → Nat → Int32} {σ : St} {L c V : Nat → Nat}
/-- the reference's call, as the law makes it -/
theorem lm (h : LI t b N xs σ L c V A T W X A2 T2 W2) {v : Int32} {F : St → Rs Int32} (hm : Mt σ (t + 38) (F (mst σ (t + 38) X)) v A T W) : Mt σ (t + 38) (F σ) v A T W := by
  rwa [h.2.1] at hm
theorem fin {σ1 : St} {L1 c1 V1 : Nat → Nat} {v : Int32} {e : Rs Int32} {K : St → Rs Unit} (h : LI t b N xs σ1 L1 c1 V1 A T W X A2 T2 W2) (hm : Mt σ1 (t + 38) e v A T W) (nxt : ∀ σ2 X', LI t b N xs σ2 L1 c1 V1 A T W X' A T W → Ye (K σ2) (Po c1)) : Ye (bd e fun x22 σ23 => if v = x22 then (K σ23) else none) (Po c1) := ls_m h hm (fun σ2 X' h2 => e_t rfl (nxt σ2 X' h2))
theorem lz1 {i k : Nat} {x : Int32} (hx : x = nI k) : nI i + x = nI (i + k) := by rw [hx, nI_add]
theorem LI.rk (h : LI t b N xs σ L c V A T W X A2 T2 W2) {i : Nat} (k : Nat) {x : Int32} (hx : x = nI k) (hi : i + k < N) (hN : N ≤ 3072) : ldI σ b (nI i + x) = some (xs (i + k)) := h.rd (lz1 hx) hi hN
theorem t_law_loop (hN : N ≤ 3072) : ∀ (f i : Nat) (σ : St) (L c V : Nat → Nat) (A : AS) (T W : TS) (X : Nat → Nat → Int32), N + 6 - i < f → i ≤ N + 6 → LI t b N xs σ L c V A T W X A T W → Ye (f_L_law_L18 f σ b t (t + 38) (nI i)) (Po c) := by
  intro f
  induction f with
  | zero => intro i σ L c V A T W X h; omega
  | succ f ih =>
    intro i σ L c V A T W X hf hi h
    show Ye (b_L_law_L18 (f_L_law_L18 f) _ _ _ _ _) _
    unfold b_L_law_L18
    have hsm := h.1.smb
    have hlen : aLn σ b = some (nI N) := by
      unfold aLn
      rw [h.2.2.2.2.2.1]
      rfl
    refine e_b1 hlen ?_
    have ecmp : (nI N - 6 < nI i) ↔ N < i + 6 := by
      rw [show (6 : Int32) = iZ 6 from rfl, iZ_n, iZ_n, iZ_sub]
      rw [iZ_lt (by omega) (by omega) (by omega) (by omega)]
      omega
    by_cases hend : N < i + 6
    · exact e_t (ecmp.mpr hend) (e_ret ⟨Nat.le_refl _, by omega⟩)
    · refine e_f (fun w => hend (ecmp.mp w)) ?_
      have nxt : ∀ (σ2 : St) (L2 c2 V2 : Nat → Nat) (A2 : AS) (T2 W2 : TS) (X2 : Nat → Nat → Int32), LI t b N xs σ2 L2 c2 V2 A2 T2 W2 X2 A2 T2 W2 → Ye (lt (nI i + 6) fun x11 => f_L_law_L18 f σ2 b t (t + 38) x11) (Po c2) := fun σ2 L2 c2 V2 A2 T2 W2 X2 h2 => e_le (lz1 rfl) (ih (i + 6) σ2 L2 c2 V2 A2 T2 W2 X2 (by omega) (by omega) h2)
      refine e_b1 (h.rd rfl (by omega) hN) (e_lt ?_)
      have r1 := h.rk (i := i) 1 rfl (by omega) hN
      have r2 := h.rk (i := i) 2 rfl (by omega) hN
      have r3 := h.rk (i := i) 3 rfl (by omega) hN
      have r4 := h.rk (i := i) 4 rfl (by omega) hN
      have r5 := h.rk (i := i) 5 rfl (by omega) hN
      obtain ⟨op, hop⟩ : ∃ op, xs i &&& 31 = op := ⟨_, rfl⟩
      rw [hop]
      refine e_jq ?_
      refine e_if (fun h0 => ?_) (fun _ => ?_)
      · refine e_b1 r1 (e_b1 r2 (e_b1 r3 (e_b1 r4 (ls_c h (t_cput h.1) (fun σ1 L1 c1 V1 h1 => ?_)))))
        refine e_b1 (h1.rk 1 rfl (by omega) hN) (e_b1 (h1.rk 2 rfl (by omega) hN) (e_b1 (h1.rk 3 rfl (by omega) hN) (e_b1 (h1.rk 4 rfl (by omega) hN) ?_)))
        exact fin h1 (lm h1 (F := fun s => f_X6_put s _ _ _ _) (h1.mo (t_mput h1.2.2.1))) (fun σ2 X' h2 => nxt σ2 _ _ _ _ _ _ X' h2)
      refine e_if (fun h0 => ?_) (fun _ => ?_)
      · refine e_b1 r1 (e_b1 r2 (e_b1 r3 ?_))
        refine e_jn (fun z27 => z27 = bI (decide (xs (i + 3) ≠ 0))) ?_ ?_
        · intro z27 hz
          subst hz
          refine ls_c h (t_ccopy h.1) (fun σ1 L1 c1 V1 h1 => ?_)
          refine e_b1 (h1.rk 1 rfl (by omega) hN) (e_b1 (h1.rk 2 rfl (by omega) hN) (e_b1 (h1.rk 3 rfl (by omega) hN) ?_))
          refine e_jn (fun z33 => z33 = bI (decide (xs (i + 3) ≠ 0))) ?_ ?_
          · intro z33 hz
            subst hz
            exact fin h1 (lm h1 (F := fun s => f_X6_copy s _ _ _ _) (h1.mo (t_mcopy h1.2.2.1))) (fun σ2 X' h2 => nxt σ2 _ _ _ _ _ _ X' h2)
          · intro k33 hk
            refine e_if (fun w => hk _ ?_) (fun w => hk _ ?_)
            · rw [decide_eq_false (fun z => z w)]; rfl
            · rw [decide_eq_true w]; rfl
        · intro k27 hk
          refine e_if (fun w => hk _ ?_) (fun w => hk _ ?_)
          · rw [decide_eq_false (fun z => z w)]; rfl
          · rw [decide_eq_true w]; rfl
      refine e_if (fun h0 => ?_) (fun _ => ?_)
      · refine e_b1 r1 (e_b1 r2 (e_b1 r3 (ls_c h (t_cadd h.1) (fun σ1 L1 c1 V1 h1 => ?_))))
        refine e_b1 (h1.rk 1 rfl (by omega) hN) (e_b1 (h1.rk 2 rfl (by omega) hN) (e_b1 (h1.rk 3 rfl (by omega) hN) ?_))
        exact fin h1 (lm h1 (F := fun s => f_X6_add s _ _ _ _) (h1.mo (t_madd h1.2.2.1))) (fun σ2 X' h2 => nxt σ2 _ _ _ _ _ _ X' h2)
      refine e_if (fun h0 => ?_) (fun _ => ?_)
      · refine e_b1 r1 (e_b1 r2 (e_b1 r3 (ls_c h (t_ctake h.1) (fun σ1 L1 c1 V1 h1 => ?_))))
        refine e_b1 (h1.rk 1 rfl (by omega) hN) (e_b1 (h1.rk 2 rfl (by omega) hN) (e_b1 (h1.rk 3 rfl (by omega) hN) ?_))
        exact fin h1 (lm h1 (F := fun s => f_X6_take s _ _ _ _) (h1.mo (t_mtake h1.2.2.1))) (fun σ2 X' h2 => nxt σ2 _ _ _ _ _ _ X' h2)
      refine e_if (fun h0 => ?_) (fun _ => ?_)
      · refine e_b1 r1 (e_b1 r2 (e_b1 r3 (ls_c h (t_ctimes h.1) (fun σ1 L1 c1 V1 h1 => ?_))))
        refine e_b1 (h1.rk 1 rfl (by omega) hN) (e_b1 (h1.rk 2 rfl (by omega) hN) (e_b1 (h1.rk 3 rfl (by omega) hN) ?_))
        exact fin h1 (lm h1 (F := fun s => f_X6_times s _ _ _ _) (h1.mo (t_mtimes h1.2.2.1))) (fun σ2 X' h2 => nxt σ2 _ _ _ _ _ _ X' h2)
      refine e_if (fun h0 => ?_) (fun _ => ?_)
      · refine e_b1 r1 (e_b1 r2 (e_b1 r3 (ls_c h (t_cpower h.1) (fun σ1 L1 c1 V1 h1 => ?_))))
        refine e_b1 (h1.rk 1 rfl (by omega) hN) (e_b1 (h1.rk 2 rfl (by omega) hN) (e_b1 (h1.rk 3 rfl (by omega) hN) ?_))
        exact fin h1 (lm h1 (F := fun s => f_X6_power s _ _ _ _) (h1.mo (t_mpower h1.2.2.1))) (fun σ2 X' h2 => nxt σ2 _ _ _ _ _ _ X' h2)
      refine e_if (fun h0 => ?_) (fun _ => ?_)
      · refine e_b1 r1 (e_b1 r2 (e_b1 r3 (e_b1 r4 (e_b1 r5 (ls_c h (t_cdivide h.1) (fun σ1 L1 c1 V1 h1 => ?_))))))
        refine e_b1 (h1.rk 1 rfl (by omega) hN) (e_b1 (h1.rk 2 rfl (by omega) hN) (e_b1 (h1.rk 3 rfl (by omega) hN) (e_b1 (h1.rk 4 rfl (by omega) hN) (e_b1 (h1.rk 5 rfl (by omega) hN) ?_))))
        exact fin h1 (lm h1 (F := fun s => f_X6_divide s _ _ _ _ _ _) (h1.mo (t_mdivide h1.2.2.1))) (fun σ2 X' h2 => nxt σ2 _ _ _ _ _ _ X' h2)
      refine e_if (fun h0 => ?_) (fun _ => ?_)
      · refine e_b1 r1 (e_b1 r2 (e_b1 r3 (e_b1 r4 (e_b1 r5 (ls_c h (t_cratio h.1) (fun σ1 L1 c1 V1 h1 => ?_))))))
        refine e_b1 (h1.rk 1 rfl (by omega) hN) (e_b1 (h1.rk 2 rfl (by omega) hN) (e_b1 (h1.rk 3 rfl (by omega) hN) (e_b1 (h1.rk 4 rfl (by omega) hN) (e_b1 (h1.rk 5 rfl (by omega) hN) ?_))))
        exact fin h1 (lm h1 (F := fun s => f_X6_ratio s _ _ _ _ _ _) (h1.mo (t_mratio h1.2.2.1))) (fun σ2 X' h2 => nxt σ2 _ _ _ _ _ _ X' h2)
      refine e_if (fun h0 => ?_) (fun _ => ?_)
      · refine e_b1 r1 (e_b1 r2 (e_b1 r3 (e_b1 r4 (ls_c h (t_cwhole h.1) (fun σ1 L1 c1 V1 h1 => ?_)))))
        refine e_b1 (h1.rk 1 rfl (by omega) hN) (e_b1 (h1.rk 2 rfl (by omega) hN) (e_b1 (h1.rk 3 rfl (by omega) hN) (e_b1 (h1.rk 4 rfl (by omega) hN) ?_)))
        exact fin h1 (lm h1 (F := fun s => f_X6_whole s _ _ _ _ _) (h1.mo (t_mwhole h1.2.2.1))) (fun σ2 X' h2 => nxt σ2 _ _ _ _ _ _ X' h2)
      refine e_if (fun h0 => ?_) (fun _ => ?_)
      · refine e_b1 r1 (e_b1 r2 (e_b1 r3 (e_b1 r4 (ls_c h (t_croot h.1) (fun σ1 L1 c1 V1 h1 => ?_)))))
        refine e_b1 (h1.rk 1 rfl (by omega) hN) (e_b1 (h1.rk 2 rfl (by omega) hN) (e_b1 (h1.rk 3 rfl (by omega) hN) (e_b1 (h1.rk 4 rfl (by omega) hN) ?_)))
        exact fin h1 (lm h1 (F := fun s => f_X6_root s _ _ _ _ _) (h1.mo (t_mroot h1.2.2.1))) (fun σ2 X' h2 => nxt σ2 _ _ _ _ _ _ X' h2)
      refine e_if (fun h0 => ?_) (fun _ => ?_)
      · refine e_b1 r1 (e_b1 r2 (e_b1 r3 (e_b1 r4 (ls_c h (t_crescale h.1) (fun σ1 L1 c1 V1 h1 => ?_)))))
        refine e_b1 (h1.rk 1 rfl (by omega) hN) (e_b1 (h1.rk 2 rfl (by omega) hN) (e_b1 (h1.rk 3 rfl (by omega) hN) (e_b1 (h1.rk 4 rfl (by omega) hN) ?_)))
        exact fin h1 (lm h1 (F := fun s => f_X6_rescale s _ _ _ _ _) (h1.mo (t_mrescale h1.2.2.1))) (fun σ2 X' h2 => nxt σ2 _ _ _ _ _ _ X' h2)
      refine e_if (fun h0 => ?_) (fun _ => ?_)
      · refine e_b1 r1 (e_b1 r2 (e_b1 r3 (e_b1 r4 (ls_c h (t_cround h.1) (fun σ1 L1 c1 V1 h1 => ?_)))))
        refine e_b1 (h1.rk 1 rfl (by omega) hN) (e_b1 (h1.rk 2 rfl (by omega) hN) (e_b1 (h1.rk 3 rfl (by omega) hN) (e_b1 (h1.rk 4 rfl (by omega) hN) ?_)))
        exact fin h1 (lm h1 (F := fun s => f_X6_round s _ _ _ _ _) (h1.mo (t_mround h1.2.2.1))) (fun σ2 X' h2 => nxt σ2 _ _ _ _ _ _ X' h2)
      refine e_if (fun h0 => ?_) (fun _ => ?_)
      · refine e_b1 r1 (e_b1 r2 (ls_c h (t_cstrip h.1) (fun σ1 L1 c1 V1 h1 => ?_)))
        refine e_b1 (h1.rk 1 rfl (by omega) hN) (e_b1 (h1.rk 2 rfl (by omega) hN) ?_)
        exact fin h1 (lm h1 (F := fun s => f_X6_strip s _ _ _) (h1.mo (t_mstrip h1.2.2.1))) (fun σ2 X' h2 => nxt σ2 _ _ _ _ _ _ X' h2)
      refine e_if (fun h0 => ?_) (fun _ => ?_)
      · refine e_b1 r1 (e_b1 r2 (e_b1 r3 (ls_c h (t_cmove h.1) (fun σ1 L1 c1 V1 h1 => ?_))))
        refine e_b1 (h1.rk 1 rfl (by omega) hN) (e_b1 (h1.rk 2 rfl (by omega) hN) (e_b1 (h1.rk 3 rfl (by omega) hN) ?_))
        exact fin h1 (lm h1 (F := fun s => f_X6_move s _ _ _ _) (h1.mo (t_mmove h1.2.2.1))) (fun σ2 X' h2 => nxt σ2 _ _ _ _ _ _ X' h2)
      refine e_if (fun h0 => ?_) (fun _ => ?_)
      · refine e_b1 r1 (e_b1 r2 (ls_c h (t_ccompare h.1) (fun σ1 L1 c1 V1 h1 => ?_)))
        refine e_b1 (h1.rk 1 rfl (by omega) hN) (e_b1 (h1.rk 2 rfl (by omega) hN) ?_)
        have hm := t_mcompare (σ := σ1) (o := t + 38) (a := xs (i + 1)) (b := xs (i + 2)) h1.2.2.1
        rw [h1.2.1] at hm
        exact e_b1 hm (e_t rfl (nxt σ1 L1 c1 V1 A T W X h1))
      refine e_if (fun h0 => ?_) (fun _ => ?_)
      · refine e_b1 r1 (e_b1 (t_csign h.1) (e_b1 r1 ?_))
        have hm := t_msign (σ := σ) (o := t + 38) (a := xs (i + 1)) h.2.2.1
        rw [h.2.1] at hm
        exact e_b1 hm (e_t rfl (nxt σ L c V A T W X h))
      refine e_if (fun h0 => ?_) (fun _ => ?_)
      · refine e_b1 r1 (e_b1 (t_cprec h.1) (e_b1 r1 ?_))
        have hm := t_mprec (σ := σ) (o := t + 38) (a := xs (i + 1)) h.2.2.1
        rw [h.2.1] at hm
        exact e_b1 hm (e_t rfl (nxt σ L c V A T W X h))
      refine e_if (fun h0 => ?_) (fun _ => ?_)
      · refine e_b1 r1 (e_b1 (t_cscale h.1) (e_b1 r1 ?_))
        have hm := t_mscale (σ := σ) (o := t + 38) (a := xs (i + 1)) h.2.2.1
        rw [h.2.1] at hm
        exact e_b1 hm (e_t rfl (nxt σ L c V A T W X h))
      refine e_if (fun h0 => ?_) (fun _ => ?_)
      · refine e_b1 r1 (e_b1 r2 (e_b1 (t_cdigit h.1) (e_b1 r1 (e_b1 r2 ?_))))
        have hm := t_mdigit (σ := σ) (o := t + 38) (a := xs (i + 1)) (k := xs (i + 2)) h.2.2.1
        rw [h.2.1] at hm
        exact e_b1 hm (e_t rfl (nxt σ L c V A T W X h))
      refine e_if (fun h0 => ?_) (fun _ => ?_)
      · refine e_b1 r1 (e_b1 r2 (ls_c h (t_ctype h.1) (fun σ1 L1 c1 V1 h1 => ?_)))
        refine e_b1 (h1.rk 1 rfl (by omega) hN) (e_b1 (h1.rk 2 rfl (by omega) hN) ?_)
        exact fin h1 (lm h1 (F := fun s => f_X6_type s _ _) (t_mtype h1.2.2.1 h1.2.2.2.1 h1.2.2.2.2.1)) (fun σ2 X' h2 => nxt σ2 _ _ _ _ _ _ X' h2)
      refine e_if (fun h0 => ?_) (fun _ => ?_)
      · refine e_b1 r1 (ls_c h (t_cread h.1) (fun σ1 L1 c1 V1 h1 => ?_))
        refine e_b1 (h1.rk 1 rfl (by omega) hN) ?_
        exact fin h1 (lm h1 (F := fun s => f_X6_read s _ _) (t_mread h1.2.2.1 h1.2.2.2.1 h1.2.2.2.2.1)) (fun σ2 X' h2 => nxt σ2 _ _ _ _ _ _ X' h2)
      refine e_if (fun h0 => ?_) (fun _ => ?_)
      · refine e_b1 r1 (e_b1 r2 (ls_c h (t_cwrite h.1) (fun σ1 L1 c1 V1 h1 => ?_)))
        refine e_b1 (h1.rk 1 rfl (by omega) hN) (e_b1 (h1.rk 2 rfl (by omega) hN) ?_)
        exact fin h1 (lm h1 (F := fun s => f_X6_write s _ _ _) (t_mwrite h1.2.2.1 h1.2.2.2.1 h1.2.2.2.2.1)) (fun σ2 X' h2 => nxt σ2 _ _ _ _ _ _ X' h2)
      refine e_if (fun h0 => ?_) (fun _ => ?_)
      · refine e_b1 r1 (e_b1 (t_cchar h.1) (e_b1 r1 ?_))
        have hm := t_mchar (σ := σ) (o := t + 38) (k := xs (i + 1)) h.2.2.2.2.1
        rw [h.2.1] at hm
        exact e_b1 hm (e_t rfl (nxt σ L c V A T W X h))
      · exact nxt σ L c V A T W X h
end LW4
