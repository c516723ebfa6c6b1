set_option maxHeartbeats 4000000 in
set_option maxRecDepth 100000 in
theorem m_X5_root {G : Gm} {l : Launch} {σ : St} {a0 : Nat} {i1 : Int32} {i2 : Int32} {i3 : Int32} {i4 : Int32} {r : Int32} {σf : St} {k s : Nat} (hf : f_X5_root σ a0 i1 i2 i3 i4 = some (r, σf, k, s)) : (∃ fs : List Value, σ.1 a0 = some (.inr (.inl (5, fs)))) ∧ Ct G l y_X5_root prog_1_method_11_code 10 (some .boolean) 8 203 [.ref a0, .int i1, .int i2, .int i3, .int i4] σ (some (.int r)) σf k s := by
  unfold f_X5_root at hf
  obtain ⟨hob, hf⟩ := ob_some hf
  refine ⟨hob, Ct.ofV pl_X5_root (Nat.le_of_ble_eq_true rfl) ?_⟩
  intro K hR hN hnm hC hE
  show V K (k + 0) (s + 0) σ 0 [(0, .ref a0), (1, .int i1), (2, .int i2), (3, .int i3), (4, .int i4)] []
  refine v_iload_n hC 2 dX5_root_0 rfl ?_
  refine v_cSP hC (y := y_X5_isRegister) [.int i2] [] (fun r => some (.int r)) (fun r => .int r :: []) hf (fun _ h => m_X5_isRegister h) rfl (fun _ => rfl) hR (Nat.le_of_ble_eq_true rfl) (Nat.le_of_ble_eq_true rfl) w_228 w_226 w_227 w_58 nm_X5_isRegister rfl (Nat.le_of_ble_eq_true rfl) dX5_root_1 (fun x1 hf => ?_)
  refine v_if_eq hC hf dX5_root_4 (tgt := 26) (by decide) (fun hf => ?_) (fun hf => ?_)
  · refine v_iconst (v := 0) hC dX5_root_26 (by decide) ?_
    exact v_retZ hC hf hE dX5_root_27
  · refine v_at 7 rfl ?_
    refine v_iload_n hC 3 dX5_root_7 rfl ?_
    refine v_cSP hC (y := y_X5_isPrecision) [.int i3] [] (fun r => some (.int r)) (fun r => .int r :: []) hf (fun _ h => m_X5_isPrecision h) rfl (fun _ => rfl) hR (Nat.le_of_ble_eq_true rfl) (Nat.le_of_ble_eq_true rfl) w_442 w_440 w_441 w_58 nm_X5_isPrecision rfl (Nat.le_of_ble_eq_true rfl) dX5_root_8 (fun x2 hf => ?_)
    refine v_if_eq hC hf dX5_root_11 (tgt := 26) (by decide) (fun hf => ?_) (fun hf => ?_)
    · refine v_iconst (v := 0) hC dX5_root_26 (by decide) ?_
      exact v_retZ hC hf hE dX5_root_27
    · refine v_at 14 rfl ?_
      refine v_iload_n hC 3 dX5_root_14 rfl ?_
      refine v_if_eq hC hf dX5_root_15 (tgt := 26) (by decide) (fun hf => ?_) (fun hf => ?_)
      · refine v_iconst (v := 0) hC dX5_root_26 (by decide) ?_
        exact v_retZ hC hf hE dX5_root_27
      · refine v_at 18 rfl ?_
        refine v_iload hC 4 dX5_root_18 rfl ?_
        refine v_cSP hC (y := y_X5_isRounding) [.int i4] [] (fun r => some (.int r)) (fun r => .int r :: []) hf (fun _ h => m_X5_isRounding h) rfl (fun _ => rfl) hR (Nat.le_of_ble_eq_true rfl) (Nat.le_of_ble_eq_true rfl) w_363 w_361 w_362 w_58 nm_X5_isRounding rfl (Nat.le_of_ble_eq_true rfl) dX5_root_20 (fun x3 hf => ?_)
        refine v_if_ne hC hf dX5_root_23 (tgt := 28) (by decide) (fun hf => ?_) (fun hf => ?_)
        · refine v_aload_n hC 0 dX5_root_28 rfl ?_
          refine v_getR hC (host := "") hf fd_5_0 w_185 dX5_root_29 (fun r4 hf => ?_)
          refine v_iload_n hC 2 dX5_root_32 rfl ?_
          refine v_ldA hC hf dX5_root_33 (fun r5 hf => ?_)
          refine v_astore hC [(5, .ref r5), (0, .ref a0), (1, .int i1), (2, .int i2), (3, .int i3), (4, .int i4)] dX5_root_34 hN (Nat.le_of_ble_eq_true rfl) rfl ?_
          refine v_aload hC 0 dX5_root_36 rfl ?_
          refine v_getIN hC hf fd_0_1 n_17 dX5_root_38 (fun x6 hf => ?_)
          refine v_if_eq hC hf dX5_root_41 (tgt := 46) (by decide) (fun hf => ?_) (fun hf => ?_)
          · refine v_aload hC 0 dX5_root_46 rfl ?_
            refine v_getIN hC hf fd_0_2 n_19 dX5_root_48 (fun x7 hf => ?_)
            refine v_iconst (v := 2) hC dX5_root_51 (by decide) ?_
            refine v_idiv hC hf dX5_root_52 (fun x8 hf => ?_)
            refine v_istore hC [(6, .int x8), (5, .ref r5), (0, .ref a0), (1, .int i1), (2, .int i2), (3, .int i3), (4, .int i4)] dX5_root_53 hN (Nat.le_of_ble_eq_true rfl) rfl ?_
            refine v_aload hC 1 dX5_root_55 rfl ?_
            refine v_getRN hC hf fd_0_0 n_15 dX5_root_57 (fun r9 hf => ?_)
            refine v_cVP hC (y := y_X2_isZero) (ci := 2) [] [] (fun r => some (.int r)) (fun r => .int r :: []) hf (fun _ h => m_X2_isZero h) rfl (fun _ => rfl) rfl rfl hR (Nat.le_of_ble_eq_true rfl) (Nat.le_of_ble_eq_true rfl) w_273 w_290 w_271 w_272 w_59 nm_X2_isZero rfl (Nat.le_of_ble_eq_true rfl) dX5_root_60 (fun x10 hf => ?_)
            refine v_at 63 rfl ?_
            refine v_if_eq hC hf dX5_root_63 (tgt := 81) (by decide) (fun hf => ?_) (fun hf => ?_)
            · refine v_iload_n hC 5 dX5_root_81 rfl ?_
              refine v_bipush (v := 9) hC dX5_root_82 (by decide) ?_
              refine v_idiv hC hf dX5_root_84 (fun x11 hf => ?_)
              refine v_iconst (v := 1) hC dX5_root_85 (by decide) ?_
              refine v_iadd hC dX5_root_86 ?_
              refine v_ltI hf (fun x12 hf => ?_)
              refine v_istore hC [(7, .int x12), (6, .int x8), (5, .ref r5), (0, .ref a0), (1, .int i1), (2, .int i2), (3, .int i3), (4, .int i4)] dX5_root_87 hN (Nat.le_of_ble_eq_true rfl) rfl ?_
              refine v_bipush (v := 18) hC dX5_root_89 (by decide) ?_
              refine v_iload hC 0 dX5_root_91 rfl ?_
              refine v_at 93 rfl ?_
              refine v_imul hC dX5_root_93 ?_
              refine v_aload hC 2 dX5_root_94 rfl ?_
              refine v_getRN hC hf fd_0_0 n_15 dX5_root_96 (fun r13 hf => ?_)
              refine v_cVP hC (y := y_X2_digitCount) (ci := 2) [] [.int (18 * x12)] (fun r => some (.int r)) (fun r => .int r :: [.int (18 * x12)]) hf (fun _ h => m_X2_digitCount h) rfl (fun _ => rfl) rfl rfl hR (Nat.le_of_ble_eq_true rfl) (Nat.le_of_ble_eq_true rfl) w_235 w_232 w_233 w_234 w_59 nm_X2_digitCount rfl (Nat.le_of_ble_eq_true rfl) dX5_root_99 (fun x14 hf => ?_)
              refine v_isub hC dX5_root_102 ?_
              refine v_ltI hf (fun x15 hf => ?_)
              refine v_istore hC [(8, .int x15), (7, .int x12), (6, .int x8), (5, .ref r5), (0, .ref a0), (1, .int i1), (2, .int i2), (3, .int i3), (4, .int i4)] dX5_root_103 hN (Nat.le_of_ble_eq_true rfl) rfl ?_
              refine v_aload hC 3 dX5_root_105 rfl ?_
              refine v_getIN hC hf fd_0_2 n_19 dX5_root_107 (fun x16 hf => ?_)
              refine v_at 110 rfl ?_
              refine v_iload hC 0 dX5_root_110 rfl ?_
              refine v_ixor hC dX5_root_112 ?_
              refine v_iconst (v := 1) hC dX5_root_113 (by decide) ?_
              refine v_iand hC dX5_root_114 ?_
              refine v_jnE hf (fun z17 kr sr => V K (kr + 0) (sr + 0) σ 121 [(0, .ref a0), (1, .int i1), (3, .int i3), (4, .int i4), (5, .ref r5), (6, .int x8), (8, .int z17)] []) (fun z17 _ _ hf => ?_) (fun k17 hk17 hf => ?_)
              · refine v_iconst (v := 0) hC dX5_root_121 (by decide) ?_
                refine v_istore hC [(9, .int 0), (0, .ref a0), (1, .int i1), (3, .int i3), (4, .int i4), (5, .ref r5), (6, .int x8), (8, .int z17)] dX5_root_122 hN (Nat.le_of_ble_eq_true rfl) rfl ?_
                refine v_iload hC 7 dX5_root_124 rfl ?_
                refine v_jnE hf (fun z18 kr sr => V K (kr + 0) (sr + 0) z18.2 179 [(0, .ref a0), (1, .int i1), (3, .int i3), (4, .int i4), (5, .ref r5), (6, .int x8), (8, .int z17), (9, .int z18.1)] []) (fun z18 _ _ hf => ?_) (fun k18 hk18 hf => ?_)
                · refine v_aload_n hC 0 dX5_root_179 rfl ?_
                  refine v_getR hC (host := "") hf fd_5_1 w_186 dX5_root_180 (fun r19 hf => ?_)
                  refine v_aload_n hC 0 dX5_root_183 rfl ?_
                  refine v_getR hC (host := "") hf fd_5_2 w_187 dX5_root_184 (fun r20 hf => ?_)
                  refine v_aload_n hC 0 dX5_root_187 rfl ?_
                  refine v_getR hC (host := "") hf fd_5_3 w_188 dX5_root_188 (fun r21 hf => ?_)
                  refine v_cVE hC (y := y_X2_takeRoot) (ci := 2) [.ref r20, .ref r21] [] (fun _ => none) (fun _ => []) hf (fun _ _ _ _ h => m_X2_takeRoot h) rfl (fun _ => rfl) rfl rfl hR (Nat.le_of_ble_eq_true rfl) (Nat.le_of_ble_eq_true rfl) w_480 w_477 w_478 w_479 w_59 nm_X2_takeRoot rfl (Nat.le_of_ble_eq_true rfl) dX5_root_191 (fun _ σ22 _ _ hf => ?_)
                  refine v_iload hC 7 dX5_root_194 rfl ?_
                  refine v_at 196 rfl ?_
                  refine v_jnE hf (fun z23 kr sr => V K (kr + 0) (sr + 0) σ22 214 [(0, .ref a0), (1, .int i1), (3, .int i3), (4, .int i4), (5, .ref r5), (6, .int x8), (8, .int z17)] [.int z23]) (fun z23 _ _ hf => ?_) (fun k23 hk23 hf => ?_)
                  · refine v_istore hC [(9, .int z23), (0, .ref a0), (1, .int i1), (3, .int i3), (4, .int i4), (5, .ref r5), (6, .int x8), (8, .int z17)] dX5_root_214 hN (Nat.le_of_ble_eq_true rfl) rfl ?_
                    refine v_aload_n hC 1 dX5_root_216 rfl ?_
                    refine v_iload_n hC 2 dX5_root_217 rfl ?_
                    refine v_iconst (v := 0) hC dX5_root_218 (by decide) ?_
                    refine v_aload hC 5 dX5_root_219 rfl ?_
                    refine v_getIN hC hf fd_0_2 n_19 dX5_root_221 (fun x24 hf => ?_)
                    refine v_i2l hC dX5_root_224 ?_
                    refine v_iload hC 7 dX5_root_225 rfl ?_
                    refine v_at 227 rfl ?_
                    refine v_i2l hC dX5_root_227 ?_
                    refine v_ladd hC dX5_root_228 ?_
                    refine v_ldc2 hC dX5_root_229 w_493 ?_
                    refine v_ldiv hC hf dX5_root_232 (fun l25 hf => ?_)
                    refine v_iload hC 0 dX5_root_233 rfl ?_
                    refine v_iload hC 6 dX5_root_235 rfl ?_
                    refine v_i2l hC dX5_root_237 ?_
                    refine v_iload_n hC 3 dX5_root_238 rfl ?_
                    refine v_at 239 rfl ?_
                    refine v_iload hC 4 dX5_root_239 rfl ?_
                    refine v_cVE hC (y := y_X5_settle) (ci := 5) [.int i1, .int 0, .long l25, .int z23, .long ((x8 : Int32).toInt64), .int i3, .int i4] [] (fun r => some (.int r)) (fun r => .int r :: []) hf (fun _ _ _ _ h => m_X5_settle h) rfl (fun _ => rfl) rfl rfl hR (Nat.le_of_ble_eq_true rfl) (Nat.le_of_ble_eq_true rfl) w_456 w_453 w_455 w_15 w_58 nm_X5_settle rfl (Nat.le_of_ble_eq_true rfl) dX5_root_241 (fun x26 σ27 _ _ hf => ?_)
                    exact v_retZ hC hf hE dX5_root_244
                  · refine v_jnE hf (fun z28 kr sr => V K (kr + 0) (sr + 0) σ22 209 [(0, .ref a0), (1, .int i1), (3, .int i3), (4, .int i4), (5, .ref r5), (6, .int x8), (8, .int z17)] []) (fun z28 _ _ hf => ?_) (fun k28 hk28 hf => ?_)
                    · refine v_iconst (v := 1) hC dX5_root_209 (by decide) ?_
                      refine v_goto (tgt := 214) hC dX5_root_210 (by decide) ?_
                      exact v_sub [(0, .ref a0), (1, .int i1), (3, .int i3), (4, .int i4), (5, .ref r5), (6, .int x8), (8, .int z17)] [0, 1, 2, 3, 4, 5, 6] rfl (hk23 _ _ _ hf)
                    · refine v_if_ne hC hf dX5_root_196 (tgt := 209) (by decide) (fun hf => ?_) (fun hf => ?_)
                      · exact v_sub [(0, .ref a0), (1, .int i1), (3, .int i3), (4, .int i4), (5, .ref r5), (6, .int x8), (8, .int z17)] [0, 1, 2, 3, 4, 5, 6] rfl (hk28 _ _ _ hf)
                      · refine v_at 199 rfl ?_
                        refine v_aload_n hC 0 dX5_root_199 rfl ?_
                        refine v_getR hC (host := "") hf fd_5_1 w_186 dX5_root_200 (fun r29 hf => ?_)
                        refine v_cVP hC (y := y_X2_isZero) (ci := 2) [] [] (fun r => some (.int r)) (fun r => .int r :: []) hf (fun _ h => m_X2_isZero h) rfl (fun _ => rfl) rfl rfl hR (Nat.le_of_ble_eq_true rfl) (Nat.le_of_ble_eq_true rfl) w_273 w_290 w_271 w_272 w_59 nm_X2_isZero rfl (Nat.le_of_ble_eq_true rfl) dX5_root_203 (fun x30 hf => ?_)
                        refine v_if_ne hC hf dX5_root_206 (tgt := 213) (by decide) (fun hf => ?_) (fun hf => ?_)
                        · refine v_iconst (v := 0) hC dX5_root_213 (by decide) ?_
                          refine v_at 214 rfl ?_
                          exact v_sub [(0, .ref a0), (1, .int i1), (3, .int i3), (4, .int i4), (5, .ref r5), (6, .int x8), (8, .int z17)] [0, 1, 2, 3, 4, 5, 6] rfl (hk23 _ _ _ hf)
                        · refine v_at 209 rfl ?_
                          exact v_sub [(0, .ref a0), (1, .int i1), (3, .int i3), (4, .int i4), (5, .ref r5), (6, .int x8), (8, .int z17)] [0, 1, 2, 3, 4, 5, 6] rfl (hk28 _ _ _ hf)
                · refine v_if_lt hC hf dX5_root_126 (tgt := 146) (by decide) (fun hf => ?_) (fun hf => ?_)
                  · refine v_aload_n hC 1 dX5_root_146 rfl ?_
                    refine v_getR hC (host := "") hf fd_5_1 w_186 dX5_root_147 (fun r31 hf => ?_)
                    refine v_aload hC 5 dX5_root_150 rfl ?_
                    refine v_getRN hC hf fd_0_0 n_15 dX5_root_152 (fun r32 hf => ?_)
                    refine v_cVE hC (y := y_X2_become) (ci := 2) [.ref r32] [] (fun _ => none) (fun _ => []) hf (fun _ _ _ _ h => m_X2_become h) rfl (fun _ => rfl) rfl rfl hR (Nat.le_of_ble_eq_true rfl) (Nat.le_of_ble_eq_true rfl) w_245 w_352 w_243 w_244 w_59 nm_X2_become rfl (Nat.le_of_ble_eq_true rfl) dX5_root_155 (fun _ σ33 _ _ hf => ?_)
                    refine v_aload_n hC 1 dX5_root_158 rfl ?_
                    refine v_getR hC (host := "") hf fd_5_1 w_186 dX5_root_159 (fun r34 hf => ?_)
                    refine v_iload hC 7 dX5_root_162 rfl ?_
                    refine v_at 164 rfl ?_
                    refine v_ineg hC dX5_root_164 ?_
                    refine v_iconst (v := 0) hC dX5_root_165 (by decide) ?_
                    refine v_cVE hC (y := y_X2_cut) (ci := 2) [.int (-z17), .int 0] [] (fun r => some (.int r)) (fun r => .int r :: []) hf (fun _ _ _ _ h => m_X2_cut h) rfl (fun _ => rfl) rfl rfl hR (Nat.le_of_ble_eq_true rfl) (Nat.le_of_ble_eq_true rfl) w_411 w_408 w_409 w_410 w_59 nm_X2_cut rfl (Nat.le_of_ble_eq_true rfl) dX5_root_166 (fun x35 σ36 _ _ hf => ?_)
                    refine v_jnE hf (fun z37 kr sr => V K (kr + 0) (sr + 0) σ36 177 [(0, .ref a0), (1, .int i1), (3, .int i3), (4, .int i4), (5, .ref r5), (6, .int x8), (8, .int z17)] [.int z37]) (fun z37 _ _ hf => ?_) (fun k37 hk37 hf => ?_)
                    · refine v_istore hC [(9, .int z37), (0, .ref a0), (1, .int i1), (3, .int i3), (4, .int i4), (5, .ref r5), (6, .int x8), (8, .int z17)] dX5_root_177 hN (Nat.le_of_ble_eq_true rfl) rfl ?_
                      refine v_at 179 rfl ?_
                      exact v_sub [(0, .ref a0), (1, .int i1), (3, .int i3), (4, .int i4), (5, .ref r5), (6, .int x8), (8, .int z17), (9, .int z37)] [1, 2, 3, 4, 5, 6, 7, 0] rfl (hk18 _ _ _ hf)
                    · refine v_if_eq hC hf dX5_root_169 (tgt := 176) (by decide) (fun hf => ?_) (fun hf => ?_)
                      · refine v_iconst (v := 0) hC dX5_root_176 (by decide) ?_
                        refine v_at 177 rfl ?_
                        exact v_sub [(0, .ref a0), (1, .int i1), (3, .int i3), (4, .int i4), (5, .ref r5), (6, .int x8), (8, .int z17)] [1, 2, 3, 4, 5, 6, 7] rfl (hk37 _ _ _ hf)
                      · refine v_at 172 rfl ?_
                        refine v_iconst (v := 1) hC dX5_root_172 (by decide) ?_
                        refine v_goto (tgt := 177) hC dX5_root_173 (by decide) ?_
                        exact v_sub [(0, .ref a0), (1, .int i1), (3, .int i3), (4, .int i4), (5, .ref r5), (6, .int x8), (8, .int z17)] [1, 2, 3, 4, 5, 6, 7] rfl (hk37 _ _ _ hf)
                  · refine v_at 129 rfl ?_
                    refine v_aload_n hC 1 dX5_root_129 rfl ?_
                    refine v_getR hC (host := "") hf fd_5_1 w_186 dX5_root_130 (fun r38 hf => ?_)
                    refine v_aload hC 5 dX5_root_133 rfl ?_
                    refine v_getRN hC hf fd_0_0 n_15 dX5_root_135 (fun r39 hf => ?_)
                    refine v_iload hC 7 dX5_root_138 rfl ?_
                    refine v_cVE hC (y := y_X2_raise) (ci := 2) [.ref r39, .int z17] [] (fun _ => none) (fun _ => []) hf (fun _ _ _ _ h => m_X2_raise h) rfl (fun _ => rfl) rfl rfl hR (Nat.le_of_ble_eq_true rfl) (Nat.le_of_ble_eq_true rfl) w_299 w_296 w_297 w_298 w_59 nm_X2_raise rfl (Nat.le_of_ble_eq_true rfl) dX5_root_140 (fun _ σ40 _ _ hf => ?_)
                    refine v_goto (tgt := 179) hC dX5_root_143 (by decide) ?_
                    exact v_sub [(0, .ref a0), (1, .int i1), (3, .int i3), (4, .int i4), (5, .ref r5), (6, .int x8), (8, .int z17), (9, .int 0)] [1, 2, 3, 4, 5, 6, 7, 0] rfl (hk18 _ _ _ hf)
              · refine v_if_eq hC hf dX5_root_115 (tgt := 121) (by decide) (fun hf => ?_) (fun hf => ?_)
                · exact v_sub [(0, .ref a0), (1, .int i1), (3, .int i3), (4, .int i4), (5, .ref r5), (6, .int x8), (8, .int x15)] [4, 5, 7, 8, 3, 2, 0] rfl (hk17 _ _ _ hf)
                · refine v_at 118 rfl ?_
                  refine v_incL hC hf 0 (fun x41 => [(8, .int x41), (7, .int x12), (6, .int x8), (5, .ref r5), (0, .ref a0), (1, .int i1), (2, .int i2), (3, .int i3), (4, .int i4)]) dX5_root_118 rfl (by decide) hN (Nat.le_of_ble_eq_true rfl) (fun _ => rfl) (fun x41 hf => ?_)
                  refine v_at 121 rfl ?_
                  exact v_sub [(0, .ref a0), (1, .int i1), (3, .int i3), (4, .int i4), (5, .ref r5), (6, .int x8), (8, .int x41)] [4, 5, 7, 8, 3, 2, 0] rfl (hk17 _ _ _ hf)
            · refine v_at 66 rfl ?_
              refine v_aload_n hC 2 dX5_root_66 rfl ?_
              refine v_iload_n hC 3 dX5_root_67 rfl ?_
              refine v_aload hC 1 dX5_root_68 rfl ?_
              refine v_getRN hC hf fd_0_0 n_15 dX5_root_70 (fun r42 hf => ?_)
              refine v_iconst (v := 0) hC dX5_root_73 (by decide) ?_
              refine v_iload hC 0 dX5_root_74 rfl ?_
              refine v_i2l hC dX5_root_76 ?_
              refine v_cVE hC (y := y_X5_keep) (ci := 5) [.int i1, .ref r42, .int 0, .long ((x8 : Int32).toInt64)] [] (fun r => some (.int r)) (fun r => .int r :: []) hf (fun _ _ _ _ h => m_X5_keep h) rfl (fun _ => rfl) rfl rfl hR (Nat.le_of_ble_eq_true rfl) (Nat.le_of_ble_eq_true rfl) w_225 w_222 w_224 w_0 w_58 nm_X5_keep rfl (Nat.le_of_ble_eq_true rfl) dX5_root_77 (fun x43 σ44 _ _ hf => ?_)
              refine v_at 80 rfl ?_
              exact v_retZ hC hf hE dX5_root_80
          · refine v_at 44 rfl ?_
            refine v_iconst (v := 0) hC dX5_root_44 (by decide) ?_
            exact v_retZ hC hf hE dX5_root_45
        · refine v_at 26 rfl ?_
          refine v_iconst (v := 0) hC dX5_root_26 (by decide) ?_
          exact v_retZ hC hf hE dX5_root_27
set_option maxHeartbeats 4000000 in
set_option maxRecDepth 100000 in
theorem m_X5_rescale {G : Gm} {l : Launch} {σ : St} {a0 : Nat} {i1 : Int32} {i2 : Int32} {i3 : Int32} {i4 : Int32} {r : Int32} {σf : St} {k s : Nat} (hf : f_X5_rescale σ a0 i1 i2 i3 i4 = some (r, σf, k, s)) : (∃ fs : List Value, σ.1 a0 = some (.inr (.inl (5, fs)))) ∧ Ct G l y_X5_rescale prog_1_method_12_code 9 (some .boolean) 6 138 [.ref a0, .int i1, .int i2, .int i3, .int i4] σ (some (.int r)) σf k s := by
  unfold f_X5_rescale at hf
  obtain ⟨hob, hf⟩ := ob_some hf
  refine ⟨hob, Ct.ofV pl_X5_rescale (Nat.le_of_ble_eq_true rfl) ?_⟩
  intro K hR hN hnm hC hE
  show V K (k + 0) (s + 0) σ 0 [(0, .ref a0), (1, .int i1), (2, .int i2), (3, .int i3), (4, .int i4)] []
  refine v_iload_n hC 2 dX5_rescale_0 rfl ?_
  refine v_cSP hC (y := y_X5_isRegister) [.int i2] [] (fun r => some (.int r)) (fun r => .int r :: []) hf (fun _ h => m_X5_isRegister h) rfl (fun _ => rfl) hR (Nat.le_of_ble_eq_true rfl) (Nat.le_of_ble_eq_true rfl) w_228 w_226 w_227 w_58 nm_X5_isRegister rfl (Nat.le_of_ble_eq_true rfl) dX5_rescale_1 (fun x1 hf => ?_)
  refine v_if_eq hC hf dX5_rescale_4 (tgt := 15) (by decide) (fun hf => ?_) (fun hf => ?_)
  · refine v_iconst (v := 0) hC dX5_rescale_15 (by decide) ?_
    exact v_retZ hC hf hE dX5_rescale_16
  · refine v_at 7 rfl ?_
    refine v_iload hC 4 dX5_rescale_7 rfl ?_
    refine v_cSP hC (y := y_X5_isRounding) [.int i4] [] (fun r => some (.int r)) (fun r => .int r :: []) hf (fun _ h => m_X5_isRounding h) rfl (fun _ => rfl) hR (Nat.le_of_ble_eq_true rfl) (Nat.le_of_ble_eq_true rfl) w_363 w_361 w_362 w_58 nm_X5_isRounding rfl (Nat.le_of_ble_eq_true rfl) dX5_rescale_9 (fun x2 hf => ?_)
    refine v_if_ne hC hf dX5_rescale_12 (tgt := 17) (by decide) (fun hf => ?_) (fun hf => ?_)
    · refine v_aload_n hC 0 dX5_rescale_17 rfl ?_
      refine v_getR hC (host := "") hf fd_5_0 w_185 dX5_rescale_18 (fun r3 hf => ?_)
      refine v_iload_n hC 2 dX5_rescale_21 rfl ?_
      refine v_ldA hC hf dX5_rescale_22 (fun r4 hf => ?_)
      refine v_astore hC [(5, .ref r4), (0, .ref a0), (1, .int i1), (2, .int i2), (3, .int i3), (4, .int i4)] dX5_rescale_23 hN (Nat.le_of_ble_eq_true rfl) rfl ?_
      refine v_iload_n hC 4 dX5_rescale_25 rfl ?_
      refine v_i2l hC dX5_rescale_26 ?_
      refine v_aload hC 0 dX5_rescale_27 rfl ?_
      refine v_at 29 rfl ?_
      refine v_getIN hC hf fd_0_2 n_19 dX5_rescale_29 (fun x5 hf => ?_)
      refine v_i2l hC dX5_rescale_32 ?_
      refine v_lsub hC dX5_rescale_33 ?_
      refine v_ltL hf (fun l6 hf => ?_)
      refine v_lstore hC [(6, .long l6), (5, .ref r4), (0, .ref a0), (1, .int i1), (2, .int i2), (3, .int i3), (4, .int i4)] dX5_rescale_34 hN (Nat.le_of_ble_eq_true rfl) rfl ?_
      refine v_aload hC 1 dX5_rescale_36 rfl ?_
      refine v_getRN hC hf fd_0_0 n_15 dX5_rescale_38 (fun r7 hf => ?_)
      refine v_cVP hC (y := y_X2_isZero) (ci := 2) [] [] (fun r => some (.int r)) (fun r => .int r :: []) hf (fun _ h => m_X2_isZero h) rfl (fun _ => rfl) rfl rfl hR (Nat.le_of_ble_eq_true rfl) (Nat.le_of_ble_eq_true rfl) w_273 w_290 w_271 w_272 w_59 nm_X2_isZero rfl (Nat.le_of_ble_eq_true rfl) dX5_rescale_41 (fun x8 hf => ?_)
      refine v_if_eq hC hf dX5_rescale_44 (tgt := 61) (by decide) (fun hf => ?_) (fun hf => ?_)
      · refine v_lload hC 0 dX5_rescale_61 rfl ?_
        refine v_lconst (v := 0) hC dX5_rescale_63 (by decide) ?_
        refine v_lcmp_lt hC hf dX5_rescale_64 dX5_rescale_65 (tgt := 121) (by decide) (fun hf => ?_) (fun hf => ?_)
        · refine v_aload_n hC 2 dX5_rescale_121 rfl ?_
          refine v_getR hC (host := "") hf fd_5_2 w_187 dX5_rescale_122 (fun r9 hf => ?_)
          refine v_aload hC 1 dX5_rescale_125 rfl ?_
          refine v_getRN hC hf fd_0_0 n_15 dX5_rescale_127 (fun r10 hf => ?_)
          refine v_cVE hC (y := y_X2_become) (ci := 2) [.ref r10] [] (fun _ => none) (fun _ => []) hf (fun _ _ _ _ h => m_X2_become h) rfl (fun _ => rfl) rfl rfl hR (Nat.le_of_ble_eq_true rfl) (Nat.le_of_ble_eq_true rfl) w_245 w_352 w_243 w_244 w_59 nm_X2_become rfl (Nat.le_of_ble_eq_true rfl) dX5_rescale_130 (fun _ σ11 _ _ hf => ?_)
          refine v_lload hC 0 dX5_rescale_133 rfl ?_
          refine v_lneg hC dX5_rescale_135 ?_
          refine v_ldc2 hC dX5_rescale_136 w_402 ?_
          refine v_at 139 rfl ?_
          refine v_cSP hC (y := y_J9_min_f86c9) [.long (-l6), .long 4098] [] (fun r => some (.long r)) (fun r => .long r :: []) hf (fun _ h => m_J9_min_f86c9 h) rfl (fun _ => rfl) hR (Nat.le_of_ble_eq_true rfl) (Nat.le_of_ble_eq_true rfl) w_389 w_403 w_388 w_65 nm_J9_min_f86c9 rfl (Nat.le_of_ble_eq_true rfl) dX5_rescale_139 (fun l12 hf => ?_)
          refine v_l2i hC dX5_rescale_142 ?_
          refine v_ltI hf (fun x13 hf => ?_)
          refine v_istore hC [(8, .int x13), (6, .long l6), (5, .ref r4), (0, .ref a0), (1, .int i1), (2, .int i2), (3, .int i3), (4, .int i4)] dX5_rescale_143 hN (Nat.le_of_ble_eq_true rfl) rfl ?_
          refine v_aload_n hC 3 dX5_rescale_145 rfl ?_
          refine v_iload hC 0 dX5_rescale_146 rfl ?_
          refine v_iconst (v := 0) hC dX5_rescale_148 (by decide) ?_
          refine v_aload hC 2 dX5_rescale_149 rfl ?_
          refine v_getIN hC hf fd_0_1 n_17 dX5_rescale_151 (fun x14 hf => ?_)
          refine v_at 154 rfl ?_
          refine v_iload hC 7 dX5_rescale_154 rfl ?_
          refine v_cVE hC (y := y_X5_cutQuotient) (ci := 5) [.int x13, .int 0, .int x14, .int i4] [] (fun r => some (.int r)) (fun r => .int r :: []) hf (fun _ _ _ _ h => m_X5_cutQuotient h) rfl (fun _ => rfl) rfl rfl hR (Nat.le_of_ble_eq_true rfl) (Nat.le_of_ble_eq_true rfl) w_407 w_404 w_406 w_13 w_58 nm_X5_cutQuotient rfl (Nat.le_of_ble_eq_true rfl) dX5_rescale_156 (fun x15 σ16 _ _ hf => ?_)
          refine v_if_eq hC hf dX5_rescale_159 (tgt := 185) (by decide) (fun hf => ?_) (fun hf => ?_)
          · refine v_iconst (v := 0) hC dX5_rescale_185 (by decide) ?_
            exact v_retZ hC hf hE dX5_rescale_186
          · refine v_at 162 rfl ?_
            refine v_aload_n hC 3 dX5_rescale_162 rfl ?_
            refine v_iload_n hC 4 dX5_rescale_163 rfl ?_
            refine v_aload_n hC 3 dX5_rescale_164 rfl ?_
            refine v_getR hC (host := "") hf fd_5_2 w_187 dX5_rescale_165 (fun r17 hf => ?_)
            refine v_aload hC 2 dX5_rescale_168 rfl ?_
            refine v_getIN hC hf fd_0_1 n_17 dX5_rescale_170 (fun x18 hf => ?_)
            refine v_iload_n hC 6 dX5_rescale_173 rfl ?_
            refine v_i2l hC dX5_rescale_174 ?_
            refine v_at 175 rfl ?_
            refine v_cVE hC (y := y_X5_keep) (ci := 5) [.int i1, .ref r17, .int x18, .long ((i3 : Int32).toInt64)] [] (fun r => some (.int r)) (fun r => .int r :: []) hf (fun _ _ _ _ h => m_X5_keep h) rfl (fun _ => rfl) rfl rfl hR (Nat.le_of_ble_eq_true rfl) (Nat.le_of_ble_eq_true rfl) w_225 w_222 w_224 w_0 w_58 nm_X5_keep rfl (Nat.le_of_ble_eq_true rfl) dX5_rescale_175 (fun x19 σ20 _ _ hf => ?_)
            refine v_if_eq hC hf dX5_rescale_178 (tgt := 185) (by decide) (fun hf => ?_) (fun hf => ?_)
            · refine v_iconst (v := 0) hC dX5_rescale_185 (by decide) ?_
              exact v_retZ hC hf hE dX5_rescale_186
            · refine v_at 181 rfl ?_
              refine v_iconst (v := 1) hC dX5_rescale_181 (by decide) ?_
              refine v_goto (tgt := 186) hC dX5_rescale_182 (by decide) ?_
              exact v_retZ hC hf hE dX5_rescale_186
        · refine v_at 68 rfl ?_
          refine v_aload hC 1 dX5_rescale_68 rfl ?_
          refine v_getRN hC hf fd_0_0 n_15 dX5_rescale_70 (fun r21 hf => ?_)
          refine v_cVP hC (y := y_X2_digitCount) (ci := 2) [] [] (fun r => some (.int r)) (fun r => .int r :: []) hf (fun _ h => m_X2_digitCount h) rfl (fun _ => rfl) rfl rfl hR (Nat.le_of_ble_eq_true rfl) (Nat.le_of_ble_eq_true rfl) w_235 w_232 w_233 w_234 w_59 nm_X2_digitCount rfl (Nat.le_of_ble_eq_true rfl) dX5_rescale_73 (fun x22 hf => ?_)
          refine v_i2l hC dX5_rescale_76 ?_
          refine v_lload hC 0 dX5_rescale_77 rfl ?_
          refine v_ladd hC dX5_rescale_79 ?_
          refine v_ldc2 hC dX5_rescale_80 w_351 ?_
          refine v_lcmp_le hC hf dX5_rescale_83 dX5_rescale_84 (tgt := 89) (by decide) (fun hf => ?_) (fun hf => ?_)
          · refine v_aload_n hC 2 dX5_rescale_89 rfl ?_
            refine v_getR hC (host := "") hf fd_5_1 w_186 dX5_rescale_90 (fun r23 hf => ?_)
            refine v_aload hC 1 dX5_rescale_93 rfl ?_
            refine v_getRN hC hf fd_0_0 n_15 dX5_rescale_95 (fun r24 hf => ?_)
            refine v_lload hC 0 dX5_rescale_98 rfl ?_
            refine v_l2i hC dX5_rescale_100 ?_
            refine v_cVE hC (y := y_X2_raise) (ci := 2) [.ref r24, .int ((l6 : Int64).toInt32)] [] (fun _ => none) (fun _ => []) hf (fun _ _ _ _ h => m_X2_raise h) rfl (fun _ => rfl) rfl rfl hR (Nat.le_of_ble_eq_true rfl) (Nat.le_of_ble_eq_true rfl) w_299 w_296 w_297 w_298 w_59 nm_X2_raise rfl (Nat.le_of_ble_eq_true rfl) dX5_rescale_101 (fun _ σ25 _ _ hf => ?_)
            refine v_aload_n hC 2 dX5_rescale_104 rfl ?_
            refine v_at 105 rfl ?_
            refine v_iload_n hC 3 dX5_rescale_105 rfl ?_
            refine v_aload_n hC 2 dX5_rescale_106 rfl ?_
            refine v_getR hC (host := "") hf fd_5_1 w_186 dX5_rescale_107 (fun r26 hf => ?_)
            refine v_aload hC 1 dX5_rescale_110 rfl ?_
            refine v_getIN hC hf fd_0_1 n_17 dX5_rescale_112 (fun x27 hf => ?_)
            refine v_iload_n hC 5 dX5_rescale_115 rfl ?_
            refine v_i2l hC dX5_rescale_116 ?_
            refine v_cVE hC (y := y_X5_keep) (ci := 5) [.int i1, .ref r26, .int x27, .long ((i3 : Int32).toInt64)] [] (fun r => some (.int r)) (fun r => .int r :: []) hf (fun _ _ _ _ h => m_X5_keep h) rfl (fun _ => rfl) rfl rfl hR (Nat.le_of_ble_eq_true rfl) (Nat.le_of_ble_eq_true rfl) w_225 w_222 w_224 w_0 w_58 nm_X5_keep rfl (Nat.le_of_ble_eq_true rfl) dX5_rescale_117 (fun x28 σ29 _ _ hf => ?_)
            refine v_at 120 rfl ?_
            exact v_retZ hC hf hE dX5_rescale_120
          · refine v_at 87 rfl ?_
            refine v_iconst (v := 0) hC dX5_rescale_87 (by decide) ?_
            exact v_retZ hC hf hE dX5_rescale_88
      · refine v_at 47 rfl ?_
        refine v_aload_n hC 2 dX5_rescale_47 rfl ?_
        refine v_iload_n hC 3 dX5_rescale_48 rfl ?_
        refine v_aload hC 1 dX5_rescale_49 rfl ?_
        refine v_getRN hC hf fd_0_0 n_15 dX5_rescale_51 (fun r30 hf => ?_)
        refine v_iconst (v := 0) hC dX5_rescale_54 (by decide) ?_
        refine v_iload_n hC 5 dX5_rescale_55 rfl ?_
        refine v_i2l hC dX5_rescale_56 ?_
        refine v_cVE hC (y := y_X5_keep) (ci := 5) [.int i1, .ref r30, .int 0, .long ((i3 : Int32).toInt64)] [] (fun r => some (.int r)) (fun r => .int r :: []) hf (fun _ _ _ _ h => m_X5_keep h) rfl (fun _ => rfl) rfl rfl hR (Nat.le_of_ble_eq_true rfl) (Nat.le_of_ble_eq_true rfl) w_225 w_222 w_224 w_0 w_58 nm_X5_keep rfl (Nat.le_of_ble_eq_true rfl) dX5_rescale_57 (fun x31 σ32 _ _ hf => ?_)
        refine v_at 60 rfl ?_
        exact v_retZ hC hf hE dX5_rescale_60
    · refine v_at 15 rfl ?_
      refine v_iconst (v := 0) hC dX5_rescale_15 (by decide) ?_
      exact v_retZ hC hf hE dX5_rescale_16
set_option maxHeartbeats 4000000 in
set_option maxRecDepth 100000 in
theorem m_X5_round {G : Gm} {l : Launch} {σ : St} {a0 : Nat} {i1 : Int32} {i2 : Int32} {i3 : Int32} {i4 : Int32} {r : Int32} {σf : St} {k s : Nat} (hf : f_X5_round σ a0 i1 i2 i3 i4 = some (r, σf, k, s)) : (∃ fs : List Value, σ.1 a0 = some (.inr (.inl (5, fs)))) ∧ Ct G l y_X5_round prog_1_method_13_code 6 (some .boolean) 7 166 [.ref a0, .int i1, .int i2, .int i3, .int i4] σ (some (.int r)) σf k s := by
  unfold f_X5_round at hf
  obtain ⟨hob, hf⟩ := ob_some hf
  refine ⟨hob, Ct.ofV pl_X5_round (Nat.le_of_ble_eq_true rfl) ?_⟩
  intro K hR hN hnm hC hE
  show V K (k + 0) (s + 0) σ 0 [(0, .ref a0), (1, .int i1), (2, .int i2), (3, .int i3), (4, .int i4)] []
  refine v_iload_n hC 2 dX5_round_0 rfl ?_
  refine v_cSP hC (y := y_X5_isRegister) [.int i2] [] (fun r => some (.int r)) (fun r => .int r :: []) hf (fun _ h => m_X5_isRegister h) rfl (fun _ => rfl) hR (Nat.le_of_ble_eq_true rfl) (Nat.le_of_ble_eq_true rfl) w_228 w_226 w_227 w_58 nm_X5_isRegister rfl (Nat.le_of_ble_eq_true rfl) dX5_round_1 (fun x1 hf => ?_)
  refine v_if_eq hC hf dX5_round_4 (tgt := 22) (by decide) (fun hf => ?_) (fun hf => ?_)
  · refine v_iconst (v := 0) hC dX5_round_22 (by decide) ?_
    exact v_retZ hC hf hE dX5_round_23
  · refine v_at 7 rfl ?_
    refine v_iload_n hC 3 dX5_round_7 rfl ?_
    refine v_cSP hC (y := y_X5_isPrecision) [.int i3] [] (fun r => some (.int r)) (fun r => .int r :: []) hf (fun _ h => m_X5_isPrecision h) rfl (fun _ => rfl) hR (Nat.le_of_ble_eq_true rfl) (Nat.le_of_ble_eq_true rfl) w_442 w_440 w_441 w_58 nm_X5_isPrecision rfl (Nat.le_of_ble_eq_true rfl) dX5_round_8 (fun x2 hf => ?_)
    refine v_if_eq hC hf dX5_round_11 (tgt := 22) (by decide) (fun hf => ?_) (fun hf => ?_)
    · refine v_iconst (v := 0) hC dX5_round_22 (by decide) ?_
      exact v_retZ hC hf hE dX5_round_23
    · refine v_at 14 rfl ?_
      refine v_iload hC 4 dX5_round_14 rfl ?_
      refine v_cSP hC (y := y_X5_isRounding) [.int i4] [] (fun r => some (.int r)) (fun r => .int r :: []) hf (fun _ h => m_X5_isRounding h) rfl (fun _ => rfl) hR (Nat.le_of_ble_eq_true rfl) (Nat.le_of_ble_eq_true rfl) w_363 w_361 w_362 w_58 nm_X5_isRounding rfl (Nat.le_of_ble_eq_true rfl) dX5_round_16 (fun x3 hf => ?_)
      refine v_if_ne hC hf dX5_round_19 (tgt := 24) (by decide) (fun hf => ?_) (fun hf => ?_)
      · refine v_aload_n hC 0 dX5_round_24 rfl ?_
        refine v_getR hC (host := "") hf fd_5_0 w_185 dX5_round_25 (fun r4 hf => ?_)
        refine v_iload_n hC 2 dX5_round_28 rfl ?_
        refine v_ldA hC hf dX5_round_29 (fun r5 hf => ?_)
        refine v_astore hC [(5, .ref r5), (0, .ref a0), (1, .int i1), (2, .int i2), (3, .int i3), (4, .int i4)] dX5_round_30 hN (Nat.le_of_ble_eq_true rfl) rfl ?_
        refine v_iload_n hC 4 dX5_round_32 rfl ?_
        refine v_jnE hf (fun z6 kr sr => V K (kr + 0) (sr + 0) σ 48 [(0, .ref a0), (1, .int i1), (5, .ref r5)] []) (fun z6 _ _ hf => ?_) (fun k6 hk6 hf => ?_)
        · refine v_aload_n hC 0 dX5_round_48 rfl ?_
          refine v_iload_n hC 1 dX5_round_49 rfl ?_
          refine v_aload hC 2 dX5_round_50 rfl ?_
          refine v_getRN hC hf fd_0_0 n_15 dX5_round_52 (fun r7 hf => ?_)
          refine v_aload hC 2 dX5_round_55 rfl ?_
          refine v_getIN hC hf fd_0_1 n_17 dX5_round_57 (fun x8 hf => ?_)
          refine v_aload hC 2 dX5_round_60 rfl ?_
          refine v_getIN hC hf fd_0_2 n_19 dX5_round_62 (fun x9 hf => ?_)
          refine v_at 65 rfl ?_
          refine v_i2l hC dX5_round_65 ?_
          refine v_cVE hC (y := y_X5_keep) (ci := 5) [.int i1, .ref r7, .int x8, .long ((x9 : Int32).toInt64)] [] (fun r => some (.int r)) (fun r => .int r :: []) hf (fun _ _ _ _ h => m_X5_keep h) rfl (fun _ => rfl) rfl rfl hR (Nat.le_of_ble_eq_true rfl) (Nat.le_of_ble_eq_true rfl) w_225 w_222 w_224 w_0 w_58 nm_X5_keep rfl (Nat.le_of_ble_eq_true rfl) dX5_round_66 (fun x10 σ11 _ _ hf => ?_)
          exact v_retZ hC hf hE dX5_round_69
        · refine v_if_eq hC hf dX5_round_33 (tgt := 48) (by decide) (fun hf => ?_) (fun hf => ?_)
          · exact v_sub [(0, .ref a0), (1, .int i1), (5, .ref r5)] [1, 2, 0] rfl (hk6 _ _ _ hf)
          · refine v_at 36 rfl ?_
            refine v_aload hC 0 dX5_round_36 rfl ?_
            refine v_getRN hC hf fd_0_0 n_15 dX5_round_38 (fun r12 hf => ?_)
            refine v_cVP hC (y := y_X2_digitCount) (ci := 2) [] [] (fun r => some (.int r)) (fun r => .int r :: []) hf (fun _ h => m_X2_digitCount h) rfl (fun _ => rfl) rfl rfl hR (Nat.le_of_ble_eq_true rfl) (Nat.le_of_ble_eq_true rfl) w_235 w_232 w_233 w_234 w_59 nm_X2_digitCount rfl (Nat.le_of_ble_eq_true rfl) dX5_round_41 (fun x13 hf => ?_)
            refine v_iload_n hC 4 dX5_round_44 rfl ?_
            refine v_icmp_gt hC hf dX5_round_45 (tgt := 70) (by decide) (fun hf => ?_) (fun hf => ?_)
            · refine v_aload_n hC 1 dX5_round_70 rfl ?_
              refine v_getR hC (host := "") hf fd_5_2 w_187 dX5_round_71 (fun r14 hf => ?_)
              refine v_aload hC 0 dX5_round_74 rfl ?_
              refine v_getRN hC hf fd_0_0 n_15 dX5_round_76 (fun r15 hf => ?_)
              refine v_cVE hC (y := y_X2_become) (ci := 2) [.ref r15] [] (fun _ => none) (fun _ => []) hf (fun _ _ _ _ h => m_X2_become h) rfl (fun _ => rfl) rfl rfl hR (Nat.le_of_ble_eq_true rfl) (Nat.le_of_ble_eq_true rfl) w_245 w_352 w_243 w_244 w_59 nm_X2_become rfl (Nat.le_of_ble_eq_true rfl) dX5_round_79 (fun _ σ16 _ _ hf => ?_)
              refine v_aload_n hC 1 dX5_round_82 rfl ?_
              refine v_iload_n hC 2 dX5_round_83 rfl ?_
              refine v_aload hC 0 dX5_round_84 rfl ?_
              refine v_at 86 rfl ?_
              refine v_getIN hC hf fd_0_1 n_17 dX5_round_86 (fun x17 hf => ?_)
              refine v_aload hC 0 dX5_round_89 rfl ?_
              refine v_getIN hC hf fd_0_2 n_19 dX5_round_91 (fun x18 hf => ?_)
              refine v_i2l hC dX5_round_94 ?_
              refine v_iconst (v := 0) hC dX5_round_95 (by decide) ?_
              refine v_iload_n hC 4 dX5_round_96 rfl ?_
              refine v_iload hC 5 dX5_round_97 rfl ?_
              refine v_cVE hC (y := y_X5_keepRounded) (ci := 5) [.int i1, .int x17, .long ((x18 : Int32).toInt64), .int 0, .int i3, .int i4] [] (fun r => some (.int r)) (fun r => .int r :: []) hf (fun _ _ _ _ h => m_X5_keepRounded h) rfl (fun _ => rfl) rfl rfl hR (Nat.le_of_ble_eq_true rfl) (Nat.le_of_ble_eq_true rfl) w_460 w_457 w_459 w_16 w_58 nm_X5_keepRounded rfl (Nat.le_of_ble_eq_true rfl) dX5_round_99 (fun x19 σ20 _ _ hf => ?_)
              refine v_at 102 rfl ?_
              exact v_retZ hC hf hE dX5_round_102
            · refine v_at 48 rfl ?_
              exact v_sub [(0, .ref a0), (1, .int i1), (5, .ref r5)] [1, 2, 0] rfl (hk6 _ _ _ hf)
      · refine v_at 22 rfl ?_
        refine v_iconst (v := 0) hC dX5_round_22 (by decide) ?_
        exact v_retZ hC hf hE dX5_round_23
set_option maxHeartbeats 4000000 in
set_option maxRecDepth 100000 in
theorem m_X5_strip {G : Gm} {l : Launch} {σ : St} {a0 : Nat} {i1 : Int32} {i2 : Int32} {r : Int32} {σf : St} {k s : Nat} (hf : f_X5_strip σ a0 i1 i2 = some (r, σf, k, s)) : (∃ fs : List Value, σ.1 a0 = some (.inr (.inl (5, fs)))) ∧ Ct G l y_X5_strip prog_1_method_14_code 5 (some .boolean) 6 138 [.ref a0, .int i1, .int i2] σ (some (.int r)) σf k s := by
  unfold f_X5_strip at hf
  obtain ⟨hob, hf⟩ := ob_some hf
  refine ⟨hob, Ct.ofV pl_X5_strip (Nat.le_of_ble_eq_true rfl) ?_⟩
  intro K hR hN hnm hC hE
  show V K (k + 0) (s + 0) σ 0 [(0, .ref a0), (1, .int i1), (2, .int i2)] []
  refine v_iload_n hC 2 dX5_strip_0 rfl ?_
  refine v_cSP hC (y := y_X5_isRegister) [.int i2] [] (fun r => some (.int r)) (fun r => .int r :: []) hf (fun _ h => m_X5_isRegister h) rfl (fun _ => rfl) hR (Nat.le_of_ble_eq_true rfl) (Nat.le_of_ble_eq_true rfl) w_228 w_226 w_227 w_58 nm_X5_isRegister rfl (Nat.le_of_ble_eq_true rfl) dX5_strip_1 (fun x1 hf => ?_)
  refine v_if_ne hC hf dX5_strip_4 (tgt := 9) (by decide) (fun hf => ?_) (fun hf => ?_)
  · refine v_aload_n hC 0 dX5_strip_9 rfl ?_
    refine v_getR hC (host := "") hf fd_5_0 w_185 dX5_strip_10 (fun r2 hf => ?_)
    refine v_iload_n hC 2 dX5_strip_13 rfl ?_
    refine v_ldA hC hf dX5_strip_14 (fun r3 hf => ?_)
    refine v_astore_n hC [(3, .ref r3), (0, .ref a0), (1, .int i1), (2, .int i2)] dX5_strip_15 rfl hN (Nat.le_of_ble_eq_true rfl) rfl ?_
    refine v_aload_n hC 0 dX5_strip_16 rfl ?_
    refine v_getRN hC hf fd_0_0 n_15 dX5_strip_17 (fun r4 hf => ?_)
    refine v_cVP hC (y := y_X2_isZero) (ci := 2) [] [] (fun r => some (.int r)) (fun r => .int r :: []) hf (fun _ h => m_X2_isZero h) rfl (fun _ => rfl) rfl rfl hR (Nat.le_of_ble_eq_true rfl) (Nat.le_of_ble_eq_true rfl) w_273 w_290 w_271 w_272 w_59 nm_X2_isZero rfl (Nat.le_of_ble_eq_true rfl) dX5_strip_20 (fun x5 hf => ?_)
    refine v_at 23 rfl ?_
    refine v_if_eq hC hf dX5_strip_23 (tgt := 38) (by decide) (fun hf => ?_) (fun hf => ?_)
    · refine v_aload_n hC 0 dX5_strip_38 rfl ?_
      refine v_getRN hC hf fd_0_0 n_15 dX5_strip_39 (fun r6 hf => ?_)
      refine v_cVP hC (y := y_X2_endingZeros) (ci := 2) [] [] (fun r => some (.int r)) (fun r => .int r :: []) hf (fun _ h => m_X2_endingZeros h) rfl (fun _ => rfl) rfl rfl hR (Nat.le_of_ble_eq_true rfl) (Nat.le_of_ble_eq_true rfl) w_450 w_447 w_448 w_449 w_59 nm_X2_endingZeros rfl (Nat.le_of_ble_eq_true rfl) dX5_strip_42 (fun x7 hf => ?_)
      refine v_istore hC [(4, .int x7), (3, .ref r3), (0, .ref a0), (1, .int i1), (2, .int i2)] dX5_strip_45 hN (Nat.le_of_ble_eq_true rfl) rfl ?_
      refine v_aload_n hC 2 dX5_strip_47 rfl ?_
      refine v_getR hC (host := "") hf fd_5_1 w_186 dX5_strip_48 (fun r8 hf => ?_)
      refine v_aload_n hC 1 dX5_strip_51 rfl ?_
      refine v_getRN hC hf fd_0_0 n_15 dX5_strip_52 (fun r9 hf => ?_)
      refine v_at 55 rfl ?_
      refine v_cVE hC (y := y_X2_become) (ci := 2) [.ref r9] [] (fun _ => none) (fun _ => []) hf (fun _ _ _ _ h => m_X2_become h) rfl (fun _ => rfl) rfl rfl hR (Nat.le_of_ble_eq_true rfl) (Nat.le_of_ble_eq_true rfl) w_245 w_352 w_243 w_244 w_59 nm_X2_become rfl (Nat.le_of_ble_eq_true rfl) dX5_strip_55 (fun _ σ10 _ _ hf => ?_)
      refine v_aload_n hC 2 dX5_strip_58 rfl ?_
      refine v_getR hC (host := "") hf fd_5_1 w_186 dX5_strip_59 (fun r11 hf => ?_)
      refine v_iload hC 0 dX5_strip_62 rfl ?_
      refine v_cVE hC (y := y_X2_drop) (ci := 2) [.int x7] [] (fun _ => none) (fun _ => []) hf (fun _ _ _ _ h => m_X2_drop h) rfl (fun _ => rfl) rfl rfl hR (Nat.le_of_ble_eq_true rfl) (Nat.le_of_ble_eq_true rfl) w_423 w_452 w_421 w_422 w_59 nm_X2_drop rfl (Nat.le_of_ble_eq_true rfl) dX5_strip_64 (fun _ σ12 _ _ hf => ?_)
      refine v_aload_n hC 2 dX5_strip_67 rfl ?_
      refine v_iload_n hC 3 dX5_strip_68 rfl ?_
      refine v_aload_n hC 2 dX5_strip_69 rfl ?_
      refine v_at 70 rfl ?_
      refine v_getR hC (host := "") hf fd_5_1 w_186 dX5_strip_70 (fun r13 hf => ?_)
      refine v_aload_n hC 1 dX5_strip_73 rfl ?_
      refine v_getIN hC hf fd_0_1 n_17 dX5_strip_74 (fun x14 hf => ?_)
      refine v_aload_n hC 1 dX5_strip_77 rfl ?_
      refine v_getIN hC hf fd_0_2 n_19 dX5_strip_78 (fun x15 hf => ?_)
      refine v_i2l hC dX5_strip_81 ?_
      refine v_iload hC 0 dX5_strip_82 rfl ?_
      refine v_i2l hC dX5_strip_84 ?_
      refine v_at 85 rfl ?_
      refine v_lsub hC dX5_strip_85 ?_
      refine v_cVE hC (y := y_X5_keep) (ci := 5) [.int i1, .ref r13, .int x14, .long (((x15 : Int32).toInt64) - ((x7 : Int32).toInt64))] [] (fun r => some (.int r)) (fun r => .int r :: []) hf (fun _ _ _ _ h => m_X5_keep h) rfl (fun _ => rfl) rfl rfl hR (Nat.le_of_ble_eq_true rfl) (Nat.le_of_ble_eq_true rfl) w_225 w_222 w_224 w_0 w_58 nm_X5_keep rfl (Nat.le_of_ble_eq_true rfl) dX5_strip_86 (fun x16 σ17 _ _ hf => ?_)
      exact v_retZ hC hf hE dX5_strip_89
    · refine v_at 26 rfl ?_
      refine v_aload_n hC 1 dX5_strip_26 rfl ?_
      refine v_iload_n hC 2 dX5_strip_27 rfl ?_
      refine v_aload_n hC 0 dX5_strip_28 rfl ?_
      refine v_getRN hC hf fd_0_0 n_15 dX5_strip_29 (fun r18 hf => ?_)
      refine v_iconst (v := 0) hC dX5_strip_32 (by decide) ?_
      refine v_lconst (v := 0) hC dX5_strip_33 (by decide) ?_
      refine v_cVE hC (y := y_X5_keep) (ci := 5) [.int i1, .ref r18, .int 0, .long 0] [] (fun r => some (.int r)) (fun r => .int r :: []) hf (fun _ _ _ _ h => m_X5_keep h) rfl (fun _ => rfl) rfl rfl hR (Nat.le_of_ble_eq_true rfl) (Nat.le_of_ble_eq_true rfl) w_225 w_222 w_224 w_0 w_58 nm_X5_keep rfl (Nat.le_of_ble_eq_true rfl) dX5_strip_34 (fun x19 σ20 _ _ hf => ?_)
      exact v_retZ hC hf hE dX5_strip_37
  · refine v_at 7 rfl ?_
    refine v_iconst (v := 0) hC dX5_strip_7 (by decide) ?_
    exact v_retZ hC hf hE dX5_strip_8
set_option maxHeartbeats 4000000 in
set_option maxRecDepth 100000 in
theorem m_X5_move {G : Gm} {l : Launch} {σ : St} {a0 : Nat} {i1 : Int32} {i2 : Int32} {i3 : Int32} {r : Int32} {σf : St} {k s : Nat} (hf : f_X5_move σ a0 i1 i2 i3 = some (r, σf, k, s)) : (∃ fs : List Value, σ.1 a0 = some (.inr (.inl (5, fs)))) ∧ Ct G l y_X5_move prog_1_method_15_code 5 (some .boolean) 6 138 [.ref a0, .int i1, .int i2, .int i3] σ (some (.int r)) σf k s := by
  unfold f_X5_move at hf
  obtain ⟨hob, hf⟩ := ob_some hf
  refine ⟨hob, Ct.ofV pl_X5_move (Nat.le_of_ble_eq_true rfl) ?_⟩
  intro K hR hN hnm hC hE
  show V K (k + 0) (s + 0) σ 0 [(0, .ref a0), (1, .int i1), (2, .int i2), (3, .int i3)] []
  refine v_iload_n hC 2 dX5_move_0 rfl ?_
  refine v_cSP hC (y := y_X5_isRegister) [.int i2] [] (fun r => some (.int r)) (fun r => .int r :: []) hf (fun _ h => m_X5_isRegister h) rfl (fun _ => rfl) hR (Nat.le_of_ble_eq_true rfl) (Nat.le_of_ble_eq_true rfl) w_228 w_226 w_227 w_58 nm_X5_isRegister rfl (Nat.le_of_ble_eq_true rfl) dX5_move_1 (fun x1 hf => ?_)
  refine v_if_ne hC hf dX5_move_4 (tgt := 9) (by decide) (fun hf => ?_) (fun hf => ?_)
  · refine v_aload_n hC 0 dX5_move_9 rfl ?_
    refine v_getR hC (host := "") hf fd_5_0 w_185 dX5_move_10 (fun r2 hf => ?_)
    refine v_iload_n hC 2 dX5_move_13 rfl ?_
    refine v_ldA hC hf dX5_move_14 (fun r3 hf => ?_)
    refine v_astore hC [(4, .ref r3), (0, .ref a0), (1, .int i1), (2, .int i2), (3, .int i3)] dX5_move_15 hN (Nat.le_of_ble_eq_true rfl) rfl ?_
    refine v_aload_n hC 1 dX5_move_17 rfl ?_
    refine v_iload_n hC 2 dX5_move_18 rfl ?_
    refine v_aload hC 0 dX5_move_19 rfl ?_
    refine v_at 21 rfl ?_
    refine v_getRN hC hf fd_0_0 n_15 dX5_move_21 (fun r4 hf => ?_)
    refine v_aload hC 0 dX5_move_24 rfl ?_
    refine v_getIN hC hf fd_0_1 n_17 dX5_move_26 (fun x5 hf => ?_)
    refine v_aload hC 0 dX5_move_29 rfl ?_
    refine v_getIN hC hf fd_0_2 n_19 dX5_move_31 (fun x6 hf => ?_)
    refine v_i2l hC dX5_move_34 ?_
    refine v_iload_n hC 4 dX5_move_35 rfl ?_
    refine v_i2l hC dX5_move_36 ?_
    refine v_at 37 rfl ?_
    refine v_lsub hC dX5_move_37 ?_
    refine v_cVE hC (y := y_X5_keep) (ci := 5) [.int i1, .ref r4, .int x5, .long (((x6 : Int32).toInt64) - ((i3 : Int32).toInt64))] [] (fun r => some (.int r)) (fun r => .int r :: []) hf (fun _ _ _ _ h => m_X5_keep h) rfl (fun _ => rfl) rfl rfl hR (Nat.le_of_ble_eq_true rfl) (Nat.le_of_ble_eq_true rfl) w_225 w_222 w_224 w_0 w_58 nm_X5_keep rfl (Nat.le_of_ble_eq_true rfl) dX5_move_38 (fun x7 σ8 _ _ hf => ?_)
    exact v_retZ hC hf hE dX5_move_41
  · refine v_at 7 rfl ?_
    refine v_iconst (v := 0) hC dX5_move_7 (by decide) ?_
    exact v_retZ hC hf hE dX5_move_8
set_option maxHeartbeats 4000000 in
set_option maxRecDepth 100000 in
theorem m_X5_orderOfSizes {G : Gm} {l : Launch} {σ : St} {a0 : Nat} {a1 : Nat} {a2 : Nat} {r : Int32} {σf : St} {k s : Nat} (hf : f_X5_orderOfSizes σ a0 a1 a2 = some (r, σf, k, s)) : (∃ fs : List Value, σ.1 a0 = some (.inr (.inl (5, fs)))) ∧ Ct G l y_X5_orderOfSizes prog_1_method_42_code 10 (some .int) 4 99 [.ref a0, .ref a1, .ref a2] σ (some (.int r)) σf k s := by
  unfold f_X5_orderOfSizes at hf
  obtain ⟨hob, hf⟩ := ob_some hf
  refine ⟨hob, Ct.ofV pl_X5_orderOfSizes (Nat.le_of_ble_eq_true rfl) ?_⟩
  intro K hR hN hnm hC hE
  show V K (k + 0) (s + 0) σ 0 [(0, .ref a0), (1, .ref a1), (2, .ref a2)] []
  refine v_aload_n hC 1 dX5_orderOfSizes_0 rfl ?_
  refine v_getRN hC hf fd_0_0 n_15 dX5_orderOfSizes_1 (fun r1 hf => ?_)
  refine v_cVP hC (y := y_X2_isZero) (ci := 2) [] [] (fun r => some (.int r)) (fun r => .int r :: []) hf (fun _ h => m_X2_isZero h) rfl (fun _ => rfl) rfl rfl hR (Nat.le_of_ble_eq_true rfl) (Nat.le_of_ble_eq_true rfl) w_273 w_290 w_271 w_272 w_59 nm_X2_isZero rfl (Nat.le_of_ble_eq_true rfl) dX5_orderOfSizes_4 (fun x2 hf => ?_)
  refine v_if_ne hC hf dX5_orderOfSizes_7 (tgt := 20) (by decide) (fun hf => ?_) (fun hf => ?_)
  · refine v_iconst (v := 0) hC dX5_orderOfSizes_20 (by decide) ?_
    exact v_retI hC hf hE dX5_orderOfSizes_21
  · refine v_at 10 rfl ?_
    refine v_aload_n hC 2 dX5_orderOfSizes_10 rfl ?_
    refine v_getRN hC hf fd_0_0 n_15 dX5_orderOfSizes_11 (fun r3 hf => ?_)
    refine v_cVP hC (y := y_X2_isZero) (ci := 2) [] [] (fun r => some (.int r)) (fun r => .int r :: []) hf (fun _ h => m_X2_isZero h) rfl (fun _ => rfl) rfl rfl hR (Nat.le_of_ble_eq_true rfl) (Nat.le_of_ble_eq_true rfl) w_273 w_290 w_271 w_272 w_59 nm_X2_isZero rfl (Nat.le_of_ble_eq_true rfl) dX5_orderOfSizes_14 (fun x4 hf => ?_)
    refine v_if_eq hC hf dX5_orderOfSizes_17 (tgt := 22) (by decide) (fun hf => ?_) (fun hf => ?_)
    · refine v_aload_n hC 1 dX5_orderOfSizes_22 rfl ?_
      refine v_getRN hC hf fd_0_0 n_15 dX5_orderOfSizes_23 (fun r5 hf => ?_)
      refine v_cVP hC (y := y_X2_digitCount) (ci := 2) [] [] (fun r => some (.int r)) (fun r => .int r :: []) hf (fun _ h => m_X2_digitCount h) rfl (fun _ => rfl) rfl rfl hR (Nat.le_of_ble_eq_true rfl) (Nat.le_of_ble_eq_true rfl) w_235 w_232 w_233 w_234 w_59 nm_X2_digitCount rfl (Nat.le_of_ble_eq_true rfl) dX5_orderOfSizes_26 (fun x6 hf => ?_)
      refine v_istore_n hC [(3, .int x6), (0, .ref a0), (1, .ref a1), (2, .ref a2)] dX5_orderOfSizes_29 rfl hN (Nat.le_of_ble_eq_true rfl) rfl ?_
      refine v_aload_n hC 3 dX5_orderOfSizes_30 rfl ?_
      refine v_getRN hC hf fd_0_0 n_15 dX5_orderOfSizes_31 (fun r7 hf => ?_)
      refine v_cVP hC (y := y_X2_digitCount) (ci := 2) [] [] (fun r => some (.int r)) (fun r => .int r :: []) hf (fun _ h => m_X2_digitCount h) rfl (fun _ => rfl) rfl rfl hR (Nat.le_of_ble_eq_true rfl) (Nat.le_of_ble_eq_true rfl) w_235 w_232 w_233 w_234 w_59 nm_X2_digitCount rfl (Nat.le_of_ble_eq_true rfl) dX5_orderOfSizes_34 (fun x8 hf => ?_)
      refine v_istore hC [(4, .int x8), (3, .int x6), (0, .ref a0), (1, .ref a1), (2, .ref a2)] dX5_orderOfSizes_37 hN (Nat.le_of_ble_eq_true rfl) rfl ?_
      refine v_at 39 rfl ?_
      refine v_iload_n hC 1 dX5_orderOfSizes_39 rfl ?_
      refine v_i2l hC dX5_orderOfSizes_40 ?_
      refine v_aload_n hC 3 dX5_orderOfSizes_41 rfl ?_
      refine v_getIN hC hf fd_0_2 n_19 dX5_orderOfSizes_42 (fun x9 hf => ?_)
      refine v_i2l hC dX5_orderOfSizes_45 ?_
      refine v_lsub hC dX5_orderOfSizes_46 ?_
      refine v_ltL hf (fun l10 hf => ?_)
      refine v_lstore hC [(5, .long l10), (4, .int x8), (3, .int x6), (0, .ref a0), (1, .ref a1), (2, .ref a2)] dX5_orderOfSizes_47 hN (Nat.le_of_ble_eq_true rfl) rfl ?_
      refine v_iload hC 1 dX5_orderOfSizes_49 rfl ?_
      refine v_at 51 rfl ?_
      refine v_i2l hC dX5_orderOfSizes_51 ?_
      refine v_aload_n hC 5 dX5_orderOfSizes_52 rfl ?_
      refine v_getIN hC hf fd_0_2 n_19 dX5_orderOfSizes_53 (fun x11 hf => ?_)
      refine v_i2l hC dX5_orderOfSizes_56 ?_
      refine v_lsub hC dX5_orderOfSizes_57 ?_
      refine v_ltL hf (fun l12 hf => ?_)
      refine v_lstore hC [(7, .long l12), (5, .long l10), (4, .int x8), (3, .int x6), (0, .ref a0), (1, .ref a1), (2, .ref a2)] dX5_orderOfSizes_58 hN (Nat.le_of_ble_eq_true rfl) rfl ?_
      refine v_lload hC 1 dX5_orderOfSizes_60 rfl ?_
      refine v_lload hC 0 dX5_orderOfSizes_62 rfl ?_
      refine v_at 64 rfl ?_
      refine v_lcmp_eq hC hf dX5_orderOfSizes_64 dX5_orderOfSizes_65 (tgt := 82) (by decide) (fun hf => ?_) (fun hf => ?_)
      · refine v_iload_n hC 3 dX5_orderOfSizes_82 rfl ?_
        refine v_iload hC 2 dX5_orderOfSizes_83 rfl ?_
        refine v_cSP hC (y := y_J9_max_7cf53) [.int x6, .int x8] [] (fun r => some (.int r)) (fun r => .int r :: []) hf (fun _ h => m_J9_max_7cf53 h) rfl (fun _ => rfl) hR (Nat.le_of_ble_eq_true rfl) (Nat.le_of_ble_eq_true rfl) w_252 w_286 w_251 w_65 nm_J9_max_7cf53 rfl (Nat.le_of_ble_eq_true rfl) dX5_orderOfSizes_85 (fun x13 hf => ?_)
        refine v_istore hC [(9, .int x13), (7, .long l12), (5, .long l10), (4, .int x8), (3, .int x6), (0, .ref a0), (1, .ref a1), (2, .ref a2)] dX5_orderOfSizes_88 hN (Nat.le_of_ble_eq_true rfl) rfl ?_
        refine v_aload_n hC 5 dX5_orderOfSizes_90 rfl ?_
        refine v_getR hC (host := "") hf fd_5_1 w_186 dX5_orderOfSizes_91 (fun r14 hf => ?_)
        refine v_aload_n hC 6 dX5_orderOfSizes_94 rfl ?_
        refine v_getRN hC hf fd_0_0 n_15 dX5_orderOfSizes_95 (fun r15 hf => ?_)
        refine v_at 98 rfl ?_
        refine v_iload hC 0 dX5_orderOfSizes_98 rfl ?_
        refine v_iload_n hC 4 dX5_orderOfSizes_100 rfl ?_
        refine v_isub hC dX5_orderOfSizes_101 ?_
        refine v_cVE hC (y := y_X2_raise) (ci := 2) [.ref r15, .int (x13 - x6)] [] (fun _ => none) (fun _ => []) hf (fun _ _ _ _ h => m_X2_raise h) rfl (fun _ => rfl) rfl rfl hR (Nat.le_of_ble_eq_true rfl) (Nat.le_of_ble_eq_true rfl) w_299 w_296 w_297 w_298 w_59 nm_X2_raise rfl (Nat.le_of_ble_eq_true rfl) dX5_orderOfSizes_102 (fun _ σ16 _ _ hf => ?_)
        refine v_aload_n hC 5 dX5_orderOfSizes_105 rfl ?_
        refine v_getR hC (host := "") hf fd_5_3 w_188 dX5_orderOfSizes_106 (fun r17 hf => ?_)
        refine v_aload_n hC 7 dX5_orderOfSizes_109 rfl ?_
        refine v_getRN hC hf fd_0_0 n_15 dX5_orderOfSizes_110 (fun r18 hf => ?_)
        refine v_at 113 rfl ?_
        refine v_iload hC 0 dX5_orderOfSizes_113 rfl ?_
        refine v_iload hC 3 dX5_orderOfSizes_115 rfl ?_
        refine v_isub hC dX5_orderOfSizes_117 ?_
        refine v_cVE hC (y := y_X2_raise) (ci := 2) [.ref r18, .int (x13 - x8)] [] (fun _ => none) (fun _ => []) hf (fun _ _ _ _ h => m_X2_raise h) rfl (fun _ => rfl) rfl rfl hR (Nat.le_of_ble_eq_true rfl) (Nat.le_of_ble_eq_true rfl) w_299 w_296 w_297 w_298 w_59 nm_X2_raise rfl (Nat.le_of_ble_eq_true rfl) dX5_orderOfSizes_118 (fun _ σ19 _ _ hf => ?_)
        refine v_aload_n hC 5 dX5_orderOfSizes_121 rfl ?_
        refine v_getR hC (host := "") hf fd_5_1 w_186 dX5_orderOfSizes_122 (fun r20 hf => ?_)
        refine v_aload_n hC 5 dX5_orderOfSizes_125 rfl ?_
        refine v_getR hC (host := "") hf fd_5_3 w_188 dX5_orderOfSizes_126 (fun r21 hf => ?_)
        refine v_at 129 rfl ?_
        refine v_cSP hC (y := y_X2_order) [.ref r20, .ref r21] [] (fun r => some (.int r)) (fun r => .int r :: []) hf (fun _ h => m_X2_order h) rfl (fun _ => rfl) hR (Nat.le_of_ble_eq_true rfl) (Nat.le_of_ble_eq_true rfl) w_315 w_313 w_314 w_59 nm_X2_order rfl (Nat.le_of_ble_eq_true rfl) dX5_orderOfSizes_129 (fun x22 hf => ?_)
        exact v_retI hC hf hE dX5_orderOfSizes_132
      · refine v_at 68 rfl ?_
        refine v_lload hC 1 dX5_orderOfSizes_68 rfl ?_
        refine v_lload hC 0 dX5_orderOfSizes_70 rfl ?_
        refine v_lcmp_le hC hf dX5_orderOfSizes_72 dX5_orderOfSizes_73 (tgt := 80) (by decide) (fun hf => ?_) (fun hf => ?_)
        · refine v_iconst (v := (-1)) hC dX5_orderOfSizes_80 (by decide) ?_
          exact v_retI hC hf hE dX5_orderOfSizes_81
        · refine v_at 76 rfl ?_
          refine v_iconst (v := 1) hC dX5_orderOfSizes_76 (by decide) ?_
          refine v_goto (tgt := 81) hC dX5_orderOfSizes_77 (by decide) ?_
          exact v_retI hC hf hE dX5_orderOfSizes_81
    · refine v_at 20 rfl ?_
      refine v_iconst (v := 0) hC dX5_orderOfSizes_20 (by decide) ?_
      exact v_retI hC hf hE dX5_orderOfSizes_21
set_option maxHeartbeats 4000000 in
set_option maxRecDepth 100000 in
theorem m_X5_compare {G : Gm} {l : Launch} {σ : St} {a0 : Nat} {i1 : Int32} {i2 : Int32} {r : Int32} {σf : St} {k s : Nat} (hf : f_X5_compare σ a0 i1 i2 = some (r, σf, k, s)) : (∃ fs : List Value, σ.1 a0 = some (.inr (.inl (5, fs)))) ∧ Ct G l y_X5_compare prog_1_method_16_code 6 (some .int) 5 128 [.ref a0, .int i1, .int i2] σ (some (.int r)) σf k s := by
  unfold f_X5_compare at hf
  obtain ⟨hob, hf⟩ := ob_some hf
  refine ⟨hob, Ct.ofV pl_X5_compare (Nat.le_of_ble_eq_true rfl) ?_⟩
  intro K hR hN hnm hC hE
  show V K (k + 0) (s + 0) σ 0 [(0, .ref a0), (1, .int i1), (2, .int i2)] []
  refine v_iload_n hC 1 dX5_compare_0 rfl ?_
  refine v_cSP hC (y := y_X5_isRegister) [.int i1] [] (fun r => some (.int r)) (fun r => .int r :: []) hf (fun _ h => m_X5_isRegister h) rfl (fun _ => rfl) hR (Nat.le_of_ble_eq_true rfl) (Nat.le_of_ble_eq_true rfl) w_228 w_226 w_227 w_58 nm_X5_isRegister rfl (Nat.le_of_ble_eq_true rfl) dX5_compare_1 (fun x1 hf => ?_)
  refine v_jnE hf (fun z2 kr sr => V K (kr + 0) (sr + 0) σ 14 [] []) (fun z2 _ _ hf => ?_) (fun k2 hk2 hf => ?_)
  · refine v_bipush (v := (-2)) hC dX5_compare_14 (by decide) ?_
    exact v_retI hC hf hE dX5_compare_16
  · refine v_if_eq hC hf dX5_compare_4 (tgt := 14) (by decide) (fun hf => ?_) (fun hf => ?_)
    · exact v_sub [] [] rfl (hk2 _ _ _ hf)
    · refine v_at 7 rfl ?_
      refine v_iload_n hC 2 dX5_compare_7 rfl ?_
      refine v_cSP hC (y := y_X5_isRegister) [.int i2] [] (fun r => some (.int r)) (fun r => .int r :: []) hf (fun _ h => m_X5_isRegister h) rfl (fun _ => rfl) hR (Nat.le_of_ble_eq_true rfl) (Nat.le_of_ble_eq_true rfl) w_228 w_226 w_227 w_58 nm_X5_isRegister rfl (Nat.le_of_ble_eq_true rfl) dX5_compare_8 (fun x3 hf => ?_)
      refine v_if_ne hC hf dX5_compare_11 (tgt := 17) (by decide) (fun hf => ?_) (fun hf => ?_)
      · refine v_aload_n hC 0 dX5_compare_17 rfl ?_
        refine v_getR hC (host := "") hf fd_5_0 w_185 dX5_compare_18 (fun r4 hf => ?_)
        refine v_iload_n hC 1 dX5_compare_21 rfl ?_
        refine v_ldA hC hf dX5_compare_22 (fun r5 hf => ?_)
        refine v_astore_n hC [(3, .ref r5), (0, .ref a0), (1, .int i1), (2, .int i2)] dX5_compare_23 rfl hN (Nat.le_of_ble_eq_true rfl) rfl ?_
        refine v_aload_n hC 1 dX5_compare_24 rfl ?_
        refine v_getR hC (host := "") hf fd_5_0 w_185 dX5_compare_25 (fun r6 hf => ?_)
        refine v_iload_n hC 3 dX5_compare_28 rfl ?_
        refine v_at 29 rfl ?_
        refine v_ldA hC hf dX5_compare_29 (fun r7 hf => ?_)
        refine v_astore hC [(4, .ref r7), (3, .ref r5), (0, .ref a0), (1, .int i1), (2, .int i2)] dX5_compare_30 hN (Nat.le_of_ble_eq_true rfl) rfl ?_
        refine v_aload_n hC 1 dX5_compare_32 rfl ?_
        refine v_cVP hC (y := y_X0_signum) (ci := 0) [] [] (fun r => some (.int r)) (fun r => .int r :: []) hf (fun _ h => m_X0_signum h) rfl (fun _ => rfl) rfl rfl hR (Nat.le_of_ble_eq_true rfl) (Nat.le_of_ble_eq_true rfl) w_517 w_514 w_515 w_516 w_63 nm_X0_signum rfl (Nat.le_of_ble_eq_true rfl) dX5_compare_33 (fun x8 hf => ?_)
        refine v_aload hC 0 dX5_compare_36 rfl ?_
        refine v_cVP hC (y := y_X0_signum) (ci := 0) [] [.int x8] (fun r => some (.int r)) (fun r => .int r :: [.int x8]) hf (fun _ h => m_X0_signum h) rfl (fun _ => rfl) rfl rfl hR (Nat.le_of_ble_eq_true rfl) (Nat.le_of_ble_eq_true rfl) w_517 w_514 w_515 w_516 w_63 nm_X0_signum rfl (Nat.le_of_ble_eq_true rfl) dX5_compare_38 (fun x9 hf => ?_)
        refine v_isub hC dX5_compare_41 ?_
        refine v_ltI hf (fun x10 hf => ?_)
        refine v_istore hC [(5, .int x10), (4, .ref r7), (3, .ref r5), (0, .ref a0), (1, .int i1), (2, .int i2)] dX5_compare_42 hN (Nat.le_of_ble_eq_true rfl) rfl ?_
        refine v_at 44 rfl ?_
        refine v_iload hC 0 dX5_compare_44 rfl ?_
        refine v_if_eq hC hf dX5_compare_46 (tgt := 60) (by decide) (fun hf => ?_) (fun hf => ?_)
        · refine v_aload_n hC 2 dX5_compare_60 rfl ?_
          refine v_getIN hC hf fd_0_1 n_17 dX5_compare_61 (fun x11 hf => ?_)
          refine v_if_eq hC hf dX5_compare_64 (tgt := 78) (by decide) (fun hf => ?_) (fun hf => ?_)
          · refine v_aload_n hC 3 dX5_compare_78 rfl ?_
            refine v_aload_n hC 2 dX5_compare_79 rfl ?_
            refine v_aload hC 1 dX5_compare_80 rfl ?_
            refine v_cVE hC (y := y_X5_orderOfSizes) (ci := 5) [.ref r5, .ref r7] [] (fun r => some (.int r)) (fun r => .int r :: []) hf (fun _ _ _ _ h => m_X5_orderOfSizes h) rfl (fun _ => rfl) rfl rfl hR (Nat.le_of_ble_eq_true rfl) (Nat.le_of_ble_eq_true rfl) w_521 w_518 w_520 w_21 w_58 nm_X5_orderOfSizes rfl (Nat.le_of_ble_eq_true rfl) dX5_compare_82 (fun x12 σ13 _ _ hf => ?_)
            exact v_retI hC hf hE dX5_compare_85
          · refine v_at 67 rfl ?_
            refine v_aload_n hC 3 dX5_compare_67 rfl ?_
            refine v_aload_n hC 2 dX5_compare_68 rfl ?_
            refine v_aload hC 1 dX5_compare_69 rfl ?_
            refine v_cVE hC (y := y_X5_orderOfSizes) (ci := 5) [.ref r5, .ref r7] [] (fun r => some (.int r)) (fun r => .int r :: []) hf (fun _ _ _ _ h => m_X5_orderOfSizes h) rfl (fun _ => rfl) rfl rfl hR (Nat.le_of_ble_eq_true rfl) (Nat.le_of_ble_eq_true rfl) w_521 w_518 w_520 w_21 w_58 nm_X5_orderOfSizes rfl (Nat.le_of_ble_eq_true rfl) dX5_compare_71 (fun x14 σ15 _ _ hf => ?_)
            refine v_ineg hC dX5_compare_74 ?_
            refine v_goto (tgt := 85) hC dX5_compare_75 (by decide) ?_
            exact v_retI hC hf hE dX5_compare_85
        · refine v_at 49 rfl ?_
          refine v_iload hC 0 dX5_compare_49 rfl ?_
          refine v_if_le hC hf dX5_compare_51 (tgt := 58) (by decide) (fun hf => ?_) (fun hf => ?_)
          · refine v_iconst (v := (-1)) hC dX5_compare_58 (by decide) ?_
            exact v_retI hC hf hE dX5_compare_59
          · refine v_at 54 rfl ?_
            refine v_iconst (v := 1) hC dX5_compare_54 (by decide) ?_
            refine v_goto (tgt := 59) hC dX5_compare_55 (by decide) ?_
            exact v_retI hC hf hE dX5_compare_59
      · refine v_at 14 rfl ?_
        exact v_sub [] [] rfl (hk2 _ _ _ hf)
set_option maxHeartbeats 4000000 in
set_option maxRecDepth 100000 in
theorem m_X5_sign {G : Gm} {l : Launch} {σ : St} {a0 : Nat} {i1 : Int32} {r : Int32} (hf : f_X5_sign σ a0 i1 = some r) : (∃ fs : List Value, σ.1 a0 = some (.inr (.inl (5, fs)))) ∧ Ct G l y_X5_sign prog_1_method_17_code 2 (some .int) 2 40 [.ref a0, .int i1] σ (some (.int r)) σ 0 0 := by
  unfold f_X5_sign at hf
  obtain ⟨hob, hf⟩ := ob_some hf
  refine ⟨hob, Ct.ofV pl_X5_sign (Nat.le_of_ble_eq_true rfl) ?_⟩
  intro K hR hN hnm hC hE
  show V K 0 0 σ 0 [(0, .ref a0), (1, .int i1)] []
  refine v_iload_n hC 1 dX5_sign_0 rfl ?_
  refine v_cSP hC (y := y_X5_isRegister) [.int i1] [] (fun r => some (.int r)) (fun r => .int r :: []) hf (fun _ h => m_X5_isRegister h) rfl (fun _ => rfl) hR (Nat.le_of_ble_eq_true rfl) (Nat.le_of_ble_eq_true rfl) w_228 w_226 w_227 w_58 nm_X5_isRegister rfl (Nat.le_of_ble_eq_true rfl) dX5_sign_1 (fun x1 hf => ?_)
  refine v_if_eq hC hf dX5_sign_4 (tgt := 19) (by decide) (fun hf => ?_) (fun hf => ?_)
  · refine v_bipush (v := (-2)) hC dX5_sign_19 (by decide) ?_
    exact v_retIP hC hf hE dX5_sign_21
  · refine v_at 7 rfl ?_
    refine v_aload_n hC 0 dX5_sign_7 rfl ?_
    refine v_getR hC (host := "") hf fd_5_0 w_185 dX5_sign_8 (fun r2 hf => ?_)
    refine v_iload_n hC 1 dX5_sign_11 rfl ?_
    refine v_ldA hC hf dX5_sign_12 (fun r3 hf => ?_)
    refine v_cVP hC (y := y_X0_signum) (ci := 0) [] [] (fun r => some (.int r)) (fun r => .int r :: []) hf (fun _ h => m_X0_signum h) rfl (fun _ => rfl) rfl rfl hR (Nat.le_of_ble_eq_true rfl) (Nat.le_of_ble_eq_true rfl) w_517 w_514 w_515 w_516 w_63 nm_X0_signum rfl (Nat.le_of_ble_eq_true rfl) dX5_sign_13 (fun x4 hf => ?_)
    refine v_goto (tgt := 21) hC dX5_sign_16 (by decide) ?_
    exact v_retIP hC hf hE dX5_sign_21
set_option maxHeartbeats 4000000 in
set_option maxRecDepth 100000 in
theorem m_X5_precision {G : Gm} {l : Launch} {σ : St} {a0 : Nat} {i1 : Int32} {r : Int32} (hf : f_X5_precision σ a0 i1 = some r) : (∃ fs : List Value, σ.1 a0 = some (.inr (.inl (5, fs)))) ∧ Ct G l y_X5_precision prog_1_method_18_code 2 (some .int) 1 22 [.ref a0, .int i1] σ (some (.int r)) σ 0 0 := by
  unfold f_X5_precision at hf
  obtain ⟨hob, hf⟩ := ob_some hf
  refine ⟨hob, Ct.ofV pl_X5_precision (Nat.le_of_ble_eq_true rfl) ?_⟩
  intro K hR hN hnm hC hE
  show V K 0 0 σ 0 [(0, .ref a0), (1, .int i1)] []
  refine v_iload_n hC 1 dX5_precision_0 rfl ?_
  refine v_cSP hC (y := y_X5_isRegister) [.int i1] [] (fun r => some (.int r)) (fun r => .int r :: []) hf (fun _ h => m_X5_isRegister h) rfl (fun _ => rfl) hR (Nat.le_of_ble_eq_true rfl) (Nat.le_of_ble_eq_true rfl) w_228 w_226 w_227 w_58 nm_X5_isRegister rfl (Nat.le_of_ble_eq_true rfl) dX5_precision_1 (fun x1 hf => ?_)
  refine v_if_eq hC hf dX5_precision_4 (tgt := 22) (by decide) (fun hf => ?_) (fun hf => ?_)
  · refine v_iconst (v := (-1)) hC dX5_precision_22 (by decide) ?_
    exact v_retIP hC hf hE dX5_precision_23
  · refine v_at 7 rfl ?_
    refine v_aload_n hC 0 dX5_precision_7 rfl ?_
    refine v_getR hC (host := "") hf fd_5_0 w_185 dX5_precision_8 (fun r2 hf => ?_)
    refine v_iload_n hC 1 dX5_precision_11 rfl ?_
    refine v_ldA hC hf dX5_precision_12 (fun r3 hf => ?_)
    refine v_getRN hC hf fd_0_0 n_15 dX5_precision_13 (fun r4 hf => ?_)
    refine v_cVP hC (y := y_X2_digitCount) (ci := 2) [] [] (fun r => some (.int r)) (fun r => .int r :: []) hf (fun _ h => m_X2_digitCount h) rfl (fun _ => rfl) rfl rfl hR (Nat.le_of_ble_eq_true rfl) (Nat.le_of_ble_eq_true rfl) w_235 w_232 w_233 w_234 w_59 nm_X2_digitCount rfl (Nat.le_of_ble_eq_true rfl) dX5_precision_16 (fun x5 hf => ?_)
    refine v_goto (tgt := 23) hC dX5_precision_19 (by decide) ?_
    exact v_retIP hC hf hE dX5_precision_23
set_option maxHeartbeats 4000000 in
set_option maxRecDepth 100000 in
theorem m_X5_scale {G : Gm} {l : Launch} {σ : St} {a0 : Nat} {i1 : Int32} {r : Int32} (hf : f_X5_scale σ a0 i1 = some r) : (∃ fs : List Value, σ.1 a0 = some (.inr (.inl (5, fs)))) ∧ Ct G l y_X5_scale prog_1_method_19_code 2 (some .int) 1 20 [.ref a0, .int i1] σ (some (.int r)) σ 0 0 := by
  unfold f_X5_scale at hf
  obtain ⟨hob, hf⟩ := ob_some hf
  refine ⟨hob, Ct.ofV pl_X5_scale (Nat.le_of_ble_eq_true rfl) ?_⟩
  intro K hR hN hnm hC hE
  show V K 0 0 σ 0 [(0, .ref a0), (1, .int i1)] []
  refine v_iload_n hC 1 dX5_scale_0 rfl ?_
  refine v_cSP hC (y := y_X5_isRegister) [.int i1] [] (fun r => some (.int r)) (fun r => .int r :: []) hf (fun _ h => m_X5_isRegister h) rfl (fun _ => rfl) hR (Nat.le_of_ble_eq_true rfl) (Nat.le_of_ble_eq_true rfl) w_228 w_226 w_227 w_58 nm_X5_isRegister rfl (Nat.le_of_ble_eq_true rfl) dX5_scale_1 (fun x1 hf => ?_)
  refine v_if_eq hC hf dX5_scale_4 (tgt := 19) (by decide) (fun hf => ?_) (fun hf => ?_)
  · refine v_iconst (v := 0) hC dX5_scale_19 (by decide) ?_
    exact v_retIP hC hf hE dX5_scale_20
  · refine v_at 7 rfl ?_
    refine v_aload_n hC 0 dX5_scale_7 rfl ?_
    refine v_getR hC (host := "") hf fd_5_0 w_185 dX5_scale_8 (fun r2 hf => ?_)
    refine v_iload_n hC 1 dX5_scale_11 rfl ?_
    refine v_ldA hC hf dX5_scale_12 (fun r3 hf => ?_)
    refine v_getIN hC hf fd_0_2 n_19 dX5_scale_13 (fun x4 hf => ?_)
    refine v_goto (tgt := 20) hC dX5_scale_16 (by decide) ?_
    exact v_retIP hC hf hE dX5_scale_20
set_option maxHeartbeats 4000000 in
set_option maxRecDepth 100000 in
theorem m_X5_digit {G : Gm} {l : Launch} {σ : St} {a0 : Nat} {i1 : Int32} {i2 : Int32} {r : Int32} (hf : f_X5_digit σ a0 i1 i2 = some r) : (∃ fs : List Value, σ.1 a0 = some (.inr (.inl (5, fs)))) ∧ Ct G l y_X5_digit prog_1_method_20_code 3 (some .int) 1 22 [.ref a0, .int i1, .int i2] σ (some (.int r)) σ 0 0 := by
  unfold f_X5_digit at hf
  obtain ⟨hob, hf⟩ := ob_some hf
  refine ⟨hob, Ct.ofV pl_X5_digit (Nat.le_of_ble_eq_true rfl) ?_⟩
  intro K hR hN hnm hC hE
  show V K 0 0 σ 0 [(0, .ref a0), (1, .int i1), (2, .int i2)] []
  refine v_iload_n hC 1 dX5_digit_0 rfl ?_
  refine v_cSP hC (y := y_X5_isRegister) [.int i1] [] (fun r => some (.int r)) (fun r => .int r :: []) hf (fun _ h => m_X5_isRegister h) rfl (fun _ => rfl) hR (Nat.le_of_ble_eq_true rfl) (Nat.le_of_ble_eq_true rfl) w_228 w_226 w_227 w_58 nm_X5_isRegister rfl (Nat.le_of_ble_eq_true rfl) dX5_digit_1 (fun x1 hf => ?_)
  refine v_if_eq hC hf dX5_digit_4 (tgt := 27) (by decide) (fun hf => ?_) (fun hf => ?_)
  · refine v_iconst (v := (-1)) hC dX5_digit_27 (by decide) ?_
    exact v_retIP hC hf hE dX5_digit_28
  · refine v_at 7 rfl ?_
    refine v_iload_n hC 2 dX5_digit_7 rfl ?_
    refine v_if_lt hC hf dX5_digit_8 (tgt := 27) (by decide) (fun hf => ?_) (fun hf => ?_)
    · refine v_iconst (v := (-1)) hC dX5_digit_27 (by decide) ?_
      exact v_retIP hC hf hE dX5_digit_28
    · refine v_at 11 rfl ?_
      refine v_iload_n hC 2 dX5_digit_11 rfl ?_
      refine v_aload_n hC 0 dX5_digit_12 rfl ?_
      refine v_getR hC (host := "") hf fd_5_0 w_185 dX5_digit_13 (fun r2 hf => ?_)
      refine v_iload_n hC 1 dX5_digit_16 rfl ?_
      refine v_ldA hC hf dX5_digit_17 (fun r3 hf => ?_)
      refine v_getRN hC hf fd_0_0 n_15 dX5_digit_18 (fun r4 hf => ?_)
      refine v_cVP hC (y := y_X2_digitCount) (ci := 2) [] [.int i2] (fun r => some (.int r)) (fun r => .int r :: [.int i2]) hf (fun _ h => m_X2_digitCount h) rfl (fun _ => rfl) rfl rfl hR (Nat.le_of_ble_eq_true rfl) (Nat.le_of_ble_eq_true rfl) w_235 w_232 w_233 w_234 w_59 nm_X2_digitCount rfl (Nat.le_of_ble_eq_true rfl) dX5_digit_21 (fun x5 hf => ?_)
      refine v_icmp_lt hC hf dX5_digit_24 (tgt := 29) (by decide) (fun hf => ?_) (fun hf => ?_)
      · refine v_aload_n hC 0 dX5_digit_29 rfl ?_
        refine v_getR hC (host := "") hf fd_5_0 w_185 dX5_digit_30 (fun r6 hf => ?_)
        refine v_iload_n hC 1 dX5_digit_33 rfl ?_
        refine v_ldA hC hf dX5_digit_34 (fun r7 hf => ?_)
        refine v_getRN hC hf fd_0_0 n_15 dX5_digit_35 (fun r8 hf => ?_)
        refine v_iload_n hC 2 dX5_digit_38 rfl ?_
        refine v_cVP hC (y := y_X2_digitAt) (ci := 2) [.int i2] [] (fun r => some (.int r)) (fun r => .int r :: []) hf (fun _ h => m_X2_digitAt h) rfl (fun _ => rfl) rfl rfl hR (Nat.le_of_ble_eq_true rfl) (Nat.le_of_ble_eq_true rfl) w_415 w_538 w_413 w_414 w_59 nm_X2_digitAt rfl (Nat.le_of_ble_eq_true rfl) dX5_digit_39 (fun x9 hf => ?_)
        exact v_retIP hC hf hE dX5_digit_42
      · refine v_at 27 rfl ?_
        refine v_iconst (v := (-1)) hC dX5_digit_27 (by decide) ?_
        exact v_retIP hC hf hE dX5_digit_28
def E_X5_type_L6 (K : Cq) (kr sr : Nat) (σ : St) (a0 : Nat) (j1 : Int64) (y : (Unit) ⊕ (Int32)) : Prop := match y with
  | .inl z => V K kr sr σ 29 [] []
  | .inr z => V K kr sr σ 45 [(0, .ref a0), (1, .long j1), (3, .int z)] []
set_option maxHeartbeats 4000000 in
set_option maxRecDepth 100000 in
theorem v_X5_type_L6 {K : Cq} {k0 s0 : Nat} (hC : Cx K prog_1_method_21_code "TensMill") (hR : kR K = rmF 4 90 k0 s0) (hN : kn K = 6) {kr sr : Nat} : ∀ (n : Nat) (σ : St) (a0 : Nat) (j1 : Int64) (i3 : Int32) (i4 : Int32) (y : (Unit) ⊕ (Int32)), f_X5_type_L6 n σ a0 j1 i3 i4 = some y → E_X5_type_L6 K kr sr σ a0 j1 y → V K kr sr σ 6 [(0, .ref a0), (1, .long j1), (3, .int i3), (4, .int i4)] [] := by
  intro n
  induction n with
  | zero =>
    intro σ a0 j1 i3 i4 y hf hE
    cases hf
  | succ n ih =>
    intro σ a0 j1 i3 i4 y hf hE
    replace hf : b_X5_type_L6 (f_X5_type_L6 n) σ a0 j1 i3 i4 = some y := hf
    unfold b_X5_type_L6 at hf
    refine v_iload hC 3 dX5_type_6 rfl ?_
    refine v_if_lt hC hf dX5_type_8 (tgt := 45) (by decide) (fun hf => ?_) (fun hf => ?_)
    · exact v_sub [(0, .ref a0), (1, .long j1), (3, .int i3)] [0, 1, 2] rfl (v_exP (E := E_X5_type_L6 K _ _ _ a0 j1) hf hE)
    · refine v_at 11 rfl ?_
      refine v_lload_n hC 1 dX5_type_11 rfl ?_
      refine v_iload hC 3 dX5_type_12 rfl ?_
      refine v_lushr hC dX5_type_14 ?_
      refine v_l2i hC dX5_type_15 ?_
      refine v_sipush (v := 255) hC dX5_type_16 (by decide) ?_
      refine v_iand hC dX5_type_19 ?_
      refine v_ltI hf (fun x1 hf => ?_)
      refine v_istore hC [(5, .int x1), (0, .ref a0), (1, .long j1), (3, .int i3), (4, .int i4)] dX5_type_20 hN (Nat.le_of_ble_eq_true rfl) rfl ?_
      refine v_iload hC 0 dX5_type_22 rfl ?_
      refine v_at 24 rfl ?_
      refine v_bipush (v := 126) hC dX5_type_24 (by decide) ?_
      refine v_icmp_le hC hf dX5_type_26 (tgt := 31) (by decide) (fun hf => ?_) (fun hf => ?_)
      · refine v_iload hC 0 dX5_type_31 rfl ?_
        refine v_jnP hf (fun z2 => V K kr sr σ 39 [(0, .ref a0), (1, .long j1), (3, .int z2), (4, .int i4)] []) (fun z2 hf => ?_) (fun k2 hk2 hf => ?_)
        · refine v_incL hC hf 3 (fun x3 => [(4, .int x3), (0, .ref a0), (1, .long j1), (3, .int z2)]) dX5_type_39 rfl (by decide) hN (Nat.le_of_ble_eq_true rfl) (fun _ => rfl) (fun x3 hf => ?_)
          refine v_goto (tgt := 6) hC dX5_type_42 (by decide) ?_
          exact v_sub [(0, .ref a0), (1, .long j1), (3, .int z2), (4, .int x3)] [1, 2, 3, 0] rfl (ih _ _ _ _ _ _ hf hE)
        · refine v_if_eq hC hf dX5_type_33 (tgt := 39) (by decide) (fun hf => ?_) (fun hf => ?_)
          · exact v_sub [(0, .ref a0), (1, .long j1), (3, .int i3), (4, .int i4)] [1, 2, 3, 4] rfl (hk2 _ hf)
          · refine v_at 36 rfl ?_
            refine v_incL hC hf 3 (fun x4 => [(3, .int x4), (5, .int x1), (0, .ref a0), (1, .long j1), (4, .int i4)]) dX5_type_36 rfl (by decide) hN (Nat.le_of_ble_eq_true rfl) (fun _ => rfl) (fun x4 hf => ?_)
            refine v_at 39 rfl ?_
            exact v_sub [(0, .ref a0), (1, .long j1), (3, .int x4), (4, .int i4)] [2, 3, 0, 4] rfl (hk2 _ hf)
      · refine v_at 29 rfl ?_
        exact v_sub [] [] rfl (v_exP (E := E_X5_type_L6 K _ _ _ a0 j1) hf hE)
def E_X5_type_L82 (K : Cq)  (y : Unit) (σ : St) (kr sr : Nat) : Prop := V K kr sr σ 118 [] []
set_option maxHeartbeats 4000000 in
set_option maxRecDepth 100000 in
theorem v_X5_type_L82 {K : Cq} {k0 s0 : Nat} (hC : Cx K prog_1_method_21_code "TensMill") (hR : kR K = rmF 4 90 k0 s0) (hN : kn K = 6) {ko so : Nat} : ∀ (n : Nat) (σ : St) (a0 : Nat) (j1 : Int64) (i4 : Int32) (y : Unit) (σf : St) (kr sr : Nat), f_X5_type_L82 n σ a0 j1 i4 = some (y, σf, kr, sr) → E_X5_type_L82 K  y σf ko so → V K (kr + ko) (sr + so) σ 82 [(0, .ref a0), (1, .long j1), (4, .int i4)] [] := by
  intro n
  induction n with
  | zero =>
    intro σ a0 j1 i4 y σf kr sr hf hE
    cases hf
  | succ n ih =>
    intro σ a0 j1 i4 y σf kr sr hf hE
    replace hf : b_X5_type_L82 (f_X5_type_L82 n) σ a0 j1 i4 = some (y, σf, kr, sr) := hf
    unfold b_X5_type_L82 at hf
    refine v_iload hC 2 dX5_type_82 rfl ?_
    refine v_if_lt hC hf dX5_type_84 (tgt := 118) (by decide) (fun hf => ?_) (fun hf => ?_)
    · obtain ⟨hX, e1, e2⟩ := v_exE (E := E_X5_type_L82 K ) hf hE
      rw [e1, e2]
      exact v_sub [] [] rfl hX
    · refine v_at 87 rfl ?_
      refine v_lload_n hC 1 dX5_type_87 rfl ?_
      refine v_iload hC 2 dX5_type_88 rfl ?_
      refine v_lushr hC dX5_type_90 ?_
      refine v_l2i hC dX5_type_91 ?_
      refine v_sipush (v := 255) hC dX5_type_92 (by decide) ?_
      refine v_iand hC dX5_type_95 ?_
      refine v_ltI hf (fun x14 hf => ?_)
      refine v_istore hC [(5, .int x14), (0, .ref a0), (1, .long j1), (4, .int i4)] dX5_type_96 hN (Nat.le_of_ble_eq_true rfl) rfl ?_
      refine v_iload hC 0 dX5_type_98 rfl ?_
      refine v_at 100 rfl ?_
      refine v_jnE hf (fun z15 kr sr => V K (kr + ko) (sr + so) z15 112 [(0, .ref a0), (1, .long j1), (4, .int i4)] []) (fun z15 _ _ hf => ?_) (fun k15 hk15 hf => ?_)
      · refine v_incL hC hf 2 (fun x16 => [(4, .int x16), (0, .ref a0), (1, .long j1)]) dX5_type_112 rfl (by decide) hN (Nat.le_of_ble_eq_true rfl) (fun _ => rfl) (fun x16 hf => ?_)
        refine v_goto (tgt := 82) hC dX5_type_115 (by decide) ?_
        exact v_sub [(0, .ref a0), (1, .long j1), (4, .int x16)] [1, 2, 0] rfl (ih _ _ _ _ _ _ _ _ hf hE)
      · refine v_if_eq hC hf dX5_type_100 (tgt := 112) (by decide) (fun hf => ?_) (fun hf => ?_)
        · exact v_sub [(0, .ref a0), (1, .long j1), (4, .int i4)] [1, 2, 3] rfl (hk15 _ _ _ hf)
        · refine v_at 103 rfl ?_
          refine v_aload_n hC 1 dX5_type_103 rfl ?_
          refine v_getR hC (host := "") hf fd_5_4 w_189 dX5_type_104 (fun r17 hf => ?_)
          refine v_iload hC 0 dX5_type_107 rfl ?_
          refine v_cVE hC (y := y_X4_append) (ci := 4) [.int x14] [] (fun _ => none) (fun _ => []) hf (fun _ _ _ _ h => m_X4_append h) rfl (fun _ => rfl) rfl rfl hR (Nat.le_of_ble_eq_true rfl) (Nat.le_of_ble_eq_true rfl) w_559 w_556 w_557 w_558 w_60 nm_X4_append rfl (Nat.le_of_ble_eq_true rfl) dX5_type_109 (fun _ σ18 _ _ hf => ?_)
          refine v_at 112 rfl ?_
          exact v_sub [(0, .ref a0), (1, .long j1), (4, .int i4)] [1, 2, 3] rfl (hk15 _ _ _ hf)
set_option maxHeartbeats 4000000 in
set_option maxRecDepth 100000 in
theorem m_X5_type {G : Gm} {l : Launch} {σ : St} {a0 : Nat} {j1 : Int64} {r : Int32} {σf : St} {k s : Nat} (hf : f_X5_type σ a0 j1 = some (r, σf, k, s)) : (∃ fs : List Value, σ.1 a0 = some (.inr (.inl (5, fs)))) ∧ Ct G l y_X5_type prog_1_method_21_code 6 (some .boolean) 4 90 [.ref a0, .long j1] σ (some (.int r)) σf k s := by
  unfold f_X5_type at hf
  obtain ⟨hob, hf⟩ := ob_some hf
  refine ⟨hob, Ct.ofV pl_X5_type (Nat.le_of_ble_eq_true rfl) ?_⟩
  intro K hR hN hnm hC hE
  show V K (k + 0) (s + 0) σ 0 [(0, .ref a0), (1, .long j1)] []
  refine v_iconst (v := 0) hC dX5_type_0 (by decide) ?_
  refine v_istore_n hC [(3, .int 0), (0, .ref a0), (1, .long j1)] dX5_type_1 rfl hN (Nat.le_of_ble_eq_true rfl) rfl ?_
  refine v_bipush (v := 56) hC dX5_type_2 (by decide) ?_
  refine v_istore hC [(4, .int 56), (3, .int 0), (0, .ref a0), (1, .long j1)] dX5_type_4 hN (Nat.le_of_ble_eq_true rfl) rfl ?_
  refine v_at 6 rfl ?_
  refine v_sub [(0, .ref a0), (1, .long j1), (3, .int 0), (4, .int 56)] [2, 3, 1, 0] rfl ?_
  refine v_lpP hf (E_X5_type_L6 K _ _ σ a0 j1) (fun _ h hE => v_X5_type_L6 hC hR hN _ _ _ _ _ _ _ h hE) (fun y5 hf => ?_)
  rcases y5 with z6 | z7
  · show V K _ _ σ 29 [] []
    refine v_iconst (v := 0) hC dX5_type_29 (by decide) ?_
    exact v_retZ hC hf hE dX5_type_30
  · show V K _ _ σ 45 [(0, .ref a0), (1, .long j1), (3, .int z7)] []
    refine v_aload_n hC 0 dX5_type_45 rfl ?_
    refine v_getR hC (host := "") hf fd_5_4 w_189 dX5_type_46 (fun r8 hf => ?_)
    refine v_getIN hC hf fd_4_1 n_4 dX5_type_49 (fun x9 hf => ?_)
    refine v_iload_n hC 2 dX5_type_52 rfl ?_
    refine v_iadd hC dX5_type_53 ?_
    refine v_sipush (v := 6000) hC dX5_type_54 (by decide) ?_
    refine v_icmp_le hC hf dX5_type_57 (tgt := 62) (by decide) (fun hf => ?_) (fun hf => ?_)
    · refine v_aload_n hC 0 dX5_type_62 rfl ?_
      refine v_getR hC (host := "") hf fd_5_4 w_189 dX5_type_63 (fun r10 hf => ?_)
      refine v_aload_n hC 0 dX5_type_66 rfl ?_
      refine v_getR hC (host := "") hf fd_5_4 w_189 dX5_type_67 (fun r11 hf => ?_)
      refine v_getIN hC hf fd_4_1 n_4 dX5_type_70 (fun x12 hf => ?_)
      refine v_iload_n hC 2 dX5_type_73 rfl ?_
      refine v_iadd hC dX5_type_74 ?_
      refine v_cVE hC (y := y_X4_makeRoom) (ci := 4) [.int (x12 + z7)] [] (fun _ => none) (fun _ => []) hf (fun _ _ _ _ h => m_X4_makeRoom h) rfl (fun _ => rfl) rfl rfl hR (Nat.le_of_ble_eq_true rfl) (Nat.le_of_ble_eq_true rfl) w_546 w_543 w_544 w_545 w_60 nm_X4_makeRoom rfl (Nat.le_of_ble_eq_true rfl) dX5_type_75 (fun _ σ13 _ _ hf => ?_)
      refine v_at 78 rfl ?_
      refine v_bipush (v := 56) hC dX5_type_78 (by decide) ?_
      refine v_istore hC [(4, .int 56), (0, .ref a0), (1, .long j1), (3, .int z7)] dX5_type_80 hN (Nat.le_of_ble_eq_true rfl) rfl ?_
      refine v_at 82 rfl ?_
      refine v_sub [(0, .ref a0), (1, .long j1), (4, .int 56)] [1, 2, 0] rfl ?_
      refine v_lpE hf (E_X5_type_L82 K ) (fun _ _ _ _ _ _ h hE => v_X5_type_L82 hC hR hN _ _ _ _ _ _ _ _ _ h hE) (fun y19 σ20 _ _ hf => ?_)
      show V K _ _ σ20 118 [] []
      refine v_iconst (v := 1) hC dX5_type_118 (by decide) ?_
      exact v_retZ hC hf hE dX5_type_119
    · refine v_at 60 rfl ?_
      refine v_iconst (v := 0) hC dX5_type_60 (by decide) ?_
      exact v_retZ hC hf hE dX5_type_61
set_option maxHeartbeats 4000000 in
set_option maxRecDepth 100000 in
theorem m_X5_read {G : Gm} {l : Launch} {σ : St} {a0 : Nat} {i1 : Int32} {r : Int32} {σf : St} {k s : Nat} (hf : f_X5_read σ a0 i1 = some (r, σf, k, s)) : (∃ fs : List Value, σ.1 a0 = some (.inr (.inl (5, fs)))) ∧ Ct G l y_X5_read prog_1_method_22_code 3 (some .boolean) 6 138 [.ref a0, .int i1] σ (some (.int r)) σf k s := by
  unfold f_X5_read at hf
  obtain ⟨hob, hf⟩ := ob_some hf
  refine ⟨hob, Ct.ofV pl_X5_read (Nat.le_of_ble_eq_true rfl) ?_⟩
  intro K hR hN hnm hC hE
  show V K (k + 0) (s + 0) σ 0 [(0, .ref a0), (1, .int i1)] []
  refine v_aload_n hC 0 dX5_read_0 rfl ?_
  refine v_getR hC (host := "") hf fd_5_6 w_191 dX5_read_1 (fun r1 hf => ?_)
  refine v_aload_n hC 0 dX5_read_4 rfl ?_
  refine v_getR hC (host := "") hf fd_5_4 w_189 dX5_read_5 (fun r2 hf => ?_)
  refine v_cVE hC (y := y_X3_parse) (ci := 3) [.ref r2] [] (fun r => some (.int r)) (fun r => .int r :: []) hf (fun _ _ _ _ h => m_X3_parse h) rfl (fun _ => rfl) rfl rfl hR (Nat.le_of_ble_eq_true rfl) (Nat.le_of_ble_eq_true rfl) w_568 w_565 w_566 w_567 w_61 nm_X3_parse rfl (Nat.le_of_ble_eq_true rfl) dX5_read_8 (fun x3 σ4 _ _ hf => ?_)
  refine v_istore_n hC [(2, .int x3), (0, .ref a0), (1, .int i1)] dX5_read_11 rfl hN (Nat.le_of_ble_eq_true rfl) rfl ?_
  refine v_iload_n hC 0 dX5_read_12 rfl ?_
  refine v_jnE hf (fun z5 kr sr => V K (kr + 0) (sr + 0) z5 41 [(0, .ref a0), (1, .int i1), (2, .int x3)] []) (fun z5 _ _ hf => ?_) (fun k5 hk5 hf => ?_)
  · refine v_aload_n hC 0 dX5_read_41 rfl ?_
    refine v_getR hC (host := "") hf fd_5_4 w_189 dX5_read_42 (fun r6 hf => ?_)
    refine v_iconst (v := 0) hC dX5_read_45 (by decide) ?_
    refine v_putN hC hf fd_4_1 n_4 rfl rfl dX5_read_46 (fun σ7 hf => ?_)
    refine v_iload_n hC 2 dX5_read_49 rfl ?_
    refine v_if_eq hC hf dX5_read_50 (tgt := 92) (by decide) (fun hf => ?_) (fun hf => ?_)
    · refine v_iconst (v := 0) hC dX5_read_92 (by decide) ?_
      exact v_retZ hC hf hE dX5_read_93
    · refine v_at 53 rfl ?_
      refine v_aload_n hC 0 dX5_read_53 rfl ?_
      refine v_iload_n hC 1 dX5_read_54 rfl ?_
      refine v_aload_n hC 0 dX5_read_55 rfl ?_
      refine v_getR hC (host := "") hf fd_5_1 w_186 dX5_read_56 (fun r8 hf => ?_)
      refine v_aload_n hC 0 dX5_read_59 rfl ?_
      refine v_getR hC (host := "") hf fd_5_6 w_191 dX5_read_60 (fun r9 hf => ?_)
      refine v_getIN hC hf fd_3_0 n_6 dX5_read_63 (fun x10 hf => ?_)
      refine v_aload_n hC 0 dX5_read_66 rfl ?_
      refine v_at 67 rfl ?_
      refine v_getR hC (host := "") hf fd_5_6 w_191 dX5_read_67 (fun r11 hf => ?_)
      refine v_getIN hC hf fd_3_3 n_9 dX5_read_70 (fun x12 hf => ?_)
      refine v_i2l hC dX5_read_73 ?_
      refine v_aload_n hC 0 dX5_read_74 rfl ?_
      refine v_getR hC (host := "") hf fd_5_6 w_191 dX5_read_75 (fun r13 hf => ?_)
      refine v_getLN hC hf fd_3_4 n_10 dX5_read_78 (fun l14 hf => ?_)
      refine v_lsub hC dX5_read_81 ?_
      refine v_cVE hC (y := y_X5_keep) (ci := 5) [.int i1, .ref r8, .int x10, .long (((x12 : Int32).toInt64) - l14)] [] (fun r => some (.int r)) (fun r => .int r :: []) hf (fun _ _ _ _ h => m_X5_keep h) rfl (fun _ => rfl) rfl rfl hR (Nat.le_of_ble_eq_true rfl) (Nat.le_of_ble_eq_true rfl) w_225 w_222 w_224 w_0 w_58 nm_X5_keep rfl (Nat.le_of_ble_eq_true rfl) dX5_read_82 (fun x15 σ16 _ _ hf => ?_)
      refine v_at 85 rfl ?_
      refine v_if_eq hC hf dX5_read_85 (tgt := 92) (by decide) (fun hf => ?_) (fun hf => ?_)
      · refine v_iconst (v := 0) hC dX5_read_92 (by decide) ?_
        exact v_retZ hC hf hE dX5_read_93
      · refine v_at 88 rfl ?_
        refine v_iconst (v := 1) hC dX5_read_88 (by decide) ?_
        refine v_goto (tgt := 93) hC dX5_read_89 (by decide) ?_
        exact v_retZ hC hf hE dX5_read_93
  · refine v_if_eq hC hf dX5_read_13 (tgt := 41) (by decide) (fun hf => ?_) (fun hf => ?_)
    · exact v_sub [(0, .ref a0), (1, .int i1), (2, .int x3)] [1, 2, 0] rfl (hk5 _ _ _ hf)
    · refine v_at 16 rfl ?_
      refine v_aload_n hC 1 dX5_read_16 rfl ?_
      refine v_getR hC (host := "") hf fd_5_1 w_186 dX5_read_17 (fun r17 hf => ?_)
      refine v_aload_n hC 1 dX5_read_20 rfl ?_
      refine v_getR hC (host := "") hf fd_5_4 w_189 dX5_read_21 (fun r18 hf => ?_)
      refine v_aload_n hC 1 dX5_read_24 rfl ?_
      refine v_getR hC (host := "") hf fd_5_6 w_191 dX5_read_25 (fun r19 hf => ?_)
      refine v_getIN hC hf fd_3_1 n_7 dX5_read_28 (fun x20 hf => ?_)
      refine v_aload_n hC 1 dX5_read_31 rfl ?_
      refine v_at 32 rfl ?_
      refine v_getR hC (host := "") hf fd_5_6 w_191 dX5_read_32 (fun r21 hf => ?_)
      refine v_getIN hC hf fd_3_2 n_8 dX5_read_35 (fun x22 hf => ?_)
      refine v_cVE hC (y := y_X2_becomeDigits) (ci := 2) [.ref r18, .int x20, .int x22] [] (fun _ => none) (fun _ => []) hf (fun _ _ _ _ h => m_X2_becomeDigits h) rfl (fun _ => rfl) rfl rfl hR (Nat.le_of_ble_eq_true rfl) (Nat.le_of_ble_eq_true rfl) w_597 w_594 w_595 w_596 w_59 nm_X2_becomeDigits rfl (Nat.le_of_ble_eq_true rfl) dX5_read_38 (fun _ σ23 _ _ hf => ?_)
      refine v_at 41 rfl ?_
      exact v_sub [(0, .ref a0), (1, .int i1), (2, .int x3)] [1, 2, 0] rfl (hk5 _ _ _ hf)
