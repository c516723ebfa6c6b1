-- ===== end of PART A; then your names; then what follows =====
/-! THE CLAIM OUT OF ONE WALK OF THE LAW'S BODY. Your part is whole_start (and what it stands on); all else here is the same for every law, but numbers. -/
def R_law : String := "TensMillLaw"
def lw_P (b : Addr) (xs : List Int32) (args : Array Value) (s : State) : Prop := args = #[.ref b] ∧ s.IntsAt b xs ∧ xs.length ≤ 3072 ∧ (Jvm.Cond.and given_1 narrow_1).before args s = true
def lw_Q (_ : Array Value) (s : State) (o : Outcome) (t : State) : Prop := o = .returned (some (.int 1)) ∧ Framed s o t [] 600000 7302250
def lw_Z (below : List Frame) (a : Array Value) (s : State) : State → Prop := fun t => ∃ o, t.status = .running ∧ Ended t below o ∧ lw_Q a s o t
/-- the law's own end, with 1 on the stack, nothing written that was there before, its room as the claim has it -/
theorem lw_ret {p : Program} {l : Launch} {e : Env} {s : State} {m : MethodId} {below : List Frame} {meth : Method} {c : Code} {b : Nat} (hx : p.tables.exec = Jvm.exec) (hb : c.code = code) (hr : meth.sig.returnType = ret) (hlocks : meth.locks = false) {pc : Nat} {H : Heap} {ls : Array Slot} (hdg : decode code pc = .ok (.ireturn, 1)) : W p l e room_1 s m #[Value.ref b] below meth c H [] 600000 7302250 (lw_Z below #[Value.ref b] s) (F0 m pc ls [.int 1]) := by
  intro T hT X
  obtain ⟨fs, hret, hrun, hended, hW, hframe⟩ := X.leave (v := some (.int 1)) (hlocks := hlocks) (fun h => by rw [hr] at h; cases h)
  have hmeth' : T.vm.method? m = some meth := X.method'
  refine ⟨T.setFrames fs, ?_, .returned (some (.int 1)), hrun, hended, rfl, ⟨_, rfl⟩, hW, hframe⟩
  jvm_step X.here [X.here.top, hx, hb, hdg, hmeth', hr, ret, narrow_b1]
  (try refine ⟨rfl, ?_⟩); (try refine ⟨rfl, ?_⟩)
  first | (intro acts; rw [hret _ acts rfl rfl rfl]) | rw [hret _ _ rfl rfl rfl]
  exact Steps.refl _
/-- what holds at the law's entry: the machine, the code, the tables' words (any of lw_tbl by 'hts w (by decide +kernel)'), the script of L ints xs at the cell b, what the Statement gives of the start (any of its parts by flat_of_before) -/
def lw_At (p : Program) (s : State) (m : MethodId) (meth : Method) (c : Code) (b L : Nat) (xs : Nat → Int32) : Prop :=
  p.tables.exec = Jvm.exec ∧ c.code = code ∧ meth.sig.returnType = ret ∧ c.maxLocals = 4 ∧ s.vm.findClass R_law = some m.cls ∧ (∀ w ∈ lw_tbl, w.before #[Value.ref b] s = true) ∧ va_X b L xs s s.heap ∧ b < s.heap.size ∧ meth.locks = false ∧ (Jvm.Cond.and given_1 narrow_1).before #[Value.ref b] s = true
def EndL (K : Cq) (r : Int32) : Prop := r = 1 ∧ kR K = room_1 ∧ kQ K = lw_Z (kb K) (ka K) (ks K) ∧ kA K = (fun q => (ks K).heap.size ≤ q) ∧ (kt K).sig.returnType = ret ∧ (kt K).locks = false ∧ (∃ b : Nat, ka K = #[Value.ref b]) ∧ kmc K ≤ 600000 ∧ kms K ≤ 7302250
theorem v_retW {K : Cq} {kr sr : Nat} {σ σf : St} {pc : Nat} {lv : List (Nat × Value)} {x r : Int32} {own : String} (hC : Cx K code own) (hf : (isB x).bind (fun _ => some (x, σ, 0, 0)) = some (r, σf, kr, sr)) (hE : EndL K r) (hd : decode code pc = .ok (.ireturn, 1)) : V K (kr + 0) (sr + 0) σ pc lv [.int x] := by
  obtain ⟨⟨h1, -⟩, hf⟩ := zB hf
  cases hf
  obtain ⟨e0, e1, e2, e3, e4, e5, ⟨b, e6⟩, e7, e8⟩ := hE
  intro H locs ls cells slots g1 g2 g3 g4 g5 g6
  unfold WK
  rw [e2, e1, e6, e0]
  rw [e3] at g2
  refine va_forget (fun q hq => g2.2.2 q hq) ?_
  refine W.widen (k := 600000) (n := 7302250) (by omega) (by omega) ?_
  exact lw_ret hC.1 hC.2.1 e4 e5 hd
def E_L_law_L18 (K : Cq)  (y : Unit) (σ : St) (kr sr : Nat) : Prop := V K kr sr σ 1131 [] []
set_option maxHeartbeats 4000000 in
set_option maxRecDepth 100000 in
theorem v_L_law_L18 {K : Cq} {k0 s0 : Nat} (hC : Cx K code "TensMillLaw") (hR : kR K = rmF 11 472 k0 s0) (hN : kn K = 4) {ko so : Nat} : ∀ (n : Nat) (σ : St) (a0 : Nat) (a1 : Nat) (a2 : Nat) (i3 : Int32) (y : Unit) (σf : St) (kr sr : Nat), f_L_law_L18 n σ a0 a1 a2 i3 = some (y, σf, kr, sr) → E_L_law_L18 K  y σf ko so → V K (kr + ko) (sr + so) σ 18 [(0, .ref a0), (1, .ref a1), (2, .ref a2), (3, .int i3)] [] := by
  intro n
  induction n with
  | zero =>
    intro σ a0 a1 a2 i3 y σf kr sr hf hE
    cases hf
  | succ n ih =>
    intro σ a0 a1 a2 i3 y σf kr sr hf hE
    replace hf : b_L_law_L18 (f_L_law_L18 n) σ a0 a1 a2 i3 = some (y, σf, kr, sr) := hf
    unfold b_L_law_L18 at hf
    refine v_iload_n hC 3 dL_law_18 rfl ?_
    refine v_aload_n hC 0 dL_law_19 rfl ?_
    refine v_aln hC hf dL_law_20 (fun x7 hf => ?_)
    refine v_bipush (v := 6) hC dL_law_21 (by decide) ?_
    refine v_isub hC dL_law_23 ?_
    refine v_icmp_gt hC hf dL_law_24 (tgt := 1131) (by decide) (fun hf => ?_) (fun hf => ?_)
    · obtain ⟨hX, e1, e2⟩ := v_exE (E := E_L_law_L18 K ) hf hE
      rw [e1, e2]
      exact v_sub [] [] rfl hX
    · refine v_at 27 rfl ?_
      refine v_aload_n hC 0 dL_law_27 rfl ?_
      refine v_iload_n hC 3 dL_law_28 rfl ?_
      refine v_ldI hC hf dL_law_29 (fun x8 hf => ?_)
      refine v_bipush (v := 31) hC dL_law_30 (by decide) ?_
      refine v_iand hC dL_law_32 ?_
      refine v_ltI hf (fun x9 hf => ?_)
      refine v_jnE hf (fun z10 kr sr => V K (kr + ko) (sr + so) z10 1125 [(0, .ref a0), (1, .ref a1), (2, .ref a2), (3, .int i3)] []) (fun z10 _ _ hf => ?_) (fun k10 hk10 hf => ?_)
      · refine v_incL hC hf 3 (fun x11 => [(3, .int x11), (0, .ref a0), (1, .ref a1), (2, .ref a2)]) dL_law_1125 rfl (by decide) hN (Nat.le_of_ble_eq_true rfl) (fun _ => rfl) (fun x11 hf => ?_)
        refine v_goto (tgt := 18) hC dL_law_1128 (by decide) ?_
        exact v_sub [(0, .ref a0), (1, .ref a1), (2, .ref a2), (3, .int x11)] [1, 2, 3, 0] rfl (ih _ _ _ _ _ _ _ _ _ hf hE)
      · by_cases hx0 : x9 = 0
        · rw [if_pos hx0] at hf
          refine v_tabIn hC dL_law_33 (by rw [hx0]; decide) (by rw [hx0]; decide) (off := 107) (by rw [hx0]; decide) (tgt := 140) (by decide) ?_
          refine v_aload_n hC 1 dL_law_140 rfl ?_
          refine v_aload_n hC 0 dL_law_141 rfl ?_
          refine v_iload_n hC 3 dL_law_142 rfl ?_
          refine v_iconst (v := 1) hC dL_law_143 (by decide) ?_
          refine v_iadd hC dL_law_144 ?_
          refine v_ldI hC hf dL_law_145 (fun x12 hf => ?_)
          refine v_aload_n hC 0 dL_law_146 rfl ?_
          refine v_iload_n hC 3 dL_law_147 rfl ?_
          refine v_at 148 rfl ?_
          refine v_iconst (v := 2) hC dL_law_148 (by decide) ?_
          refine v_iadd hC dL_law_149 ?_
          refine v_ldI hC hf dL_law_150 (fun x13 hf => ?_)
          refine v_i2l hC dL_law_151 ?_
          refine v_bipush (v := 32) hC dL_law_152 (by decide) ?_
          refine v_lshl hC dL_law_154 ?_
          refine v_aload_n hC 0 dL_law_155 rfl ?_
          refine v_iload_n hC 3 dL_law_156 rfl ?_
          refine v_at 157 rfl ?_
          refine v_iconst (v := 3) hC dL_law_157 (by decide) ?_
          refine v_iadd hC dL_law_158 ?_
          refine v_ldI hC hf dL_law_159 (fun x14 hf => ?_)
          refine v_i2l hC dL_law_160 ?_
          refine v_ldc2 hC dL_law_161 w_936 ?_
          refine v_land hC dL_law_164 ?_
          refine v_lor hC dL_law_165 ?_
          refine v_aload_n hC 0 dL_law_166 rfl ?_
          refine v_at 167 rfl ?_
          refine v_iload_n hC 3 dL_law_167 rfl ?_
          refine v_iconst (v := 4) hC dL_law_168 (by decide) ?_
          refine v_iadd hC dL_law_169 ?_
          refine v_ldI hC hf dL_law_170 (fun x15 hf => ?_)
          refine v_cVE hC (y := y_X5_put) (ci := 5) [.int x12, .long ((((x13 : Int32).toInt64) <<< ((32 : Int32).toInt64 &&& 63)) ||| (((x14 : Int32).toInt64) &&& 4294967295)), .int x15] [] (fun r => some (.int r)) (fun r => .int r :: []) hf (fun _ _ _ _ h => m_X5_put h) rfl (fun _ => rfl) rfl rfl hR (Nat.le_of_ble_eq_true rfl) (Nat.le_of_ble_eq_true rfl) w_213 w_210 w_211 w_212 w_58 nm_X5_put rfl (Nat.le_of_ble_eq_true rfl) dL_law_171 (fun x16 σ17 _ _ hf => ?_)
          refine v_aload_n hC 2 dL_law_174 rfl ?_
          refine v_aload_n hC 0 dL_law_175 rfl ?_
          refine v_iload_n hC 3 dL_law_176 rfl ?_
          refine v_at 177 rfl ?_
          refine v_iconst (v := 1) hC dL_law_177 (by decide) ?_
          refine v_iadd hC dL_law_178 ?_
          refine v_ldI hC hf dL_law_179 (fun x18 hf => ?_)
          refine v_aload_n hC 0 dL_law_180 rfl ?_
          refine v_iload_n hC 3 dL_law_181 rfl ?_
          refine v_iconst (v := 2) hC dL_law_182 (by decide) ?_
          refine v_iadd hC dL_law_183 ?_
          refine v_ldI hC hf dL_law_184 (fun x19 hf => ?_)
          refine v_at 185 rfl ?_
          refine v_i2l hC dL_law_185 ?_
          refine v_bipush (v := 32) hC dL_law_186 (by decide) ?_
          refine v_lshl hC dL_law_188 ?_
          refine v_aload_n hC 0 dL_law_189 rfl ?_
          refine v_iload_n hC 3 dL_law_190 rfl ?_
          refine v_iconst (v := 3) hC dL_law_191 (by decide) ?_
          refine v_iadd hC dL_law_192 ?_
          refine v_ldI hC hf dL_law_193 (fun x20 hf => ?_)
          refine v_at 194 rfl ?_
          refine v_i2l hC dL_law_194 ?_
          refine v_ldc2 hC dL_law_195 w_936 ?_
          refine v_land hC dL_law_198 ?_
          refine v_lor hC dL_law_199 ?_
          refine v_aload_n hC 0 dL_law_200 rfl ?_
          refine v_iload_n hC 3 dL_law_201 rfl ?_
          refine v_iconst (v := 4) hC dL_law_202 (by decide) ?_
          refine v_iadd hC dL_law_203 ?_
          refine v_at 204 rfl ?_
          refine v_ldI hC hf dL_law_204 (fun x21 hf => ?_)
          refine v_cVE hC (y := y_X6_put) (ci := 6) [.int x18, .long ((((x19 : Int32).toInt64) <<< ((32 : Int32).toInt64 &&& 63)) ||| (((x20 : Int32).toInt64) &&& 4294967295)), .int x21] [.int x16] (fun r => some (.int r)) (fun r => .int r :: [.int x16]) hf (fun _ _ _ _ h => m_X6_put h) rfl (fun _ => rfl) rfl rfl hR (Nat.le_of_ble_eq_true rfl) (Nat.le_of_ble_eq_true rfl) w_695 w_692 w_693 w_694 w_64 nm_X6_put rfl (Nat.le_of_ble_eq_true rfl) dL_law_205 (fun x22 σ23 _ _ hf => ?_)
          refine v_icmp_eq hC hf dL_law_208 (tgt := 1125) (by decide) (fun hf => ?_) (fun hf => ?_)
          · exact v_sub [(0, .ref a0), (1, .ref a1), (2, .ref a2), (3, .int i3)] [0, 1, 2, 3] rfl (hk10 _ _ _ hf)
          · refine v_at 211 rfl ?_
            cases hf
        · rw [if_neg hx0] at hf
          by_cases hx1 : x9 = 1
          · rw [if_pos hx1] at hf
            refine v_tabIn hC dL_law_33 (by rw [hx1]; decide) (by rw [hx1]; decide) (off := 180) (by rw [hx1]; decide) (tgt := 213) (by decide) ?_
            refine v_aload_n hC 1 dL_law_213 rfl ?_
            refine v_aload_n hC 0 dL_law_214 rfl ?_
            refine v_iload_n hC 3 dL_law_215 rfl ?_
            refine v_iconst (v := 1) hC dL_law_216 (by decide) ?_
            refine v_iadd hC dL_law_217 ?_
            refine v_ldI hC hf dL_law_218 (fun x24 hf => ?_)
            refine v_aload_n hC 0 dL_law_219 rfl ?_
            refine v_iload_n hC 3 dL_law_220 rfl ?_
            refine v_at 221 rfl ?_
            refine v_iconst (v := 2) hC dL_law_221 (by decide) ?_
            refine v_iadd hC dL_law_222 ?_
            refine v_ldI hC hf dL_law_223 (fun x25 hf => ?_)
            refine v_aload_n hC 0 dL_law_224 rfl ?_
            refine v_iload_n hC 3 dL_law_225 rfl ?_
            refine v_iconst (v := 3) hC dL_law_226 (by decide) ?_
            refine v_iadd hC dL_law_227 ?_
            refine v_ldI hC hf dL_law_228 (fun x26 hf => ?_)
            refine v_at 229 rfl ?_
            refine v_jnE hf (fun z27 kr sr => V K (kr + ko) (sr + so) σ 237 [(0, .ref a0), (1, .ref a1), (2, .ref a2), (3, .int i3)] [.int z27, .int x25, .int x24, .ref a1]) (fun z27 _ _ hf => ?_) (fun k27 hk27 hf => ?_)
            · refine v_cVE hC (y := y_X5_copy) (ci := 5) [.int x24, .int x25, .int z27] [] (fun r => some (.int r)) (fun r => .int r :: []) hf (fun _ _ _ _ h => m_X5_copy h) rfl (fun _ => rfl) rfl rfl hR (Nat.le_of_ble_eq_true rfl) (Nat.le_of_ble_eq_true rfl) w_277 w_274 w_275 w_276 w_58 nm_X5_copy rfl (Nat.le_of_ble_eq_true rfl) dL_law_237 (fun x28 σ29 _ _ hf => ?_)
              refine v_aload_n hC 2 dL_law_240 rfl ?_
              refine v_aload_n hC 0 dL_law_241 rfl ?_
              refine v_iload_n hC 3 dL_law_242 rfl ?_
              refine v_iconst (v := 1) hC dL_law_243 (by decide) ?_
              refine v_iadd hC dL_law_244 ?_
              refine v_ldI hC hf dL_law_245 (fun x30 hf => ?_)
              refine v_aload_n hC 0 dL_law_246 rfl ?_
              refine v_at 247 rfl ?_
              refine v_iload_n hC 3 dL_law_247 rfl ?_
              refine v_iconst (v := 2) hC dL_law_248 (by decide) ?_
              refine v_iadd hC dL_law_249 ?_
              refine v_ldI hC hf dL_law_250 (fun x31 hf => ?_)
              refine v_aload_n hC 0 dL_law_251 rfl ?_
              refine v_iload_n hC 3 dL_law_252 rfl ?_
              refine v_iconst (v := 3) hC dL_law_253 (by decide) ?_
              refine v_iadd hC dL_law_254 ?_
              refine v_at 255 rfl ?_
              refine v_ldI hC hf dL_law_255 (fun x32 hf => ?_)
              refine v_jnE hf (fun z33 kr sr => V K (kr + ko) (sr + so) σ29 264 [(0, .ref a0), (1, .ref a1), (2, .ref a2), (3, .int i3)] [.int z33, .int x31, .int x30, .ref a2, .int x28]) (fun z33 _ _ hf => ?_) (fun k33 hk33 hf => ?_)
              · refine v_cVE hC (y := y_X6_copy) (ci := 6) [.int x30, .int x31, .int z33] [.int x28] (fun r => some (.int r)) (fun r => .int r :: [.int x28]) hf (fun _ _ _ _ h => m_X6_copy h) rfl (fun _ => rfl) rfl rfl hR (Nat.le_of_ble_eq_true rfl) (Nat.le_of_ble_eq_true rfl) w_709 w_706 w_707 w_708 w_64 nm_X6_copy rfl (Nat.le_of_ble_eq_true rfl) dL_law_264 (fun x34 σ35 _ _ hf => ?_)
                refine v_icmp_eq hC hf dL_law_267 (tgt := 1125) (by decide) (fun hf => ?_) (fun hf => ?_)
                · exact v_sub [(0, .ref a0), (1, .ref a1), (2, .ref a2), (3, .int i3)] [0, 1, 2, 3] rfl (hk10 _ _ _ hf)
                · refine v_at 270 rfl ?_
                  cases hf
              · refine v_if_eq hC hf dL_law_256 (tgt := 263) (by decide) (fun hf => ?_) (fun hf => ?_)
                · refine v_iconst (v := 0) hC dL_law_263 (by decide) ?_
                  refine v_at 264 rfl ?_
                  exact v_sub [(0, .ref a0), (1, .ref a1), (2, .ref a2), (3, .int i3)] [0, 1, 2, 3] rfl (hk33 _ _ _ hf)
                · refine v_at 259 rfl ?_
                  refine v_iconst (v := 1) hC dL_law_259 (by decide) ?_
                  refine v_goto (tgt := 264) hC dL_law_260 (by decide) ?_
                  exact v_sub [(0, .ref a0), (1, .ref a1), (2, .ref a2), (3, .int i3)] [0, 1, 2, 3] rfl (hk33 _ _ _ hf)
            · refine v_if_eq hC hf dL_law_229 (tgt := 236) (by decide) (fun hf => ?_) (fun hf => ?_)
              · refine v_iconst (v := 0) hC dL_law_236 (by decide) ?_
                refine v_at 237 rfl ?_
                exact v_sub [(0, .ref a0), (1, .ref a1), (2, .ref a2), (3, .int i3)] [0, 1, 2, 3] rfl (hk27 _ _ _ hf)
              · refine v_at 232 rfl ?_
                refine v_iconst (v := 1) hC dL_law_232 (by decide) ?_
                refine v_goto (tgt := 237) hC dL_law_233 (by decide) ?_
                exact v_sub [(0, .ref a0), (1, .ref a1), (2, .ref a2), (3, .int i3)] [0, 1, 2, 3] rfl (hk27 _ _ _ hf)
          · rw [if_neg hx1] at hf
            by_cases hx2 : x9 = 2
            · rw [if_pos hx2] at hf
              refine v_tabIn hC dL_law_33 (by rw [hx2]; decide) (by rw [hx2]; decide) (off := 239) (by rw [hx2]; decide) (tgt := 272) (by decide) ?_
              refine v_aload_n hC 1 dL_law_272 rfl ?_
              refine v_aload_n hC 0 dL_law_273 rfl ?_
              refine v_iload_n hC 3 dL_law_274 rfl ?_
              refine v_iconst (v := 1) hC dL_law_275 (by decide) ?_
              refine v_iadd hC dL_law_276 ?_
              refine v_ldI hC hf dL_law_277 (fun x36 hf => ?_)
              refine v_aload_n hC 0 dL_law_278 rfl ?_
              refine v_iload_n hC 3 dL_law_279 rfl ?_
              refine v_at 280 rfl ?_
              refine v_iconst (v := 2) hC dL_law_280 (by decide) ?_
              refine v_iadd hC dL_law_281 ?_
              refine v_ldI hC hf dL_law_282 (fun x37 hf => ?_)
              refine v_aload_n hC 0 dL_law_283 rfl ?_
              refine v_iload_n hC 3 dL_law_284 rfl ?_
              refine v_iconst (v := 3) hC dL_law_285 (by decide) ?_
              refine v_iadd hC dL_law_286 ?_
              refine v_ldI hC hf dL_law_287 (fun x38 hf => ?_)
              refine v_at 288 rfl ?_
              refine v_cVE hC (y := y_X5_add) (ci := 5) [.int x36, .int x37, .int x38] [] (fun r => some (.int r)) (fun r => .int r :: []) hf (fun _ _ _ _ h => m_X5_add h) rfl (fun _ => rfl) rfl rfl hR (Nat.le_of_ble_eq_true rfl) (Nat.le_of_ble_eq_true rfl) w_281 w_278 w_279 w_280 w_58 nm_X5_add rfl (Nat.le_of_ble_eq_true rfl) dL_law_288 (fun x39 σ40 _ _ hf => ?_)
              refine v_aload_n hC 2 dL_law_291 rfl ?_
              refine v_aload_n hC 0 dL_law_292 rfl ?_
              refine v_iload_n hC 3 dL_law_293 rfl ?_
              refine v_iconst (v := 1) hC dL_law_294 (by decide) ?_
              refine v_iadd hC dL_law_295 ?_
              refine v_ldI hC hf dL_law_296 (fun x41 hf => ?_)
              refine v_aload_n hC 0 dL_law_297 rfl ?_
              refine v_at 298 rfl ?_
              refine v_iload_n hC 3 dL_law_298 rfl ?_
              refine v_iconst (v := 2) hC dL_law_299 (by decide) ?_
              refine v_iadd hC dL_law_300 ?_
              refine v_ldI hC hf dL_law_301 (fun x42 hf => ?_)
              refine v_aload_n hC 0 dL_law_302 rfl ?_
              refine v_iload_n hC 3 dL_law_303 rfl ?_
              refine v_iconst (v := 3) hC dL_law_304 (by decide) ?_
              refine v_iadd hC dL_law_305 ?_
              refine v_at 306 rfl ?_
              refine v_ldI hC hf dL_law_306 (fun x43 hf => ?_)
              refine v_cVE hC (y := y_X6_add) (ci := 6) [.int x41, .int x42, .int x43] [.int x39] (fun r => some (.int r)) (fun r => .int r :: [.int x39]) hf (fun _ _ _ _ h => m_X6_add h) rfl (fun _ => rfl) rfl rfl hR (Nat.le_of_ble_eq_true rfl) (Nat.le_of_ble_eq_true rfl) w_717 w_714 w_715 w_716 w_64 nm_X6_add rfl (Nat.le_of_ble_eq_true rfl) dL_law_307 (fun x44 σ45 _ _ hf => ?_)
              refine v_icmp_eq hC hf dL_law_310 (tgt := 1125) (by decide) (fun hf => ?_) (fun hf => ?_)
              · exact v_sub [(0, .ref a0), (1, .ref a1), (2, .ref a2), (3, .int i3)] [0, 1, 2, 3] rfl (hk10 _ _ _ hf)
              · refine v_at 313 rfl ?_
                cases hf
            · rw [if_neg hx2] at hf
              by_cases hx3 : x9 = 3
              · rw [if_pos hx3] at hf
                refine v_tabIn hC dL_law_33 (by rw [hx3]; decide) (by rw [hx3]; decide) (off := 282) (by rw [hx3]; decide) (tgt := 315) (by decide) ?_
                refine v_aload_n hC 1 dL_law_315 rfl ?_
                refine v_aload_n hC 0 dL_law_316 rfl ?_
                refine v_iload_n hC 3 dL_law_317 rfl ?_
                refine v_iconst (v := 1) hC dL_law_318 (by decide) ?_
                refine v_iadd hC dL_law_319 ?_
                refine v_ldI hC hf dL_law_320 (fun x46 hf => ?_)
                refine v_aload_n hC 0 dL_law_321 rfl ?_
                refine v_iload_n hC 3 dL_law_322 rfl ?_
                refine v_at 323 rfl ?_
                refine v_iconst (v := 2) hC dL_law_323 (by decide) ?_
                refine v_iadd hC dL_law_324 ?_
                refine v_ldI hC hf dL_law_325 (fun x47 hf => ?_)
                refine v_aload_n hC 0 dL_law_326 rfl ?_
                refine v_iload_n hC 3 dL_law_327 rfl ?_
                refine v_iconst (v := 3) hC dL_law_328 (by decide) ?_
                refine v_iadd hC dL_law_329 ?_
                refine v_ldI hC hf dL_law_330 (fun x48 hf => ?_)
                refine v_at 331 rfl ?_
                refine v_cVE hC (y := y_X5_take) (ci := 5) [.int x46, .int x47, .int x48] [] (fun r => some (.int r)) (fun r => .int r :: []) hf (fun _ _ _ _ h => m_X5_take h) rfl (fun _ => rfl) rfl rfl hR (Nat.le_of_ble_eq_true rfl) (Nat.le_of_ble_eq_true rfl) w_323 w_320 w_321 w_322 w_58 nm_X5_take rfl (Nat.le_of_ble_eq_true rfl) dL_law_331 (fun x49 σ50 _ _ hf => ?_)
                refine v_aload_n hC 2 dL_law_334 rfl ?_
                refine v_aload_n hC 0 dL_law_335 rfl ?_
                refine v_iload_n hC 3 dL_law_336 rfl ?_
                refine v_iconst (v := 1) hC dL_law_337 (by decide) ?_
                refine v_iadd hC dL_law_338 ?_
                refine v_ldI hC hf dL_law_339 (fun x51 hf => ?_)
                refine v_aload_n hC 0 dL_law_340 rfl ?_
                refine v_at 341 rfl ?_
                refine v_iload_n hC 3 dL_law_341 rfl ?_
                refine v_iconst (v := 2) hC dL_law_342 (by decide) ?_
                refine v_iadd hC dL_law_343 ?_
                refine v_ldI hC hf dL_law_344 (fun x52 hf => ?_)
                refine v_aload_n hC 0 dL_law_345 rfl ?_
                refine v_iload_n hC 3 dL_law_346 rfl ?_
                refine v_iconst (v := 3) hC dL_law_347 (by decide) ?_
                refine v_iadd hC dL_law_348 ?_
                refine v_at 349 rfl ?_
                refine v_ldI hC hf dL_law_349 (fun x53 hf => ?_)
                refine v_cVE hC (y := y_X6_take) (ci := 6) [.int x51, .int x52, .int x53] [.int x49] (fun r => some (.int r)) (fun r => .int r :: [.int x49]) hf (fun _ _ _ _ h => m_X6_take h) rfl (fun _ => rfl) rfl rfl hR (Nat.le_of_ble_eq_true rfl) (Nat.le_of_ble_eq_true rfl) w_746 w_743 w_744 w_745 w_64 nm_X6_take rfl (Nat.le_of_ble_eq_true rfl) dL_law_350 (fun x54 σ55 _ _ hf => ?_)
                refine v_icmp_eq hC hf dL_law_353 (tgt := 1125) (by decide) (fun hf => ?_) (fun hf => ?_)
                · exact v_sub [(0, .ref a0), (1, .ref a1), (2, .ref a2), (3, .int i3)] [0, 1, 2, 3] rfl (hk10 _ _ _ hf)
                · refine v_at 356 rfl ?_
                  cases hf
              · rw [if_neg hx3] at hf
                by_cases hx4 : x9 = 4
                · rw [if_pos hx4] at hf
                  refine v_tabIn hC dL_law_33 (by rw [hx4]; decide) (by rw [hx4]; decide) (off := 325) (by rw [hx4]; decide) (tgt := 358) (by decide) ?_
                  refine v_aload_n hC 1 dL_law_358 rfl ?_
                  refine v_aload_n hC 0 dL_law_359 rfl ?_
                  refine v_iload_n hC 3 dL_law_360 rfl ?_
                  refine v_iconst (v := 1) hC dL_law_361 (by decide) ?_
                  refine v_iadd hC dL_law_362 ?_
                  refine v_ldI hC hf dL_law_363 (fun x56 hf => ?_)
                  refine v_aload_n hC 0 dL_law_364 rfl ?_
                  refine v_iload_n hC 3 dL_law_365 rfl ?_
                  refine v_at 366 rfl ?_
                  refine v_iconst (v := 2) hC dL_law_366 (by decide) ?_
                  refine v_iadd hC dL_law_367 ?_
                  refine v_ldI hC hf dL_law_368 (fun x57 hf => ?_)
                  refine v_aload_n hC 0 dL_law_369 rfl ?_
                  refine v_iload_n hC 3 dL_law_370 rfl ?_
                  refine v_iconst (v := 3) hC dL_law_371 (by decide) ?_
                  refine v_iadd hC dL_law_372 ?_
                  refine v_ldI hC hf dL_law_373 (fun x58 hf => ?_)
                  refine v_at 374 rfl ?_
                  refine v_cVE hC (y := y_X5_times) (ci := 5) [.int x56, .int x57, .int x58] [] (fun r => some (.int r)) (fun r => .int r :: []) hf (fun _ _ _ _ h => m_X5_times h) rfl (fun _ => rfl) rfl rfl hR (Nat.le_of_ble_eq_true rfl) (Nat.le_of_ble_eq_true rfl) w_327 w_324 w_325 w_326 w_58 nm_X5_times rfl (Nat.le_of_ble_eq_true rfl) dL_law_374 (fun x59 σ60 _ _ hf => ?_)
                  refine v_aload_n hC 2 dL_law_377 rfl ?_
                  refine v_aload_n hC 0 dL_law_378 rfl ?_
                  refine v_iload_n hC 3 dL_law_379 rfl ?_
                  refine v_iconst (v := 1) hC dL_law_380 (by decide) ?_
                  refine v_iadd hC dL_law_381 ?_
                  refine v_ldI hC hf dL_law_382 (fun x61 hf => ?_)
                  refine v_aload_n hC 0 dL_law_383 rfl ?_
                  refine v_at 384 rfl ?_
                  refine v_iload_n hC 3 dL_law_384 rfl ?_
                  refine v_iconst (v := 2) hC dL_law_385 (by decide) ?_
                  refine v_iadd hC dL_law_386 ?_
                  refine v_ldI hC hf dL_law_387 (fun x62 hf => ?_)
                  refine v_aload_n hC 0 dL_law_388 rfl ?_
                  refine v_iload_n hC 3 dL_law_389 rfl ?_
                  refine v_iconst (v := 3) hC dL_law_390 (by decide) ?_
                  refine v_iadd hC dL_law_391 ?_
                  refine v_at 392 rfl ?_
                  refine v_ldI hC hf dL_law_392 (fun x63 hf => ?_)
                  refine v_cVE hC (y := y_X6_times) (ci := 6) [.int x61, .int x62, .int x63] [.int x59] (fun r => some (.int r)) (fun r => .int r :: [.int x59]) hf (fun _ _ _ _ h => m_X6_times h) rfl (fun _ => rfl) rfl rfl hR (Nat.le_of_ble_eq_true rfl) (Nat.le_of_ble_eq_true rfl) w_750 w_747 w_748 w_749 w_64 nm_X6_times rfl (Nat.le_of_ble_eq_true rfl) dL_law_393 (fun x64 σ65 _ _ hf => ?_)
                  refine v_icmp_eq hC hf dL_law_396 (tgt := 1125) (by decide) (fun hf => ?_) (fun hf => ?_)
                  · exact v_sub [(0, .ref a0), (1, .ref a1), (2, .ref a2), (3, .int i3)] [0, 1, 2, 3] rfl (hk10 _ _ _ hf)
                  · refine v_at 399 rfl ?_
                    cases hf
                · rw [if_neg hx4] at hf
                  by_cases hx5 : x9 = 5
                  · rw [if_pos hx5] at hf
                    refine v_tabIn hC dL_law_33 (by rw [hx5]; decide) (by rw [hx5]; decide) (off := 368) (by rw [hx5]; decide) (tgt := 401) (by decide) ?_
                    refine v_aload_n hC 1 dL_law_401 rfl ?_
                    refine v_aload_n hC 0 dL_law_402 rfl ?_
                    refine v_iload_n hC 3 dL_law_403 rfl ?_
                    refine v_iconst (v := 1) hC dL_law_404 (by decide) ?_
                    refine v_iadd hC dL_law_405 ?_
                    refine v_ldI hC hf dL_law_406 (fun x66 hf => ?_)
                    refine v_aload_n hC 0 dL_law_407 rfl ?_
                    refine v_iload_n hC 3 dL_law_408 rfl ?_
                    refine v_at 409 rfl ?_
                    refine v_iconst (v := 2) hC dL_law_409 (by decide) ?_
                    refine v_iadd hC dL_law_410 ?_
                    refine v_ldI hC hf dL_law_411 (fun x67 hf => ?_)
                    refine v_aload_n hC 0 dL_law_412 rfl ?_
                    refine v_iload_n hC 3 dL_law_413 rfl ?_
                    refine v_iconst (v := 3) hC dL_law_414 (by decide) ?_
                    refine v_iadd hC dL_law_415 ?_
                    refine v_ldI hC hf dL_law_416 (fun x68 hf => ?_)
                    refine v_at 417 rfl ?_
                    refine v_cVE hC (y := y_X5_power) (ci := 5) [.int x66, .int x67, .int x68] [] (fun r => some (.int r)) (fun r => .int r :: []) hf (fun _ _ _ _ h => m_X5_power h) rfl (fun _ => rfl) rfl rfl hR (Nat.le_of_ble_eq_true rfl) (Nat.le_of_ble_eq_true rfl) w_342 w_339 w_340 w_341 w_58 nm_X5_power rfl (Nat.le_of_ble_eq_true rfl) dL_law_417 (fun x69 σ70 _ _ hf => ?_)
                    refine v_aload_n hC 2 dL_law_420 rfl ?_
                    refine v_aload_n hC 0 dL_law_421 rfl ?_
                    refine v_iload_n hC 3 dL_law_422 rfl ?_
                    refine v_iconst (v := 1) hC dL_law_423 (by decide) ?_
                    refine v_iadd hC dL_law_424 ?_
                    refine v_ldI hC hf dL_law_425 (fun x71 hf => ?_)
                    refine v_aload_n hC 0 dL_law_426 rfl ?_
                    refine v_at 427 rfl ?_
                    refine v_iload_n hC 3 dL_law_427 rfl ?_
                    refine v_iconst (v := 2) hC dL_law_428 (by decide) ?_
                    refine v_iadd hC dL_law_429 ?_
                    refine v_ldI hC hf dL_law_430 (fun x72 hf => ?_)
                    refine v_aload_n hC 0 dL_law_431 rfl ?_
                    refine v_iload_n hC 3 dL_law_432 rfl ?_
                    refine v_iconst (v := 3) hC dL_law_433 (by decide) ?_
                    refine v_iadd hC dL_law_434 ?_
                    refine v_at 435 rfl ?_
                    refine v_ldI hC hf dL_law_435 (fun x73 hf => ?_)
                    refine v_cVE hC (y := y_X6_power) (ci := 6) [.int x71, .int x72, .int x73] [.int x69] (fun r => some (.int r)) (fun r => .int r :: [.int x69]) hf (fun _ _ _ _ h => m_X6_power h) rfl (fun _ => rfl) rfl rfl hR (Nat.le_of_ble_eq_true rfl) (Nat.le_of_ble_eq_true rfl) w_759 w_756 w_757 w_758 w_64 nm_X6_power rfl (Nat.le_of_ble_eq_true rfl) dL_law_436 (fun x74 σ75 _ _ hf => ?_)
                    refine v_icmp_eq hC hf dL_law_439 (tgt := 1125) (by decide) (fun hf => ?_) (fun hf => ?_)
                    · exact v_sub [(0, .ref a0), (1, .ref a1), (2, .ref a2), (3, .int i3)] [0, 1, 2, 3] rfl (hk10 _ _ _ hf)
                    · refine v_at 442 rfl ?_
                      cases hf
                  · rw [if_neg hx5] at hf
                    by_cases hx6 : x9 = 6
                    · rw [if_pos hx6] at hf
                      refine v_tabIn hC dL_law_33 (by rw [hx6]; decide) (by rw [hx6]; decide) (off := 411) (by rw [hx6]; decide) (tgt := 444) (by decide) ?_
                      refine v_aload_n hC 1 dL_law_444 rfl ?_
                      refine v_aload_n hC 0 dL_law_445 rfl ?_
                      refine v_iload_n hC 3 dL_law_446 rfl ?_
                      refine v_iconst (v := 1) hC dL_law_447 (by decide) ?_
                      refine v_iadd hC dL_law_448 ?_
                      refine v_ldI hC hf dL_law_449 (fun x76 hf => ?_)
                      refine v_aload_n hC 0 dL_law_450 rfl ?_
                      refine v_iload_n hC 3 dL_law_451 rfl ?_
                      refine v_at 452 rfl ?_
                      refine v_iconst (v := 2) hC dL_law_452 (by decide) ?_
                      refine v_iadd hC dL_law_453 ?_
                      refine v_ldI hC hf dL_law_454 (fun x77 hf => ?_)
                      refine v_aload_n hC 0 dL_law_455 rfl ?_
                      refine v_iload_n hC 3 dL_law_456 rfl ?_
                      refine v_iconst (v := 3) hC dL_law_457 (by decide) ?_
                      refine v_iadd hC dL_law_458 ?_
                      refine v_ldI hC hf dL_law_459 (fun x78 hf => ?_)
                      refine v_at 460 rfl ?_
                      refine v_aload_n hC 0 dL_law_460 rfl ?_
                      refine v_iload_n hC 3 dL_law_461 rfl ?_
                      refine v_iconst (v := 4) hC dL_law_462 (by decide) ?_
                      refine v_iadd hC dL_law_463 ?_
                      refine v_ldI hC hf dL_law_464 (fun x79 hf => ?_)
                      refine v_aload_n hC 0 dL_law_465 rfl ?_
                      refine v_iload_n hC 3 dL_law_466 rfl ?_
                      refine v_iconst (v := 5) hC dL_law_467 (by decide) ?_
                      refine v_at 468 rfl ?_
                      refine v_iadd hC dL_law_468 ?_
                      refine v_ldI hC hf dL_law_469 (fun x80 hf => ?_)
                      refine v_cVE hC (y := y_X5_divide) (ci := 5) [.int x76, .int x77, .int x78, .int x79, .int x80] [] (fun r => some (.int r)) (fun r => .int r :: []) hf (fun _ _ _ _ h => m_X5_divide h) rfl (fun _ => rfl) rfl rfl hR (Nat.le_of_ble_eq_true rfl) (Nat.le_of_ble_eq_true rfl) w_360 w_357 w_358 w_359 w_58 nm_X5_divide rfl (Nat.le_of_ble_eq_true rfl) dL_law_470 (fun x81 σ82 _ _ hf => ?_)
                      refine v_aload_n hC 2 dL_law_473 rfl ?_
                      refine v_aload_n hC 0 dL_law_474 rfl ?_
                      refine v_iload_n hC 3 dL_law_475 rfl ?_
                      refine v_iconst (v := 1) hC dL_law_476 (by decide) ?_
                      refine v_iadd hC dL_law_477 ?_
                      refine v_at 478 rfl ?_
                      refine v_ldI hC hf dL_law_478 (fun x83 hf => ?_)
                      refine v_aload_n hC 0 dL_law_479 rfl ?_
                      refine v_iload_n hC 3 dL_law_480 rfl ?_
                      refine v_iconst (v := 2) hC dL_law_481 (by decide) ?_
                      refine v_iadd hC dL_law_482 ?_
                      refine v_ldI hC hf dL_law_483 (fun x84 hf => ?_)
                      refine v_aload_n hC 0 dL_law_484 rfl ?_
                      refine v_iload_n hC 3 dL_law_485 rfl ?_
                      refine v_at 486 rfl ?_
                      refine v_iconst (v := 3) hC dL_law_486 (by decide) ?_
                      refine v_iadd hC dL_law_487 ?_
                      refine v_ldI hC hf dL_law_488 (fun x85 hf => ?_)
                      refine v_aload_n hC 0 dL_law_489 rfl ?_
                      refine v_iload_n hC 3 dL_law_490 rfl ?_
                      refine v_iconst (v := 4) hC dL_law_491 (by decide) ?_
                      refine v_iadd hC dL_law_492 ?_
                      refine v_ldI hC hf dL_law_493 (fun x86 hf => ?_)
                      refine v_at 494 rfl ?_
                      refine v_aload_n hC 0 dL_law_494 rfl ?_
                      refine v_iload_n hC 3 dL_law_495 rfl ?_
                      refine v_iconst (v := 5) hC dL_law_496 (by decide) ?_
                      refine v_iadd hC dL_law_497 ?_
                      refine v_ldI hC hf dL_law_498 (fun x87 hf => ?_)
                      refine v_cVE hC (y := y_X6_divide) (ci := 6) [.int x83, .int x84, .int x85, .int x86, .int x87] [.int x81] (fun r => some (.int r)) (fun r => .int r :: [.int x81]) hf (fun _ _ _ _ h => m_X6_divide h) rfl (fun _ => rfl) rfl rfl hR (Nat.le_of_ble_eq_true rfl) (Nat.le_of_ble_eq_true rfl) w_763 w_760 w_761 w_762 w_64 nm_X6_divide rfl (Nat.le_of_ble_eq_true rfl) dL_law_499 (fun x88 σ89 _ _ hf => ?_)
                      refine v_icmp_eq hC hf dL_law_502 (tgt := 1125) (by decide) (fun hf => ?_) (fun hf => ?_)
                      · exact v_sub [(0, .ref a0), (1, .ref a1), (2, .ref a2), (3, .int i3)] [0, 1, 2, 3] rfl (hk10 _ _ _ hf)
                      · refine v_at 505 rfl ?_
                        cases hf
                    · rw [if_neg hx6] at hf
                      by_cases hx7 : x9 = 7
                      · rw [if_pos hx7] at hf
                        refine v_tabIn hC dL_law_33 (by rw [hx7]; decide) (by rw [hx7]; decide) (off := 474) (by rw [hx7]; decide) (tgt := 507) (by decide) ?_
                        refine v_aload_n hC 1 dL_law_507 rfl ?_
                        refine v_aload_n hC 0 dL_law_508 rfl ?_
                        refine v_iload_n hC 3 dL_law_509 rfl ?_
                        refine v_iconst (v := 1) hC dL_law_510 (by decide) ?_
                        refine v_iadd hC dL_law_511 ?_
                        refine v_ldI hC hf dL_law_512 (fun x90 hf => ?_)
                        refine v_aload_n hC 0 dL_law_513 rfl ?_
                        refine v_iload_n hC 3 dL_law_514 rfl ?_
                        refine v_at 515 rfl ?_
                        refine v_iconst (v := 2) hC dL_law_515 (by decide) ?_
                        refine v_iadd hC dL_law_516 ?_
                        refine v_ldI hC hf dL_law_517 (fun x91 hf => ?_)
                        refine v_aload_n hC 0 dL_law_518 rfl ?_
                        refine v_iload_n hC 3 dL_law_519 rfl ?_
                        refine v_iconst (v := 3) hC dL_law_520 (by decide) ?_
                        refine v_iadd hC dL_law_521 ?_
                        refine v_ldI hC hf dL_law_522 (fun x92 hf => ?_)
                        refine v_at 523 rfl ?_
                        refine v_aload_n hC 0 dL_law_523 rfl ?_
                        refine v_iload_n hC 3 dL_law_524 rfl ?_
                        refine v_iconst (v := 4) hC dL_law_525 (by decide) ?_
                        refine v_iadd hC dL_law_526 ?_
                        refine v_ldI hC hf dL_law_527 (fun x93 hf => ?_)
                        refine v_aload_n hC 0 dL_law_528 rfl ?_
                        refine v_iload_n hC 3 dL_law_529 rfl ?_
                        refine v_iconst (v := 5) hC dL_law_530 (by decide) ?_
                        refine v_at 531 rfl ?_
                        refine v_iadd hC dL_law_531 ?_
                        refine v_ldI hC hf dL_law_532 (fun x94 hf => ?_)
                        refine v_cVE hC (y := y_X5_ratio) (ci := 5) [.int x90, .int x91, .int x92, .int x93, .int x94] [] (fun r => some (.int r)) (fun r => .int r :: []) hf (fun _ _ _ _ h => m_X5_ratio h) rfl (fun _ => rfl) rfl rfl hR (Nat.le_of_ble_eq_true rfl) (Nat.le_of_ble_eq_true rfl) w_439 w_436 w_437 w_438 w_58 nm_X5_ratio rfl (Nat.le_of_ble_eq_true rfl) dL_law_533 (fun x95 σ96 _ _ hf => ?_)
                        refine v_aload_n hC 2 dL_law_536 rfl ?_
                        refine v_aload_n hC 0 dL_law_537 rfl ?_
                        refine v_iload_n hC 3 dL_law_538 rfl ?_
                        refine v_iconst (v := 1) hC dL_law_539 (by decide) ?_
                        refine v_iadd hC dL_law_540 ?_
                        refine v_at 541 rfl ?_
                        refine v_ldI hC hf dL_law_541 (fun x97 hf => ?_)
                        refine v_aload_n hC 0 dL_law_542 rfl ?_
                        refine v_iload_n hC 3 dL_law_543 rfl ?_
                        refine v_iconst (v := 2) hC dL_law_544 (by decide) ?_
                        refine v_iadd hC dL_law_545 ?_
                        refine v_ldI hC hf dL_law_546 (fun x98 hf => ?_)
                        refine v_aload_n hC 0 dL_law_547 rfl ?_
                        refine v_iload_n hC 3 dL_law_548 rfl ?_
                        refine v_at 549 rfl ?_
                        refine v_iconst (v := 3) hC dL_law_549 (by decide) ?_
                        refine v_iadd hC dL_law_550 ?_
                        refine v_ldI hC hf dL_law_551 (fun x99 hf => ?_)
                        refine v_aload_n hC 0 dL_law_552 rfl ?_
                        refine v_iload_n hC 3 dL_law_553 rfl ?_
                        refine v_iconst (v := 4) hC dL_law_554 (by decide) ?_
                        refine v_iadd hC dL_law_555 ?_
                        refine v_ldI hC hf dL_law_556 (fun x100 hf => ?_)
                        refine v_at 557 rfl ?_
                        refine v_aload_n hC 0 dL_law_557 rfl ?_
                        refine v_iload_n hC 3 dL_law_558 rfl ?_
                        refine v_iconst (v := 5) hC dL_law_559 (by decide) ?_
                        refine v_iadd hC dL_law_560 ?_
                        refine v_ldI hC hf dL_law_561 (fun x101 hf => ?_)
                        refine v_cVE hC (y := y_X6_ratio) (ci := 6) [.int x97, .int x98, .int x99, .int x100, .int x101] [.int x95] (fun r => some (.int r)) (fun r => .int r :: [.int x95]) hf (fun _ _ _ _ h => m_X6_ratio h) rfl (fun _ => rfl) rfl rfl hR (Nat.le_of_ble_eq_true rfl) (Nat.le_of_ble_eq_true rfl) w_797 w_794 w_795 w_796 w_64 nm_X6_ratio rfl (Nat.le_of_ble_eq_true rfl) dL_law_562 (fun x102 σ103 _ _ hf => ?_)
                        refine v_icmp_eq hC hf dL_law_565 (tgt := 1125) (by decide) (fun hf => ?_) (fun hf => ?_)
                        · exact v_sub [(0, .ref a0), (1, .ref a1), (2, .ref a2), (3, .int i3)] [0, 1, 2, 3] rfl (hk10 _ _ _ hf)
                        · refine v_at 568 rfl ?_
                          cases hf
                      · rw [if_neg hx7] at hf
                        by_cases hx8 : x9 = 8
                        · rw [if_pos hx8] at hf
                          refine v_tabIn hC dL_law_33 (by rw [hx8]; decide) (by rw [hx8]; decide) (off := 537) (by rw [hx8]; decide) (tgt := 570) (by decide) ?_
                          refine v_aload_n hC 1 dL_law_570 rfl ?_
                          refine v_aload_n hC 0 dL_law_571 rfl ?_
                          refine v_iload_n hC 3 dL_law_572 rfl ?_
                          refine v_iconst (v := 1) hC dL_law_573 (by decide) ?_
                          refine v_iadd hC dL_law_574 ?_
                          refine v_ldI hC hf dL_law_575 (fun x104 hf => ?_)
                          refine v_aload_n hC 0 dL_law_576 rfl ?_
                          refine v_iload_n hC 3 dL_law_577 rfl ?_
                          refine v_at 578 rfl ?_
                          refine v_iconst (v := 2) hC dL_law_578 (by decide) ?_
                          refine v_iadd hC dL_law_579 ?_
                          refine v_ldI hC hf dL_law_580 (fun x105 hf => ?_)
                          refine v_aload_n hC 0 dL_law_581 rfl ?_
                          refine v_iload_n hC 3 dL_law_582 rfl ?_
                          refine v_iconst (v := 3) hC dL_law_583 (by decide) ?_
                          refine v_iadd hC dL_law_584 ?_
                          refine v_ldI hC hf dL_law_585 (fun x106 hf => ?_)
                          refine v_at 586 rfl ?_
                          refine v_aload_n hC 0 dL_law_586 rfl ?_
                          refine v_iload_n hC 3 dL_law_587 rfl ?_
                          refine v_iconst (v := 4) hC dL_law_588 (by decide) ?_
                          refine v_iadd hC dL_law_589 ?_
                          refine v_ldI hC hf dL_law_590 (fun x107 hf => ?_)
                          refine v_cVE hC (y := y_X5_whole) (ci := 5) [.int x104, .int x105, .int x106, .int x107] [] (fun r => some (.int r)) (fun r => .int r :: []) hf (fun _ _ _ _ h => m_X5_whole h) rfl (fun _ => rfl) rfl rfl hR (Nat.le_of_ble_eq_true rfl) (Nat.le_of_ble_eq_true rfl) w_464 w_461 w_462 w_463 w_58 nm_X5_whole rfl (Nat.le_of_ble_eq_true rfl) dL_law_591 (fun x108 σ109 _ _ hf => ?_)
                          refine v_aload_n hC 2 dL_law_594 rfl ?_
                          refine v_aload_n hC 0 dL_law_595 rfl ?_
                          refine v_at 596 rfl ?_
                          refine v_iload_n hC 3 dL_law_596 rfl ?_
                          refine v_iconst (v := 1) hC dL_law_597 (by decide) ?_
                          refine v_iadd hC dL_law_598 ?_
                          refine v_ldI hC hf dL_law_599 (fun x110 hf => ?_)
                          refine v_aload_n hC 0 dL_law_600 rfl ?_
                          refine v_iload_n hC 3 dL_law_601 rfl ?_
                          refine v_iconst (v := 2) hC dL_law_602 (by decide) ?_
                          refine v_iadd hC dL_law_603 ?_
                          refine v_at 604 rfl ?_
                          refine v_ldI hC hf dL_law_604 (fun x111 hf => ?_)
                          refine v_aload_n hC 0 dL_law_605 rfl ?_
                          refine v_iload_n hC 3 dL_law_606 rfl ?_
                          refine v_iconst (v := 3) hC dL_law_607 (by decide) ?_
                          refine v_iadd hC dL_law_608 ?_
                          refine v_ldI hC hf dL_law_609 (fun x112 hf => ?_)
                          refine v_aload_n hC 0 dL_law_610 rfl ?_
                          refine v_iload_n hC 3 dL_law_611 rfl ?_
                          refine v_at 612 rfl ?_
                          refine v_iconst (v := 4) hC dL_law_612 (by decide) ?_
                          refine v_iadd hC dL_law_613 ?_
                          refine v_ldI hC hf dL_law_614 (fun x113 hf => ?_)
                          refine v_cVE hC (y := y_X6_whole) (ci := 6) [.int x110, .int x111, .int x112, .int x113] [.int x108] (fun r => some (.int r)) (fun r => .int r :: [.int x108]) hf (fun _ _ _ _ h => m_X6_whole h) rfl (fun _ => rfl) rfl rfl hR (Nat.le_of_ble_eq_true rfl) (Nat.le_of_ble_eq_true rfl) w_824 w_821 w_822 w_823 w_64 nm_X6_whole rfl (Nat.le_of_ble_eq_true rfl) dL_law_615 (fun x114 σ115 _ _ hf => ?_)
                          refine v_icmp_eq hC hf dL_law_618 (tgt := 1125) (by decide) (fun hf => ?_) (fun hf => ?_)
                          · exact v_sub [(0, .ref a0), (1, .ref a1), (2, .ref a2), (3, .int i3)] [0, 1, 2, 3] rfl (hk10 _ _ _ hf)
                          · refine v_at 621 rfl ?_
                            cases hf
                        · rw [if_neg hx8] at hf
                          by_cases hx9 : x9 = 9
                          · rw [if_pos hx9] at hf
                            refine v_tabIn hC dL_law_33 (by rw [hx9]; decide) (by rw [hx9]; decide) (off := 590) (by rw [hx9]; decide) (tgt := 623) (by decide) ?_
                            refine v_aload_n hC 1 dL_law_623 rfl ?_
                            refine v_aload_n hC 0 dL_law_624 rfl ?_
                            refine v_iload_n hC 3 dL_law_625 rfl ?_
                            refine v_iconst (v := 1) hC dL_law_626 (by decide) ?_
                            refine v_iadd hC dL_law_627 ?_
                            refine v_ldI hC hf dL_law_628 (fun x116 hf => ?_)
                            refine v_aload_n hC 0 dL_law_629 rfl ?_
                            refine v_iload_n hC 3 dL_law_630 rfl ?_
                            refine v_at 631 rfl ?_
                            refine v_iconst (v := 2) hC dL_law_631 (by decide) ?_
                            refine v_iadd hC dL_law_632 ?_
                            refine v_ldI hC hf dL_law_633 (fun x117 hf => ?_)
                            refine v_aload_n hC 0 dL_law_634 rfl ?_
                            refine v_iload_n hC 3 dL_law_635 rfl ?_
                            refine v_iconst (v := 3) hC dL_law_636 (by decide) ?_
                            refine v_iadd hC dL_law_637 ?_
                            refine v_ldI hC hf dL_law_638 (fun x118 hf => ?_)
                            refine v_at 639 rfl ?_
                            refine v_aload_n hC 0 dL_law_639 rfl ?_
                            refine v_iload_n hC 3 dL_law_640 rfl ?_
                            refine v_iconst (v := 4) hC dL_law_641 (by decide) ?_
                            refine v_iadd hC dL_law_642 ?_
                            refine v_ldI hC hf dL_law_643 (fun x119 hf => ?_)
                            refine v_cVE hC (y := y_X5_root) (ci := 5) [.int x116, .int x117, .int x118, .int x119] [] (fun r => some (.int r)) (fun r => .int r :: []) hf (fun _ _ _ _ h => m_X5_root h) rfl (fun _ => rfl) rfl rfl hR (Nat.le_of_ble_eq_true rfl) (Nat.le_of_ble_eq_true rfl) w_476 w_473 w_474 w_475 w_58 nm_X5_root rfl (Nat.le_of_ble_eq_true rfl) dL_law_644 (fun x120 σ121 _ _ hf => ?_)
                            refine v_aload_n hC 2 dL_law_647 rfl ?_
                            refine v_aload_n hC 0 dL_law_648 rfl ?_
                            refine v_at 649 rfl ?_
                            refine v_iload_n hC 3 dL_law_649 rfl ?_
                            refine v_iconst (v := 1) hC dL_law_650 (by decide) ?_
                            refine v_iadd hC dL_law_651 ?_
                            refine v_ldI hC hf dL_law_652 (fun x122 hf => ?_)
                            refine v_aload_n hC 0 dL_law_653 rfl ?_
                            refine v_iload_n hC 3 dL_law_654 rfl ?_
                            refine v_iconst (v := 2) hC dL_law_655 (by decide) ?_
                            refine v_iadd hC dL_law_656 ?_
                            refine v_at 657 rfl ?_
                            refine v_ldI hC hf dL_law_657 (fun x123 hf => ?_)
                            refine v_aload_n hC 0 dL_law_658 rfl ?_
                            refine v_iload_n hC 3 dL_law_659 rfl ?_
                            refine v_iconst (v := 3) hC dL_law_660 (by decide) ?_
                            refine v_iadd hC dL_law_661 ?_
                            refine v_ldI hC hf dL_law_662 (fun x124 hf => ?_)
                            refine v_aload_n hC 0 dL_law_663 rfl ?_
                            refine v_iload_n hC 3 dL_law_664 rfl ?_
                            refine v_at 665 rfl ?_
                            refine v_iconst (v := 4) hC dL_law_665 (by decide) ?_
                            refine v_iadd hC dL_law_666 ?_
                            refine v_ldI hC hf dL_law_667 (fun x125 hf => ?_)
                            refine v_cVE hC (y := y_X6_root) (ci := 6) [.int x122, .int x123, .int x124, .int x125] [.int x120] (fun r => some (.int r)) (fun r => .int r :: [.int x120]) hf (fun _ _ _ _ h => m_X6_root h) rfl (fun _ => rfl) rfl rfl hR (Nat.le_of_ble_eq_true rfl) (Nat.le_of_ble_eq_true rfl) w_832 w_829 w_830 w_831 w_64 nm_X6_root rfl (Nat.le_of_ble_eq_true rfl) dL_law_668 (fun x126 σ127 _ _ hf => ?_)
                            refine v_icmp_eq hC hf dL_law_671 (tgt := 1125) (by decide) (fun hf => ?_) (fun hf => ?_)
                            · exact v_sub [(0, .ref a0), (1, .ref a1), (2, .ref a2), (3, .int i3)] [0, 1, 2, 3] rfl (hk10 _ _ _ hf)
                            · refine v_at 674 rfl ?_
                              cases hf
                          · rw [if_neg hx9] at hf
                            by_cases hx10 : x9 = 10
                            · rw [if_pos hx10] at hf
                              refine v_tabIn hC dL_law_33 (by rw [hx10]; decide) (by rw [hx10]; decide) (off := 643) (by rw [hx10]; decide) (tgt := 676) (by decide) ?_
                              refine v_aload_n hC 1 dL_law_676 rfl ?_
                              refine v_aload_n hC 0 dL_law_677 rfl ?_
                              refine v_iload_n hC 3 dL_law_678 rfl ?_
                              refine v_iconst (v := 1) hC dL_law_679 (by decide) ?_
                              refine v_iadd hC dL_law_680 ?_
                              refine v_ldI hC hf dL_law_681 (fun x128 hf => ?_)
                              refine v_aload_n hC 0 dL_law_682 rfl ?_
                              refine v_iload_n hC 3 dL_law_683 rfl ?_
                              refine v_at 684 rfl ?_
                              refine v_iconst (v := 2) hC dL_law_684 (by decide) ?_
                              refine v_iadd hC dL_law_685 ?_
                              refine v_ldI hC hf dL_law_686 (fun x129 hf => ?_)
                              refine v_aload_n hC 0 dL_law_687 rfl ?_
                              refine v_iload_n hC 3 dL_law_688 rfl ?_
                              refine v_iconst (v := 3) hC dL_law_689 (by decide) ?_
                              refine v_iadd hC dL_law_690 ?_
                              refine v_ldI hC hf dL_law_691 (fun x130 hf => ?_)
                              refine v_at 692 rfl ?_
                              refine v_aload_n hC 0 dL_law_692 rfl ?_
                              refine v_iload_n hC 3 dL_law_693 rfl ?_
                              refine v_iconst (v := 4) hC dL_law_694 (by decide) ?_
                              refine v_iadd hC dL_law_695 ?_
                              refine v_ldI hC hf dL_law_696 (fun x131 hf => ?_)
                              refine v_cVE hC (y := y_X5_rescale) (ci := 5) [.int x128, .int x129, .int x130, .int x131] [] (fun r => some (.int r)) (fun r => .int r :: []) hf (fun _ _ _ _ h => m_X5_rescale h) rfl (fun _ => rfl) rfl rfl hR (Nat.le_of_ble_eq_true rfl) (Nat.le_of_ble_eq_true rfl) w_497 w_494 w_495 w_496 w_58 nm_X5_rescale rfl (Nat.le_of_ble_eq_true rfl) dL_law_697 (fun x132 σ133 _ _ hf => ?_)
                              refine v_aload_n hC 2 dL_law_700 rfl ?_
                              refine v_aload_n hC 0 dL_law_701 rfl ?_
                              refine v_at 702 rfl ?_
                              refine v_iload_n hC 3 dL_law_702 rfl ?_
                              refine v_iconst (v := 1) hC dL_law_703 (by decide) ?_
                              refine v_iadd hC dL_law_704 ?_
                              refine v_ldI hC hf dL_law_705 (fun x134 hf => ?_)
                              refine v_aload_n hC 0 dL_law_706 rfl ?_
                              refine v_iload_n hC 3 dL_law_707 rfl ?_
                              refine v_iconst (v := 2) hC dL_law_708 (by decide) ?_
                              refine v_iadd hC dL_law_709 ?_
                              refine v_at 710 rfl ?_
                              refine v_ldI hC hf dL_law_710 (fun x135 hf => ?_)
                              refine v_aload_n hC 0 dL_law_711 rfl ?_
                              refine v_iload_n hC 3 dL_law_712 rfl ?_
                              refine v_iconst (v := 3) hC dL_law_713 (by decide) ?_
                              refine v_iadd hC dL_law_714 ?_
                              refine v_ldI hC hf dL_law_715 (fun x136 hf => ?_)
                              refine v_aload_n hC 0 dL_law_716 rfl ?_
                              refine v_iload_n hC 3 dL_law_717 rfl ?_
                              refine v_at 718 rfl ?_
                              refine v_iconst (v := 4) hC dL_law_718 (by decide) ?_
                              refine v_iadd hC dL_law_719 ?_
                              refine v_ldI hC hf dL_law_720 (fun x137 hf => ?_)
                              refine v_cVE hC (y := y_X6_rescale) (ci := 6) [.int x134, .int x135, .int x136, .int x137] [.int x132] (fun r => some (.int r)) (fun r => .int r :: [.int x132]) hf (fun _ _ _ _ h => m_X6_rescale h) rfl (fun _ => rfl) rfl rfl hR (Nat.le_of_ble_eq_true rfl) (Nat.le_of_ble_eq_true rfl) w_848 w_845 w_846 w_847 w_64 nm_X6_rescale rfl (Nat.le_of_ble_eq_true rfl) dL_law_721 (fun x138 σ139 _ _ hf => ?_)
                              refine v_icmp_eq hC hf dL_law_724 (tgt := 1125) (by decide) (fun hf => ?_) (fun hf => ?_)
                              · exact v_sub [(0, .ref a0), (1, .ref a1), (2, .ref a2), (3, .int i3)] [0, 1, 2, 3] rfl (hk10 _ _ _ hf)
                              · refine v_at 727 rfl ?_
                                cases hf
                            · rw [if_neg hx10] at hf
                              by_cases hx11 : x9 = 11
                              · rw [if_pos hx11] at hf
                                refine v_tabIn hC dL_law_33 (by rw [hx11]; decide) (by rw [hx11]; decide) (off := 696) (by rw [hx11]; decide) (tgt := 729) (by decide) ?_
                                refine v_aload_n hC 1 dL_law_729 rfl ?_
                                refine v_aload_n hC 0 dL_law_730 rfl ?_
                                refine v_iload_n hC 3 dL_law_731 rfl ?_
                                refine v_iconst (v := 1) hC dL_law_732 (by decide) ?_
                                refine v_iadd hC dL_law_733 ?_
                                refine v_ldI hC hf dL_law_734 (fun x140 hf => ?_)
                                refine v_aload_n hC 0 dL_law_735 rfl ?_
                                refine v_iload_n hC 3 dL_law_736 rfl ?_
                                refine v_at 737 rfl ?_
                                refine v_iconst (v := 2) hC dL_law_737 (by decide) ?_
                                refine v_iadd hC dL_law_738 ?_
                                refine v_ldI hC hf dL_law_739 (fun x141 hf => ?_)
                                refine v_aload_n hC 0 dL_law_740 rfl ?_
                                refine v_iload_n hC 3 dL_law_741 rfl ?_
                                refine v_iconst (v := 3) hC dL_law_742 (by decide) ?_
                                refine v_iadd hC dL_law_743 ?_
                                refine v_ldI hC hf dL_law_744 (fun x142 hf => ?_)
                                refine v_at 745 rfl ?_
                                refine v_aload_n hC 0 dL_law_745 rfl ?_
                                refine v_iload_n hC 3 dL_law_746 rfl ?_
                                refine v_iconst (v := 4) hC dL_law_747 (by decide) ?_
                                refine v_iadd hC dL_law_748 ?_
                                refine v_ldI hC hf dL_law_749 (fun x143 hf => ?_)
                                refine v_cVE hC (y := y_X5_round) (ci := 5) [.int x140, .int x141, .int x142, .int x143] [] (fun r => some (.int r)) (fun r => .int r :: []) hf (fun _ _ _ _ h => m_X5_round h) rfl (fun _ => rfl) rfl rfl hR (Nat.le_of_ble_eq_true rfl) (Nat.le_of_ble_eq_true rfl) w_501 w_498 w_499 w_500 w_58 nm_X5_round rfl (Nat.le_of_ble_eq_true rfl) dL_law_750 (fun x144 σ145 _ _ hf => ?_)
                                refine v_aload_n hC 2 dL_law_753 rfl ?_
                                refine v_aload_n hC 0 dL_law_754 rfl ?_
                                refine v_at 755 rfl ?_
                                refine v_iload_n hC 3 dL_law_755 rfl ?_
                                refine v_iconst (v := 1) hC dL_law_756 (by decide) ?_
                                refine v_iadd hC dL_law_757 ?_
                                refine v_ldI hC hf dL_law_758 (fun x146 hf => ?_)
                                refine v_aload_n hC 0 dL_law_759 rfl ?_
                                refine v_iload_n hC 3 dL_law_760 rfl ?_
                                refine v_iconst (v := 2) hC dL_law_761 (by decide) ?_
                                refine v_iadd hC dL_law_762 ?_
                                refine v_at 763 rfl ?_
                                refine v_ldI hC hf dL_law_763 (fun x147 hf => ?_)
                                refine v_aload_n hC 0 dL_law_764 rfl ?_
                                refine v_iload_n hC 3 dL_law_765 rfl ?_
                                refine v_iconst (v := 3) hC dL_law_766 (by decide) ?_
                                refine v_iadd hC dL_law_767 ?_
                                refine v_ldI hC hf dL_law_768 (fun x148 hf => ?_)
                                refine v_aload_n hC 0 dL_law_769 rfl ?_
                                refine v_iload_n hC 3 dL_law_770 rfl ?_
                                refine v_at 771 rfl ?_
                                refine v_iconst (v := 4) hC dL_law_771 (by decide) ?_
                                refine v_iadd hC dL_law_772 ?_
                                refine v_ldI hC hf dL_law_773 (fun x149 hf => ?_)
                                refine v_cVE hC (y := y_X6_round) (ci := 6) [.int x146, .int x147, .int x148, .int x149] [.int x144] (fun r => some (.int r)) (fun r => .int r :: [.int x144]) hf (fun _ _ _ _ h => m_X6_round h) rfl (fun _ => rfl) rfl rfl hR (Nat.le_of_ble_eq_true rfl) (Nat.le_of_ble_eq_true rfl) w_852 w_849 w_850 w_851 w_64 nm_X6_round rfl (Nat.le_of_ble_eq_true rfl) dL_law_774 (fun x150 σ151 _ _ hf => ?_)
                                refine v_icmp_eq hC hf dL_law_777 (tgt := 1125) (by decide) (fun hf => ?_) (fun hf => ?_)
                                · exact v_sub [(0, .ref a0), (1, .ref a1), (2, .ref a2), (3, .int i3)] [0, 1, 2, 3] rfl (hk10 _ _ _ hf)
                                · refine v_at 780 rfl ?_
                                  cases hf
                              · rw [if_neg hx11] at hf
                                by_cases hx12 : x9 = 12
                                · rw [if_pos hx12] at hf
                                  refine v_tabIn hC dL_law_33 (by rw [hx12]; decide) (by rw [hx12]; decide) (off := 749) (by rw [hx12]; decide) (tgt := 782) (by decide) ?_
                                  refine v_aload_n hC 1 dL_law_782 rfl ?_
                                  refine v_aload_n hC 0 dL_law_783 rfl ?_
                                  refine v_iload_n hC 3 dL_law_784 rfl ?_
                                  refine v_iconst (v := 1) hC dL_law_785 (by decide) ?_
                                  refine v_iadd hC dL_law_786 ?_
                                  refine v_ldI hC hf dL_law_787 (fun x152 hf => ?_)
                                  refine v_aload_n hC 0 dL_law_788 rfl ?_
                                  refine v_iload_n hC 3 dL_law_789 rfl ?_
                                  refine v_at 790 rfl ?_
                                  refine v_iconst (v := 2) hC dL_law_790 (by decide) ?_
                                  refine v_iadd hC dL_law_791 ?_
                                  refine v_ldI hC hf dL_law_792 (fun x153 hf => ?_)
                                  refine v_cVE hC (y := y_X5_strip) (ci := 5) [.int x152, .int x153] [] (fun r => some (.int r)) (fun r => .int r :: []) hf (fun _ _ _ _ h => m_X5_strip h) rfl (fun _ => rfl) rfl rfl hR (Nat.le_of_ble_eq_true rfl) (Nat.le_of_ble_eq_true rfl) w_505 w_502 w_503 w_504 w_58 nm_X5_strip rfl (Nat.le_of_ble_eq_true rfl) dL_law_793 (fun x154 σ155 _ _ hf => ?_)
                                  refine v_aload_n hC 2 dL_law_796 rfl ?_
                                  refine v_aload_n hC 0 dL_law_797 rfl ?_
                                  refine v_iload_n hC 3 dL_law_798 rfl ?_
                                  refine v_iconst (v := 1) hC dL_law_799 (by decide) ?_
                                  refine v_at 800 rfl ?_
                                  refine v_iadd hC dL_law_800 ?_
                                  refine v_ldI hC hf dL_law_801 (fun x156 hf => ?_)
                                  refine v_aload_n hC 0 dL_law_802 rfl ?_
                                  refine v_iload_n hC 3 dL_law_803 rfl ?_
                                  refine v_iconst (v := 2) hC dL_law_804 (by decide) ?_
                                  refine v_iadd hC dL_law_805 ?_
                                  refine v_ldI hC hf dL_law_806 (fun x157 hf => ?_)
                                  refine v_cVE hC (y := y_X6_strip) (ci := 6) [.int x156, .int x157] [.int x154] (fun r => some (.int r)) (fun r => .int r :: [.int x154]) hf (fun _ _ _ _ h => m_X6_strip h) rfl (fun _ => rfl) rfl rfl hR (Nat.le_of_ble_eq_true rfl) (Nat.le_of_ble_eq_true rfl) w_856 w_853 w_854 w_855 w_64 nm_X6_strip rfl (Nat.le_of_ble_eq_true rfl) dL_law_807 (fun x158 σ159 _ _ hf => ?_)
                                  refine v_at 810 rfl ?_
                                  refine v_icmp_eq hC hf dL_law_810 (tgt := 1125) (by decide) (fun hf => ?_) (fun hf => ?_)
                                  · exact v_sub [(0, .ref a0), (1, .ref a1), (2, .ref a2), (3, .int i3)] [0, 1, 2, 3] rfl (hk10 _ _ _ hf)
                                  · refine v_at 813 rfl ?_
                                    cases hf
                                · rw [if_neg hx12] at hf
                                  by_cases hx13 : x9 = 13
                                  · rw [if_pos hx13] at hf
                                    refine v_tabIn hC dL_law_33 (by rw [hx13]; decide) (by rw [hx13]; decide) (off := 782) (by rw [hx13]; decide) (tgt := 815) (by decide) ?_
                                    refine v_aload_n hC 1 dL_law_815 rfl ?_
                                    refine v_aload_n hC 0 dL_law_816 rfl ?_
                                    refine v_iload_n hC 3 dL_law_817 rfl ?_
                                    refine v_iconst (v := 1) hC dL_law_818 (by decide) ?_
                                    refine v_iadd hC dL_law_819 ?_
                                    refine v_ldI hC hf dL_law_820 (fun x160 hf => ?_)
                                    refine v_aload_n hC 0 dL_law_821 rfl ?_
                                    refine v_iload_n hC 3 dL_law_822 rfl ?_
                                    refine v_at 823 rfl ?_
                                    refine v_iconst (v := 2) hC dL_law_823 (by decide) ?_
                                    refine v_iadd hC dL_law_824 ?_
                                    refine v_ldI hC hf dL_law_825 (fun x161 hf => ?_)
                                    refine v_aload_n hC 0 dL_law_826 rfl ?_
                                    refine v_iload_n hC 3 dL_law_827 rfl ?_
                                    refine v_iconst (v := 3) hC dL_law_828 (by decide) ?_
                                    refine v_iadd hC dL_law_829 ?_
                                    refine v_ldI hC hf dL_law_830 (fun x162 hf => ?_)
                                    refine v_at 831 rfl ?_
                                    refine v_cVE hC (y := y_X5_move) (ci := 5) [.int x160, .int x161, .int x162] [] (fun r => some (.int r)) (fun r => .int r :: []) hf (fun _ _ _ _ h => m_X5_move h) rfl (fun _ => rfl) rfl rfl hR (Nat.le_of_ble_eq_true rfl) (Nat.le_of_ble_eq_true rfl) w_509 w_506 w_507 w_508 w_58 nm_X5_move rfl (Nat.le_of_ble_eq_true rfl) dL_law_831 (fun x163 σ164 _ _ hf => ?_)
                                    refine v_aload_n hC 2 dL_law_834 rfl ?_
                                    refine v_aload_n hC 0 dL_law_835 rfl ?_
                                    refine v_iload_n hC 3 dL_law_836 rfl ?_
                                    refine v_iconst (v := 1) hC dL_law_837 (by decide) ?_
                                    refine v_iadd hC dL_law_838 ?_
                                    refine v_ldI hC hf dL_law_839 (fun x165 hf => ?_)
                                    refine v_aload_n hC 0 dL_law_840 rfl ?_
                                    refine v_at 841 rfl ?_
                                    refine v_iload_n hC 3 dL_law_841 rfl ?_
                                    refine v_iconst (v := 2) hC dL_law_842 (by decide) ?_
                                    refine v_iadd hC dL_law_843 ?_
                                    refine v_ldI hC hf dL_law_844 (fun x166 hf => ?_)
                                    refine v_aload_n hC 0 dL_law_845 rfl ?_
                                    refine v_iload_n hC 3 dL_law_846 rfl ?_
                                    refine v_iconst (v := 3) hC dL_law_847 (by decide) ?_
                                    refine v_iadd hC dL_law_848 ?_
                                    refine v_at 849 rfl ?_
                                    refine v_ldI hC hf dL_law_849 (fun x167 hf => ?_)
                                    refine v_cVE hC (y := y_X6_move) (ci := 6) [.int x165, .int x166, .int x167] [.int x163] (fun r => some (.int r)) (fun r => .int r :: [.int x163]) hf (fun _ _ _ _ h => m_X6_move h) rfl (fun _ => rfl) rfl rfl hR (Nat.le_of_ble_eq_true rfl) (Nat.le_of_ble_eq_true rfl) w_860 w_857 w_858 w_859 w_64 nm_X6_move rfl (Nat.le_of_ble_eq_true rfl) dL_law_850 (fun x168 σ169 _ _ hf => ?_)
                                    refine v_icmp_eq hC hf dL_law_853 (tgt := 1125) (by decide) (fun hf => ?_) (fun hf => ?_)
                                    · exact v_sub [(0, .ref a0), (1, .ref a1), (2, .ref a2), (3, .int i3)] [0, 1, 2, 3] rfl (hk10 _ _ _ hf)
                                    · refine v_at 856 rfl ?_
                                      cases hf
                                  · rw [if_neg hx13] at hf
                                    by_cases hx14 : x9 = 14
                                    · rw [if_pos hx14] at hf
                                      refine v_tabIn hC dL_law_33 (by rw [hx14]; decide) (by rw [hx14]; decide) (off := 825) (by rw [hx14]; decide) (tgt := 858) (by decide) ?_
                                      refine v_aload_n hC 1 dL_law_858 rfl ?_
                                      refine v_aload_n hC 0 dL_law_859 rfl ?_
                                      refine v_iload_n hC 3 dL_law_860 rfl ?_
                                      refine v_iconst (v := 1) hC dL_law_861 (by decide) ?_
                                      refine v_iadd hC dL_law_862 ?_
                                      refine v_ldI hC hf dL_law_863 (fun x170 hf => ?_)
                                      refine v_aload_n hC 0 dL_law_864 rfl ?_
                                      refine v_iload_n hC 3 dL_law_865 rfl ?_
                                      refine v_at 866 rfl ?_
                                      refine v_iconst (v := 2) hC dL_law_866 (by decide) ?_
                                      refine v_iadd hC dL_law_867 ?_
                                      refine v_ldI hC hf dL_law_868 (fun x171 hf => ?_)
                                      refine v_cVE hC (y := y_X5_compare) (ci := 5) [.int x170, .int x171] [] (fun r => some (.int r)) (fun r => .int r :: []) hf (fun _ _ _ _ h => m_X5_compare h) rfl (fun _ => rfl) rfl rfl hR (Nat.le_of_ble_eq_true rfl) (Nat.le_of_ble_eq_true rfl) w_513 w_510 w_511 w_512 w_58 nm_X5_compare rfl (Nat.le_of_ble_eq_true rfl) dL_law_869 (fun x172 σ173 _ _ hf => ?_)
                                      refine v_aload_n hC 2 dL_law_872 rfl ?_
                                      refine v_aload_n hC 0 dL_law_873 rfl ?_
                                      refine v_iload_n hC 3 dL_law_874 rfl ?_
                                      refine v_iconst (v := 1) hC dL_law_875 (by decide) ?_
                                      refine v_at 876 rfl ?_
                                      refine v_iadd hC dL_law_876 ?_
                                      refine v_ldI hC hf dL_law_877 (fun x174 hf => ?_)
                                      refine v_aload_n hC 0 dL_law_878 rfl ?_
                                      refine v_iload_n hC 3 dL_law_879 rfl ?_
                                      refine v_iconst (v := 2) hC dL_law_880 (by decide) ?_
                                      refine v_iadd hC dL_law_881 ?_
                                      refine v_ldI hC hf dL_law_882 (fun x175 hf => ?_)
                                      refine v_cVP hC (y := y_X6_compare) (ci := 6) [.int x174, .int x175] [.int x172] (fun r => some (.int r)) (fun r => .int r :: [.int x172]) hf (fun _ h => m_X6_compare h) rfl (fun _ => rfl) rfl rfl hR (Nat.le_of_ble_eq_true rfl) (Nat.le_of_ble_eq_true rfl) w_864 w_861 w_862 w_863 w_64 nm_X6_compare rfl (Nat.le_of_ble_eq_true rfl) dL_law_883 (fun x176 hf => ?_)
                                      refine v_at 886 rfl ?_
                                      refine v_icmp_eq hC hf dL_law_886 (tgt := 1125) (by decide) (fun hf => ?_) (fun hf => ?_)
                                      · exact v_sub [(0, .ref a0), (1, .ref a1), (2, .ref a2), (3, .int i3)] [0, 1, 2, 3] rfl (hk10 _ _ _ hf)
                                      · refine v_at 889 rfl ?_
                                        cases hf
                                    · rw [if_neg hx14] at hf
                                      by_cases hx15 : x9 = 15
                                      · rw [if_pos hx15] at hf
                                        refine v_tabIn hC dL_law_33 (by rw [hx15]; decide) (by rw [hx15]; decide) (off := 858) (by rw [hx15]; decide) (tgt := 891) (by decide) ?_
                                        refine v_aload_n hC 1 dL_law_891 rfl ?_
                                        refine v_aload_n hC 0 dL_law_892 rfl ?_
                                        refine v_iload_n hC 3 dL_law_893 rfl ?_
                                        refine v_iconst (v := 1) hC dL_law_894 (by decide) ?_
                                        refine v_iadd hC dL_law_895 ?_
                                        refine v_ldI hC hf dL_law_896 (fun x177 hf => ?_)
                                        refine v_cVP hC (y := y_X5_sign) (ci := 5) [.int x177] [] (fun r => some (.int r)) (fun r => .int r :: []) hf (fun _ h => m_X5_sign h) rfl (fun _ => rfl) rfl rfl hR (Nat.le_of_ble_eq_true rfl) (Nat.le_of_ble_eq_true rfl) w_525 w_522 w_523 w_524 w_58 nm_X5_sign rfl (Nat.le_of_ble_eq_true rfl) dL_law_897 (fun x178 hf => ?_)
                                        refine v_aload_n hC 2 dL_law_900 rfl ?_
                                        refine v_at 901 rfl ?_
                                        refine v_aload_n hC 0 dL_law_901 rfl ?_
                                        refine v_iload_n hC 3 dL_law_902 rfl ?_
                                        refine v_iconst (v := 1) hC dL_law_903 (by decide) ?_
                                        refine v_iadd hC dL_law_904 ?_
                                        refine v_ldI hC hf dL_law_905 (fun x179 hf => ?_)
                                        refine v_cVP hC (y := y_X6_sign) (ci := 6) [.int x179] [.int x178] (fun r => some (.int r)) (fun r => .int r :: [.int x178]) hf (fun _ h => m_X6_sign h) rfl (fun _ => rfl) rfl rfl hR (Nat.le_of_ble_eq_true rfl) (Nat.le_of_ble_eq_true rfl) w_868 w_865 w_866 w_867 w_64 nm_X6_sign rfl (Nat.le_of_ble_eq_true rfl) dL_law_906 (fun x180 hf => ?_)
                                        refine v_icmp_eq hC hf dL_law_909 (tgt := 1125) (by decide) (fun hf => ?_) (fun hf => ?_)
                                        · exact v_sub [(0, .ref a0), (1, .ref a1), (2, .ref a2), (3, .int i3)] [0, 1, 2, 3] rfl (hk10 _ _ _ hf)
                                        · refine v_at 912 rfl ?_
                                          cases hf
                                      · rw [if_neg hx15] at hf
                                        by_cases hx16 : x9 = 16
                                        · rw [if_pos hx16] at hf
                                          refine v_tabIn hC dL_law_33 (by rw [hx16]; decide) (by rw [hx16]; decide) (off := 881) (by rw [hx16]; decide) (tgt := 914) (by decide) ?_
                                          refine v_aload_n hC 1 dL_law_914 rfl ?_
                                          refine v_aload_n hC 0 dL_law_915 rfl ?_
                                          refine v_iload_n hC 3 dL_law_916 rfl ?_
                                          refine v_iconst (v := 1) hC dL_law_917 (by decide) ?_
                                          refine v_iadd hC dL_law_918 ?_
                                          refine v_ldI hC hf dL_law_919 (fun x181 hf => ?_)
                                          refine v_cVP hC (y := y_X5_precision) (ci := 5) [.int x181] [] (fun r => some (.int r)) (fun r => .int r :: []) hf (fun _ h => m_X5_precision h) rfl (fun _ => rfl) rfl rfl hR (Nat.le_of_ble_eq_true rfl) (Nat.le_of_ble_eq_true rfl) w_529 w_526 w_527 w_528 w_58 nm_X5_precision rfl (Nat.le_of_ble_eq_true rfl) dL_law_920 (fun x182 hf => ?_)
                                          refine v_aload_n hC 2 dL_law_923 rfl ?_
                                          refine v_at 924 rfl ?_
                                          refine v_aload_n hC 0 dL_law_924 rfl ?_
                                          refine v_iload_n hC 3 dL_law_925 rfl ?_
                                          refine v_iconst (v := 1) hC dL_law_926 (by decide) ?_
                                          refine v_iadd hC dL_law_927 ?_
                                          refine v_ldI hC hf dL_law_928 (fun x183 hf => ?_)
                                          refine v_cVP hC (y := y_X6_precision) (ci := 6) [.int x183] [.int x182] (fun r => some (.int r)) (fun r => .int r :: [.int x182]) hf (fun _ h => m_X6_precision h) rfl (fun _ => rfl) rfl rfl hR (Nat.le_of_ble_eq_true rfl) (Nat.le_of_ble_eq_true rfl) w_872 w_869 w_870 w_871 w_64 nm_X6_precision rfl (Nat.le_of_ble_eq_true rfl) dL_law_929 (fun x184 hf => ?_)
                                          refine v_icmp_eq hC hf dL_law_932 (tgt := 1125) (by decide) (fun hf => ?_) (fun hf => ?_)
                                          · exact v_sub [(0, .ref a0), (1, .ref a1), (2, .ref a2), (3, .int i3)] [0, 1, 2, 3] rfl (hk10 _ _ _ hf)
                                          · refine v_at 935 rfl ?_
                                            cases hf
                                        · rw [if_neg hx16] at hf
                                          by_cases hx17 : x9 = 17
                                          · rw [if_pos hx17] at hf
                                            refine v_tabIn hC dL_law_33 (by rw [hx17]; decide) (by rw [hx17]; decide) (off := 904) (by rw [hx17]; decide) (tgt := 937) (by decide) ?_
                                            refine v_aload_n hC 1 dL_law_937 rfl ?_
                                            refine v_aload_n hC 0 dL_law_938 rfl ?_
                                            refine v_iload_n hC 3 dL_law_939 rfl ?_
                                            refine v_iconst (v := 1) hC dL_law_940 (by decide) ?_
                                            refine v_iadd hC dL_law_941 ?_
                                            refine v_ldI hC hf dL_law_942 (fun x185 hf => ?_)
                                            refine v_cVP hC (y := y_X5_scale) (ci := 5) [.int x185] [] (fun r => some (.int r)) (fun r => .int r :: []) hf (fun _ h => m_X5_scale h) rfl (fun _ => rfl) rfl rfl hR (Nat.le_of_ble_eq_true rfl) (Nat.le_of_ble_eq_true rfl) w_533 w_530 w_531 w_532 w_58 nm_X5_scale rfl (Nat.le_of_ble_eq_true rfl) dL_law_943 (fun x186 hf => ?_)
                                            refine v_aload_n hC 2 dL_law_946 rfl ?_
                                            refine v_at 947 rfl ?_
                                            refine v_aload_n hC 0 dL_law_947 rfl ?_
                                            refine v_iload_n hC 3 dL_law_948 rfl ?_
                                            refine v_iconst (v := 1) hC dL_law_949 (by decide) ?_
                                            refine v_iadd hC dL_law_950 ?_
                                            refine v_ldI hC hf dL_law_951 (fun x187 hf => ?_)
                                            refine v_cVP hC (y := y_X6_scale) (ci := 6) [.int x187] [.int x186] (fun r => some (.int r)) (fun r => .int r :: [.int x186]) hf (fun _ h => m_X6_scale h) rfl (fun _ => rfl) rfl rfl hR (Nat.le_of_ble_eq_true rfl) (Nat.le_of_ble_eq_true rfl) w_880 w_877 w_878 w_879 w_64 nm_X6_scale rfl (Nat.le_of_ble_eq_true rfl) dL_law_952 (fun x188 hf => ?_)
                                            refine v_icmp_eq hC hf dL_law_955 (tgt := 1125) (by decide) (fun hf => ?_) (fun hf => ?_)
                                            · exact v_sub [(0, .ref a0), (1, .ref a1), (2, .ref a2), (3, .int i3)] [0, 1, 2, 3] rfl (hk10 _ _ _ hf)
                                            · refine v_at 958 rfl ?_
                                              cases hf
                                          · rw [if_neg hx17] at hf
                                            by_cases hx18 : x9 = 18
                                            · rw [if_pos hx18] at hf
                                              refine v_tabIn hC dL_law_33 (by rw [hx18]; decide) (by rw [hx18]; decide) (off := 927) (by rw [hx18]; decide) (tgt := 960) (by decide) ?_
                                              refine v_aload_n hC 1 dL_law_960 rfl ?_
                                              refine v_aload_n hC 0 dL_law_961 rfl ?_
                                              refine v_iload_n hC 3 dL_law_962 rfl ?_
                                              refine v_iconst (v := 1) hC dL_law_963 (by decide) ?_
                                              refine v_iadd hC dL_law_964 ?_
                                              refine v_ldI hC hf dL_law_965 (fun x189 hf => ?_)
                                              refine v_aload_n hC 0 dL_law_966 rfl ?_
                                              refine v_iload_n hC 3 dL_law_967 rfl ?_
                                              refine v_at 968 rfl ?_
                                              refine v_iconst (v := 2) hC dL_law_968 (by decide) ?_
                                              refine v_iadd hC dL_law_969 ?_
                                              refine v_ldI hC hf dL_law_970 (fun x190 hf => ?_)
                                              refine v_cVP hC (y := y_X5_digit) (ci := 5) [.int x189, .int x190] [] (fun r => some (.int r)) (fun r => .int r :: []) hf (fun _ h => m_X5_digit h) rfl (fun _ => rfl) rfl rfl hR (Nat.le_of_ble_eq_true rfl) (Nat.le_of_ble_eq_true rfl) w_537 w_534 w_535 w_536 w_58 nm_X5_digit rfl (Nat.le_of_ble_eq_true rfl) dL_law_971 (fun x191 hf => ?_)
                                              refine v_aload_n hC 2 dL_law_974 rfl ?_
                                              refine v_aload_n hC 0 dL_law_975 rfl ?_
                                              refine v_iload_n hC 3 dL_law_976 rfl ?_
                                              refine v_iconst (v := 1) hC dL_law_977 (by decide) ?_
                                              refine v_at 978 rfl ?_
                                              refine v_iadd hC dL_law_978 ?_
                                              refine v_ldI hC hf dL_law_979 (fun x192 hf => ?_)
                                              refine v_aload_n hC 0 dL_law_980 rfl ?_
                                              refine v_iload_n hC 3 dL_law_981 rfl ?_
                                              refine v_iconst (v := 2) hC dL_law_982 (by decide) ?_
                                              refine v_iadd hC dL_law_983 ?_
                                              refine v_ldI hC hf dL_law_984 (fun x193 hf => ?_)
                                              refine v_cVP hC (y := y_X6_digit) (ci := 6) [.int x192, .int x193] [.int x191] (fun r => some (.int r)) (fun r => .int r :: [.int x191]) hf (fun _ h => m_X6_digit h) rfl (fun _ => rfl) rfl rfl hR (Nat.le_of_ble_eq_true rfl) (Nat.le_of_ble_eq_true rfl) w_884 w_881 w_882 w_883 w_64 nm_X6_digit rfl (Nat.le_of_ble_eq_true rfl) dL_law_985 (fun x194 hf => ?_)
                                              refine v_at 988 rfl ?_
                                              refine v_icmp_eq hC hf dL_law_988 (tgt := 1125) (by decide) (fun hf => ?_) (fun hf => ?_)
                                              · exact v_sub [(0, .ref a0), (1, .ref a1), (2, .ref a2), (3, .int i3)] [0, 1, 2, 3] rfl (hk10 _ _ _ hf)
                                              · refine v_at 991 rfl ?_
                                                cases hf
                                            · rw [if_neg hx18] at hf
                                              by_cases hx19 : x9 = 19
                                              · rw [if_pos hx19] at hf
                                                refine v_tabIn hC dL_law_33 (by rw [hx19]; decide) (by rw [hx19]; decide) (off := 960) (by rw [hx19]; decide) (tgt := 993) (by decide) ?_
                                                refine v_aload_n hC 1 dL_law_993 rfl ?_
                                                refine v_aload_n hC 0 dL_law_994 rfl ?_
                                                refine v_iload_n hC 3 dL_law_995 rfl ?_
                                                refine v_iconst (v := 1) hC dL_law_996 (by decide) ?_
                                                refine v_iadd hC dL_law_997 ?_
                                                refine v_ldI hC hf dL_law_998 (fun x195 hf => ?_)
                                                refine v_i2l hC dL_law_999 ?_
                                                refine v_bipush (v := 32) hC dL_law_1000 (by decide) ?_
                                                refine v_at 1002 rfl ?_
                                                refine v_lshl hC dL_law_1002 ?_
                                                refine v_aload_n hC 0 dL_law_1003 rfl ?_
                                                refine v_iload_n hC 3 dL_law_1004 rfl ?_
                                                refine v_iconst (v := 2) hC dL_law_1005 (by decide) ?_
                                                refine v_iadd hC dL_law_1006 ?_
                                                refine v_ldI hC hf dL_law_1007 (fun x196 hf => ?_)
                                                refine v_i2l hC dL_law_1008 ?_
                                                refine v_ldc2 hC dL_law_1009 w_936 ?_
                                                refine v_at 1012 rfl ?_
                                                refine v_land hC dL_law_1012 ?_
                                                refine v_lor hC dL_law_1013 ?_
                                                refine v_cVE hC (y := y_X5_type) (ci := 5) [.long ((((x195 : Int32).toInt64) <<< ((32 : Int32).toInt64 &&& 63)) ||| (((x196 : Int32).toInt64) &&& 4294967295))] [] (fun r => some (.int r)) (fun r => .int r :: []) hf (fun _ _ _ _ h => m_X5_type h) rfl (fun _ => rfl) rfl rfl hR (Nat.le_of_ble_eq_true rfl) (Nat.le_of_ble_eq_true rfl) w_542 w_539 w_540 w_541 w_58 nm_X5_type rfl (Nat.le_of_ble_eq_true rfl) dL_law_1014 (fun x197 σ198 _ _ hf => ?_)
                                                refine v_aload_n hC 2 dL_law_1017 rfl ?_
                                                refine v_aload_n hC 0 dL_law_1018 rfl ?_
                                                refine v_iload_n hC 3 dL_law_1019 rfl ?_
                                                refine v_iconst (v := 1) hC dL_law_1020 (by decide) ?_
                                                refine v_iadd hC dL_law_1021 ?_
                                                refine v_at 1022 rfl ?_
                                                refine v_ldI hC hf dL_law_1022 (fun x199 hf => ?_)
                                                refine v_i2l hC dL_law_1023 ?_
                                                refine v_bipush (v := 32) hC dL_law_1024 (by decide) ?_
                                                refine v_lshl hC dL_law_1026 ?_
                                                refine v_aload_n hC 0 dL_law_1027 rfl ?_
                                                refine v_iload_n hC 3 dL_law_1028 rfl ?_
                                                refine v_iconst (v := 2) hC dL_law_1029 (by decide) ?_
                                                refine v_iadd hC dL_law_1030 ?_
                                                refine v_at 1031 rfl ?_
                                                refine v_ldI hC hf dL_law_1031 (fun x200 hf => ?_)
                                                refine v_i2l hC dL_law_1032 ?_
                                                refine v_ldc2 hC dL_law_1033 w_936 ?_
                                                refine v_land hC dL_law_1036 ?_
                                                refine v_lor hC dL_law_1037 ?_
                                                refine v_cVE hC (y := y_X6_type) (ci := 6) [.long ((((x199 : Int32).toInt64) <<< ((32 : Int32).toInt64 &&& 63)) ||| (((x200 : Int32).toInt64) &&& 4294967295))] [.int x197] (fun r => some (.int r)) (fun r => .int r :: [.int x197]) hf (fun _ _ _ _ h => m_X6_type h) rfl (fun _ => rfl) rfl rfl hR (Nat.le_of_ble_eq_true rfl) (Nat.le_of_ble_eq_true rfl) w_888 w_885 w_886 w_887 w_64 nm_X6_type rfl (Nat.le_of_ble_eq_true rfl) dL_law_1038 (fun x201 σ202 _ _ hf => ?_)
                                                refine v_icmp_eq hC hf dL_law_1041 (tgt := 1125) (by decide) (fun hf => ?_) (fun hf => ?_)
                                                · exact v_sub [(0, .ref a0), (1, .ref a1), (2, .ref a2), (3, .int i3)] [0, 1, 2, 3] rfl (hk10 _ _ _ hf)
                                                · refine v_at 1044 rfl ?_
                                                  cases hf
                                              · rw [if_neg hx19] at hf
                                                by_cases hx20 : x9 = 20
                                                · rw [if_pos hx20] at hf
                                                  refine v_tabIn hC dL_law_33 (by rw [hx20]; decide) (by rw [hx20]; decide) (off := 1013) (by rw [hx20]; decide) (tgt := 1046) (by decide) ?_
                                                  refine v_aload_n hC 1 dL_law_1046 rfl ?_
                                                  refine v_aload_n hC 0 dL_law_1047 rfl ?_
                                                  refine v_iload_n hC 3 dL_law_1048 rfl ?_
                                                  refine v_iconst (v := 1) hC dL_law_1049 (by decide) ?_
                                                  refine v_iadd hC dL_law_1050 ?_
                                                  refine v_ldI hC hf dL_law_1051 (fun x203 hf => ?_)
                                                  refine v_cVE hC (y := y_X5_read) (ci := 5) [.int x203] [] (fun r => some (.int r)) (fun r => .int r :: []) hf (fun _ _ _ _ h => m_X5_read h) rfl (fun _ => rfl) rfl rfl hR (Nat.le_of_ble_eq_true rfl) (Nat.le_of_ble_eq_true rfl) w_564 w_561 w_562 w_563 w_58 nm_X5_read rfl (Nat.le_of_ble_eq_true rfl) dL_law_1052 (fun x204 σ205 _ _ hf => ?_)
                                                  refine v_aload_n hC 2 dL_law_1055 rfl ?_
                                                  refine v_at 1056 rfl ?_
                                                  refine v_aload_n hC 0 dL_law_1056 rfl ?_
                                                  refine v_iload_n hC 3 dL_law_1057 rfl ?_
                                                  refine v_iconst (v := 1) hC dL_law_1058 (by decide) ?_
                                                  refine v_iadd hC dL_law_1059 ?_
                                                  refine v_ldI hC hf dL_law_1060 (fun x206 hf => ?_)
                                                  refine v_cVE hC (y := y_X6_read) (ci := 6) [.int x206] [.int x204] (fun r => some (.int r)) (fun r => .int r :: [.int x204]) hf (fun _ _ _ _ h => m_X6_read h) rfl (fun _ => rfl) rfl rfl hR (Nat.le_of_ble_eq_true rfl) (Nat.le_of_ble_eq_true rfl) w_894 w_891 w_892 w_893 w_64 nm_X6_read rfl (Nat.le_of_ble_eq_true rfl) dL_law_1061 (fun x207 σ208 _ _ hf => ?_)
                                                  refine v_icmp_eq hC hf dL_law_1064 (tgt := 1125) (by decide) (fun hf => ?_) (fun hf => ?_)
                                                  · exact v_sub [(0, .ref a0), (1, .ref a1), (2, .ref a2), (3, .int i3)] [0, 1, 2, 3] rfl (hk10 _ _ _ hf)
                                                  · refine v_at 1067 rfl ?_
                                                    cases hf
                                                · rw [if_neg hx20] at hf
                                                  by_cases hx21 : x9 = 21
                                                  · rw [if_pos hx21] at hf
                                                    refine v_tabIn hC dL_law_33 (by rw [hx21]; decide) (by rw [hx21]; decide) (off := 1036) (by rw [hx21]; decide) (tgt := 1069) (by decide) ?_
                                                    refine v_aload_n hC 1 dL_law_1069 rfl ?_
                                                    refine v_aload_n hC 0 dL_law_1070 rfl ?_
                                                    refine v_iload_n hC 3 dL_law_1071 rfl ?_
                                                    refine v_iconst (v := 1) hC dL_law_1072 (by decide) ?_
                                                    refine v_iadd hC dL_law_1073 ?_
                                                    refine v_ldI hC hf dL_law_1074 (fun x209 hf => ?_)
                                                    refine v_aload_n hC 0 dL_law_1075 rfl ?_
                                                    refine v_iload_n hC 3 dL_law_1076 rfl ?_
                                                    refine v_at 1077 rfl ?_
                                                    refine v_iconst (v := 2) hC dL_law_1077 (by decide) ?_
                                                    refine v_iadd hC dL_law_1078 ?_
                                                    refine v_ldI hC hf dL_law_1079 (fun x210 hf => ?_)
                                                    refine v_cVE hC (y := y_X5_write) (ci := 5) [.int x209, .int x210] [] (fun r => some (.int r)) (fun r => .int r :: []) hf (fun _ _ _ _ h => m_X5_write h) rfl (fun _ => rfl) rfl rfl hR (Nat.le_of_ble_eq_true rfl) (Nat.le_of_ble_eq_true rfl) w_602 w_599 w_600 w_601 w_58 nm_X5_write rfl (Nat.le_of_ble_eq_true rfl) dL_law_1080 (fun x211 σ212 _ _ hf => ?_)
                                                    refine v_aload_n hC 2 dL_law_1083 rfl ?_
                                                    refine v_aload_n hC 0 dL_law_1084 rfl ?_
                                                    refine v_iload_n hC 3 dL_law_1085 rfl ?_
                                                    refine v_iconst (v := 1) hC dL_law_1086 (by decide) ?_
                                                    refine v_at 1087 rfl ?_
                                                    refine v_iadd hC dL_law_1087 ?_
                                                    refine v_ldI hC hf dL_law_1088 (fun x213 hf => ?_)
                                                    refine v_aload_n hC 0 dL_law_1089 rfl ?_
                                                    refine v_iload_n hC 3 dL_law_1090 rfl ?_
                                                    refine v_iconst (v := 2) hC dL_law_1091 (by decide) ?_
                                                    refine v_iadd hC dL_law_1092 ?_
                                                    refine v_ldI hC hf dL_law_1093 (fun x214 hf => ?_)
                                                    refine v_cVE hC (y := y_X6_write) (ci := 6) [.int x213, .int x214] [.int x211] (fun r => some (.int r)) (fun r => .int r :: [.int x211]) hf (fun _ _ _ _ h => m_X6_write h) rfl (fun _ => rfl) rfl rfl hR (Nat.le_of_ble_eq_true rfl) (Nat.le_of_ble_eq_true rfl) w_903 w_900 w_901 w_902 w_64 nm_X6_write rfl (Nat.le_of_ble_eq_true rfl) dL_law_1094 (fun x215 σ216 _ _ hf => ?_)
                                                    refine v_at 1097 rfl ?_
                                                    refine v_icmp_eq hC hf dL_law_1097 (tgt := 1125) (by decide) (fun hf => ?_) (fun hf => ?_)
                                                    · exact v_sub [(0, .ref a0), (1, .ref a1), (2, .ref a2), (3, .int i3)] [0, 1, 2, 3] rfl (hk10 _ _ _ hf)
                                                    · refine v_at 1100 rfl ?_
                                                      cases hf
                                                  · rw [if_neg hx21] at hf
                                                    by_cases hx22 : x9 = 22
                                                    · rw [if_pos hx22] at hf
                                                      refine v_tabIn hC dL_law_33 (by rw [hx22]; decide) (by rw [hx22]; decide) (off := 1069) (by rw [hx22]; decide) (tgt := 1102) (by decide) ?_
                                                      refine v_aload_n hC 1 dL_law_1102 rfl ?_
                                                      refine v_aload_n hC 0 dL_law_1103 rfl ?_
                                                      refine v_iload_n hC 3 dL_law_1104 rfl ?_
                                                      refine v_iconst (v := 1) hC dL_law_1105 (by decide) ?_
                                                      refine v_iadd hC dL_law_1106 ?_
                                                      refine v_ldI hC hf dL_law_1107 (fun x217 hf => ?_)
                                                      refine v_cVP hC (y := y_X5_characterAt) (ci := 5) [.int x217] [] (fun r => some (.int r)) (fun r => .int r :: []) hf (fun _ h => m_X5_characterAt h) rfl (fun _ => rfl) rfl rfl hR (Nat.le_of_ble_eq_true rfl) (Nat.le_of_ble_eq_true rfl) w_648 w_645 w_646 w_647 w_58 nm_X5_characterAt rfl (Nat.le_of_ble_eq_true rfl) dL_law_1108 (fun x218 hf => ?_)
                                                      refine v_aload_n hC 2 dL_law_1111 rfl ?_
                                                      refine v_at 1112 rfl ?_
                                                      refine v_aload_n hC 0 dL_law_1112 rfl ?_
                                                      refine v_iload_n hC 3 dL_law_1113 rfl ?_
                                                      refine v_iconst (v := 1) hC dL_law_1114 (by decide) ?_
                                                      refine v_iadd hC dL_law_1115 ?_
                                                      refine v_ldI hC hf dL_law_1116 (fun x219 hf => ?_)
                                                      refine v_cVP hC (y := y_X6_characterAt) (ci := 6) [.int x219] [.int x218] (fun r => some (.int r)) (fun r => .int r :: [.int x218]) hf (fun _ h => m_X6_characterAt h) rfl (fun _ => rfl) rfl rfl hR (Nat.le_of_ble_eq_true rfl) (Nat.le_of_ble_eq_true rfl) w_935 w_932 w_933 w_934 w_64 nm_X6_characterAt rfl (Nat.le_of_ble_eq_true rfl) dL_law_1117 (fun x220 hf => ?_)
                                                      refine v_icmp_eq hC hf dL_law_1120 (tgt := 1125) (by decide) (fun hf => ?_) (fun hf => ?_)
                                                      · exact v_sub [(0, .ref a0), (1, .ref a1), (2, .ref a2), (3, .int i3)] [0, 1, 2, 3] rfl (hk10 _ _ _ hf)
                                                      · refine v_at 1123 rfl ?_
                                                        cases hf
                                                    · rw [if_neg hx22] at hf
                                                      by_cases ho : (x9 : Int32).toInt < 0 ∨ 22 < (x9 : Int32).toInt
                                                      · refine v_tabOut hC dL_law_33 ho (tgt := 1125) (by decide) ?_
                                                        exact v_sub [(0, .ref a0), (1, .ref a1), (2, .ref a2), (3, .int i3)] [0, 1, 2, 3] rfl (hk10 _ _ _ hf)
                                                      · exfalso
                                                        have q0 : (x9 : Int32).toInt ≠ 0 := fun h => hx0 (Int32.toInt_inj.mp h)
                                                        have q1 : (x9 : Int32).toInt ≠ 1 := fun h => hx1 (Int32.toInt_inj.mp h)
                                                        have q2 : (x9 : Int32).toInt ≠ 2 := fun h => hx2 (Int32.toInt_inj.mp h)
                                                        have q3 : (x9 : Int32).toInt ≠ 3 := fun h => hx3 (Int32.toInt_inj.mp h)
                                                        have q4 : (x9 : Int32).toInt ≠ 4 := fun h => hx4 (Int32.toInt_inj.mp h)
                                                        have q5 : (x9 : Int32).toInt ≠ 5 := fun h => hx5 (Int32.toInt_inj.mp h)
                                                        have q6 : (x9 : Int32).toInt ≠ 6 := fun h => hx6 (Int32.toInt_inj.mp h)
                                                        have q7 : (x9 : Int32).toInt ≠ 7 := fun h => hx7 (Int32.toInt_inj.mp h)
                                                        have q8 : (x9 : Int32).toInt ≠ 8 := fun h => hx8 (Int32.toInt_inj.mp h)
                                                        have q9 : (x9 : Int32).toInt ≠ 9 := fun h => hx9 (Int32.toInt_inj.mp h)
                                                        have q10 : (x9 : Int32).toInt ≠ 10 := fun h => hx10 (Int32.toInt_inj.mp h)
                                                        have q11 : (x9 : Int32).toInt ≠ 11 := fun h => hx11 (Int32.toInt_inj.mp h)
                                                        have q12 : (x9 : Int32).toInt ≠ 12 := fun h => hx12 (Int32.toInt_inj.mp h)
                                                        have q13 : (x9 : Int32).toInt ≠ 13 := fun h => hx13 (Int32.toInt_inj.mp h)
                                                        have q14 : (x9 : Int32).toInt ≠ 14 := fun h => hx14 (Int32.toInt_inj.mp h)
                                                        have q15 : (x9 : Int32).toInt ≠ 15 := fun h => hx15 (Int32.toInt_inj.mp h)
                                                        have q16 : (x9 : Int32).toInt ≠ 16 := fun h => hx16 (Int32.toInt_inj.mp h)
                                                        have q17 : (x9 : Int32).toInt ≠ 17 := fun h => hx17 (Int32.toInt_inj.mp h)
                                                        have q18 : (x9 : Int32).toInt ≠ 18 := fun h => hx18 (Int32.toInt_inj.mp h)
                                                        have q19 : (x9 : Int32).toInt ≠ 19 := fun h => hx19 (Int32.toInt_inj.mp h)
                                                        have q20 : (x9 : Int32).toInt ≠ 20 := fun h => hx20 (Int32.toInt_inj.mp h)
                                                        have q21 : (x9 : Int32).toInt ≠ 21 := fun h => hx21 (Int32.toInt_inj.mp h)
                                                        have q22 : (x9 : Int32).toInt ≠ 22 := fun h => hx22 (Int32.toInt_inj.mp h)
                                                        omega
set_option maxHeartbeats 8000000 in
set_option maxRecDepth 100000 in
theorem law_walk {K : Cq} {k0 s0 : Nat} (hC : Cx K code "TensMillLaw") (hR : kR K = rmF 11 472 k0 s0) (hN : kn K = 4) {σ : St} {a0 : Nat} {r : Int32} {σf : St} {k s : Nat} (hf : f_L_law σ a0 = some (r, σf, k, s)) (hE : EndL K r) : V K (k + 0) (s + 0) σ 0 [(0, .ref a0)] [] := by
  unfold f_L_law at hf
  refine v_new hC hf (ty0 := tyX5) rfl ut_5 tyX5_ok (fun j hj => by rcases (show j = 0 ∨ j = 1 ∨ j = 2 ∨ j = 3 ∨ j = 4 ∨ j = 5 ∨ j = 6 ∨ j = 7 by omega) with rfl | rfl | rfl | rfl | rfl | rfl | rfl | rfl <;> rfl) w_69 w_70 w_58 dL_law_0 (fun r1 σ2 _ _ hf => ?_)
  refine v_dup hC dL_law_3 rfl ?_
  refine v_cIE hC (y := y_X5_init) [] [.ref r1] hf (fun _ _ _ _ h => m_X5_init h) rfl hR (Nat.le_of_ble_eq_true rfl) (Nat.le_of_ble_eq_true rfl) w_73 w_71 w_72 w_58 rfl nm_X5_init rfl (Nat.le_of_ble_eq_true rfl) dL_law_4 (fun _ σ3 _ _ hf => ?_)
  refine v_astore_n hC [(1, .ref r1), (0, .ref a0)] dL_law_7 rfl hN (Nat.le_of_ble_eq_true rfl) rfl ?_
  refine v_new hC hf (ty0 := tyX6) rfl ut_6 tyX6_ok (fun j hj => by rcases (show j = 0 ∨ j = 1 ∨ j = 2 ∨ j = 3 ∨ j = 4 ∨ j = 5 ∨ j = 6 ∨ j = 7 ∨ j = 8 ∨ j = 9 ∨ j = 10 by omega) with rfl | rfl | rfl | rfl | rfl | rfl | rfl | rfl | rfl | rfl | rfl <;> rfl) w_650 w_651 w_64 dL_law_8 (fun r4 σ5 _ _ hf => ?_)
  refine v_dup hC dL_law_11 rfl ?_
  refine v_cIE hC (y := y_X6_init) [] [.ref r4] hf (fun _ _ _ _ h => m_X6_init h) rfl hR (Nat.le_of_ble_eq_true rfl) (Nat.le_of_ble_eq_true rfl) w_654 w_652 w_653 w_64 rfl nm_X6_init rfl (Nat.le_of_ble_eq_true rfl) dL_law_12 (fun _ σ6 _ _ hf => ?_)
  refine v_astore_n hC [(2, .ref r4), (1, .ref r1), (0, .ref a0)] dL_law_15 rfl hN (Nat.le_of_ble_eq_true rfl) rfl ?_
  refine v_at 16 rfl ?_
  refine v_iconst (v := 0) hC dL_law_16 (by decide) ?_
  refine v_istore_n hC [(3, .int 0), (2, .ref r4), (1, .ref r1), (0, .ref a0)] dL_law_17 rfl hN (Nat.le_of_ble_eq_true rfl) rfl ?_
  refine v_at 18 rfl ?_
  refine v_sub [(0, .ref a0), (1, .ref r1), (2, .ref r4), (3, .int 0)] [3, 2, 1, 0] rfl ?_
  refine v_lpE hf (E_L_law_L18 K ) (fun _ _ _ _ _ _ h hE => v_L_law_L18 hC hR hN _ _ _ _ _ _ _ _ _ _ h hE) (fun y221 σ222 _ _ hf => ?_)
  show V K _ _ σ222 1131 [] []
  refine v_iconst (v := 1) hC dL_law_1131 (by decide) ?_
  exact v_retW hC hf hE dL_law_1132
