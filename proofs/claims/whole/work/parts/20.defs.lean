noncomputable def f_X2_init (σ : St) (a0 : Nat) : Rs Unit :=
  (lenOk 4).bind fun _ => nw σ (arI 4) (4 : Int32).toNatClampNeg fun r1 σ2 =>
  (pF σ2 2 a0 0 (.ref r1)).bind fun σ3 =>
  some ((), σ3, 0, 0)
noncomputable def f_X0_init (σ : St) (a0 : Nat) : Rs Unit :=
  nw σ (.inr (.inl (2, [.null, .int 0]))) 2 fun r1 σ2 =>
  bd (f_X2_init σ2 r1) fun _ σ3 =>
  (pF σ3 0 a0 0 (.ref r1)).bind fun σ4 =>
  some ((), σ4, 0, 0)
noncomputable def f_X2_isZero (σ : St) (a0 : Nat) : Option Int32 :=
  ob σ 2 a0 (
    (gI σ 2 a0 1).bind fun x1 =>
    if x1 = 0 then (
      (isB 1).bind fun _ => some 1
      ) else
    (isB 0).bind fun _ => some 0
    )
noncomputable def f_X0_signum (σ : St) (a0 : Nat) : Option Int32 :=
  ob σ 0 a0 (
    (gR σ 0 a0 0).bind fun r1 =>
    (f_X2_isZero σ r1).bind fun x2 =>
    if x2 = 0 then (
      (gI σ 0 a0 1).bind fun x3 =>
      if x3 = 0 then (
        some 1
        ) else
      some (-1)
      ) else
    some 0
    )
noncomputable def f_J9_max_7cf53 (σ : St) (i0 : Int32) (i1 : Int32) : Option Int32 :=
  if i0 < i1 then (
    some i1
    ) else
  some i0
noncomputable def f_J9_min_7cf53 (σ : St) (i0 : Int32) (i1 : Int32) : Option Int32 :=
  if i1 < i0 then (
    some i1
    ) else
  some i0
noncomputable def f_J7_copyOf_59c91 (σ : St) (a0 : Nat) (i1 : Int32) : Rs Nat :=
  (aLn σ a0).bind fun x1 =>
  if i1 = x1 then (
    none
    ) else
  (lenOk i1).bind fun _ => nw σ (arI i1) (i1 : Int32).toNatClampNeg fun r2 σ3 =>
  (aLn σ3 a0).bind fun x4 =>
  (f_J9_min_7cf53 σ3 x4 i1).bind fun x5 =>
  (cpy σ3 a0 0 r2 0 x5).bind fun σ6 =>
  some (r2, σ6, 0, 0)
noncomputable def f_X2_makeRoom (σ : St) (a0 : Nat) (i1 : Int32) : Rs Unit :=
  ob σ 2 a0 (
    (gR σ 2 a0 0).bind fun r1 =>
    (aLn σ r1).bind fun x2 =>
    if i1 ≤ x2 then (
      some ((), σ, 0, 0)
      ) else
    (gR σ 2 a0 0).bind fun r3 =>
    (gR σ 2 a0 0).bind fun r4 =>
    (aLn σ r4).bind fun x5 =>
    (f_J9_max_7cf53 σ i1 (2 * x5)).bind fun x6 =>
    bd (f_J7_copyOf_59c91 σ r3 x6) fun r7 σ8 =>
    (pF σ8 2 a0 0 (.ref r7)).bind fun σ9 =>
    some ((), σ9, 0, 0)
    )
noncomputable def f_X2_become (σ : St) (a0 : Nat) (a1 : Nat) : Rs Unit :=
  ob σ 2 a0 (
    (gI σ 2 a1 1).bind fun x1 =>
    bd (f_X2_makeRoom σ a0 x1) fun _ σ2 =>
    (gR σ2 2 a1 0).bind fun r3 =>
    (gR σ2 2 a0 0).bind fun r4 =>
    (gI σ2 2 a1 1).bind fun x5 =>
    (cpy σ2 r3 0 r4 0 x5).bind fun σ6 =>
    (gI σ6 2 a1 1).bind fun x7 =>
    (pF σ6 2 a0 1 (.int x7)).bind fun σ8 =>
    some ((), σ8, 0, 0)
    )
noncomputable def f_X0_become (σ : St) (a0 : Nat) (a1 : Nat) (i2 : Int32) (i3 : Int32) : Rs Unit :=
  ob σ 0 a0 (
    (gR σ 0 a0 0).bind fun r1 =>
    bd (f_X2_become σ r1 a1) fun _ σ2 =>
    jn (fun (z3 : Int32) => (
      (isB z3).bind fun _ =>
      (pF σ2 0 a0 1 (.int z3)).bind fun σ4 =>
      (pF σ4 0 a0 2 (.int i3)).bind fun σ5 =>
      some ((), σ5, 0, 0)
      )) fun k3 =>
    jn (fun (z6 : Unit) => (
      k3 0
      )) fun k6 =>
    if i2 = 0 then (
      k6 ()
      ) else
    (gR σ2 0 a0 0).bind fun r7 =>
    (f_X2_isZero σ2 r7).bind fun x8 =>
    if x8 = 0 then (
      k3 1
      ) else
    k6 ()
    )
noncomputable def f_X1_init (σ : St) (a0 : Nat) : Rs Unit :=
  some ((), σ, 0, 0)
noncomputable def b_X2_digitCount_L23 (rec : St → Nat → Int32 → Int32 → Option (Int32)) (σ : St) (a0 : Nat) (i1 : Int32) (i2 : Int32) : Option (Int32) :=
  if 9 ≤ i2 then (
    some i2
    ) else
  (ldI σ σ.2.2 i2).bind fun x5 =>
  if i1 < x5 then (
    some i2
    ) else
  lt (i2 + 1) fun x6 =>
  rec σ a0 i1 x6
noncomputable def f_X2_digitCount_L23 : Nat → St → Nat → Int32 → Int32 → Option (Int32)
  | 0, _, _, _, _ => none
  | n + 1, σ, a0, i1, i2 => b_X2_digitCount_L23 (f_X2_digitCount_L23 n) σ a0 i1 i2
noncomputable def f_X2_digitCount (σ : St) (a0 : Nat) : Option Int32 :=
  ob σ 2 a0 (
    (gI σ 2 a0 1).bind fun x1 =>
    if x1 = 0 then (
      some 1
      ) else
    (gR σ 2 a0 0).bind fun r2 =>
    (gI σ 2 a0 1).bind fun x3 =>
    (ldI σ r2 (x3 - 1)).bind fun x4 =>
    (f_X2_digitCount_L23 FU σ a0 x4 1).bind fun y7 =>
    (gI σ 2 a0 1).bind fun x8 =>
    some (((x8 - 1) * 9) + y7)
    )
noncomputable def f_J9_max_f86c9 (σ : St) (j0 : Int64) (j2 : Int64) : Option Int64 :=
  if j0 < j2 then (
    some j2
    ) else
  some j0
noncomputable def f_X1_planPlain (σ : St) (a0 : Nat) (a1 : Nat) : Rs Unit :=
  ob σ 1 a0 (
    (pF σ 1 a0 5 (.long 0)).bind fun σ1 =>
    (gI σ1 0 a1 2).bind fun x2 =>
    if x2 < 0 then (
      (pF σ1 1 a0 2 (.long 0)).bind fun σ3 =>
      (gR σ3 0 a1 0).bind fun r4 =>
      (f_X2_isZero σ3 r4).bind fun x5 =>
      jn (fun (z6 : Int64) => (
        (pF σ3 1 a0 3 (.long z6)).bind fun σ7 =>
        (gI σ7 1 a0 1).bind fun x8 =>
        (gL σ7 1 a0 3).bind fun l9 =>
        (pF σ7 1 a0 4 (.long (((x8 : Int32).toInt64) + l9))).bind fun σ10 =>
        some ((), σ10, 0, 0)
        )) fun k6 =>
      if x5 = 0 then (
        (gI σ3 0 a1 2).bind fun x11 =>
        k6 (-((x11 : Int32).toInt64))
        ) else
      k6 0
      ) else
    (gI σ1 0 a1 2).bind fun x12 =>
    (gI σ1 1 a0 1).bind fun x13 =>
    (f_J9_max_f86c9 σ1 0 ((((x12 : Int32).toInt64) + 1) - ((x13 : Int32).toInt64))).bind fun l14 =>
    (pF σ1 1 a0 2 (.long l14)).bind fun σ15 =>
    (pF σ15 1 a0 3 (.long 0)).bind fun σ16 =>
    (gL σ16 1 a0 2).bind fun l17 =>
    (gI σ16 1 a0 1).bind fun x18 =>
    (gI σ16 0 a1 2).bind fun x19 =>
    (pF σ16 1 a0 4 (.long ((l17 + ((x18 : Int32).toInt64)) - ((x19 : Int32).toInt64)))).bind fun σ20 =>
    some ((), σ20, 0, 0)
    )
noncomputable def f_J9_floorMod_f86c9 (σ : St) (j0 : Int64) (j2 : Int64) : Option Int64 :=
  (rmL j0 j2).bind fun l1 =>
  if 0 ≤ (j0 ^^^ j2) then (
    some l1
    ) else
  if l1 = 0 then (
    some l1
    ) else
  some (l1 + j2)
noncomputable def f_X1_plan (σ : St) (a0 : Nat) (a1 : Nat) (i2 : Int32) : Rs Unit :=
  ob σ 1 a0 (
    (gI σ 0 a1 1).bind fun x1 =>
    (isB x1).bind fun _ =>
    (pF σ 1 a0 0 (.int x1)).bind fun σ2 =>
    (gR σ2 0 a1 0).bind fun r3 =>
    (f_X2_digitCount σ2 r3).bind fun x4 =>
    (pF σ2 1 a0 1 (.int x4)).bind fun σ5 =>
    (gI σ5 1 a0 1).bind fun x6 =>
    (gI σ5 0 a1 2).bind fun x7 =>
    lt ((((x6 : Int32).toInt64) - 1) - ((x7 : Int32).toInt64)) fun l8 =>
    jn (fun (z9 : Unit) => (
      bd (f_X1_planPlain σ5 a0 a1) fun _ σ10 =>
      some ((), σ10, 0, 0)
      )) fun k9 =>
    if i2 = 2 then (
      k9 ()
      ) else
    (gI σ5 0 a1 2).bind fun x11 =>
    jn (fun (z12 : Unit) => (
      (pF σ5 1 a0 2 (.long 0)).bind fun σ13 =>
      (gR σ13 0 a1 0).bind fun r14 =>
      (f_X2_isZero σ13 r14).bind fun x15 =>
      if x15 = 0 then (
        jn (fun (z16 : Int64) => (
          (pF σ13 1 a0 4 (.long (1 + z16))).bind fun σ17 =>
          (gL σ17 1 a0 4).bind fun l18 =>
          (gI σ17 1 a0 1).bind fun x19 =>
          (f_J9_max_f86c9 σ17 0 (l18 - ((x19 : Int32).toInt64))).bind fun l20 =>
          (pF σ17 1 a0 3 (.long l20)).bind fun σ21 =>
          (pF σ21 1 a0 5 (.long (l8 - z16))).bind fun σ22 =>
          some ((), σ22, 0, 0)
          )) fun k16 =>
        if i2 = 1 then (
          (f_J9_floorMod_f86c9 σ13 l8 3).bind fun l23 =>
          k16 l23
          ) else
        k16 0
        ) else
      jn (fun (z24 : Int64) => (
        (pF σ13 1 a0 3 (.long z24)).bind fun σ25 =>
        (pF σ25 1 a0 4 (.long 1)).bind fun σ26 =>
        (gL σ26 1 a0 3).bind fun l27 =>
        (pF σ26 1 a0 5 (.long (l8 + l27))).bind fun σ28 =>
        some ((), σ28, 0, 0)
        )) fun k24 =>
      if i2 = 1 then (
        (f_J9_floorMod_f86c9 σ13 (-l8) 3).bind fun l29 =>
        k24 l29
        ) else
      k24 0
      )) fun k12 =>
    if x11 < 0 then (
      k12 ()
      ) else
    if l8 < (-6) then (
      k12 ()
      ) else
    k9 ()
    )
noncomputable def f_J9_abs_067f4 (σ : St) (j0 : Int64) : Option Int64 :=
  if 0 ≤ j0 then (
    some j0
    ) else
  some (-j0)
noncomputable def b_X1_highestUnit_L10 (rec : St → Int64 → Int64 → Option (Int64)) (σ : St) (j1 : Int64) (j3 : Int64) : Option (Int64) :=
  if 1000000000000 ≤ j3 then (
    some j3
    ) else
  (dvL j1 j3).bind fun l3 =>
  if l3 < 10 then (
    some j3
    ) else
  lt (j3 * 10) fun l4 =>
  rec σ j1 l4
noncomputable def f_X1_highestUnit_L10 : Nat → St → Int64 → Int64 → Option (Int64)
  | 0, _, _, _ => none
  | n + 1, σ, j1, j3 => b_X1_highestUnit_L10 (f_X1_highestUnit_L10 n) σ j1 j3
noncomputable def f_X1_highestUnit (σ : St) (a0 : Nat) : Option Int64 :=
  ob σ 1 a0 (
    (gL σ 1 a0 5).bind fun l1 =>
    (f_J9_abs_067f4 σ l1).bind fun l2 =>
    (f_X1_highestUnit_L10 FU σ l2 1).bind fun y5 =>
    some y5
    )
noncomputable def b_X1_length_L69 (rec : St → Int64 → Int64 → Option (Int64)) (σ : St) (j3 : Int64) (j5 : Int64) : Option (Int64) :=
  if j5 ≤ 1 then (
    some j3
    ) else
  lt (j3 + 1) fun l13 =>
  (dvL j5 10).bind fun l14 =>
  rec σ l13 l14
noncomputable def f_X1_length_L69 : Nat → St → Int64 → Int64 → Option (Int64)
  | 0, _, _, _ => none
  | n + 1, σ, j3, j5 => b_X1_length_L69 (f_X1_length_L69 n) σ j3 j5
noncomputable def f_X1_length (σ : St) (a0 : Nat) : Option Int64 :=
  ob σ 1 a0 (
    (gL σ 1 a0 2).bind fun l1 =>
    (gI σ 1 a0 1).bind fun x2 =>
    (gL σ 1 a0 3).bind fun l3 =>
    lt ((l1 + ((x2 : Int32).toInt64)) + l3) fun l4 =>
    (gI σ 1 a0 0).bind fun x5 =>
    jn (fun (z6 : Int32) => (
      (gL σ 1 a0 4).bind fun l7 =>
      jn (fun (z8 : Int32) => (
        lt ((l4 + ((z6 : Int32).toInt64)) + ((z8 : Int32).toInt64)) fun l9 =>
        (gL σ 1 a0 5).bind fun l10 =>
        if l10 = 0 then (
          some l9
          ) else
        lt (l9 + 3) fun l11 =>
        (f_X1_highestUnit σ a0).bind fun l12 =>
        (f_X1_length_L69 FU σ l11 l12).bind fun y15 =>
        some y15
        )) fun k8 =>
      if l4 ≤ l7 then (
        k8 0
        ) else
      k8 1
      )) fun k6 =>
    if x5 = 0 then (
      k6 0
      ) else
    k6 1
    )
noncomputable def f_J7_copyOf_9075b (σ : St) (a0 : Nat) (i1 : Int32) : Rs Nat :=
  (aLn σ a0).bind fun x1 =>
  if i1 = x1 then (
    none
    ) else
  (lenOk i1).bind fun _ => nw σ (arB i1) (i1 : Int32).toNatClampNeg fun r2 σ3 =>
  (aLn σ3 a0).bind fun x4 =>
  (f_J9_min_7cf53 σ3 x4 i1).bind fun x5 =>
  (cpyB σ3 a0 0 r2 0 x5).bind fun σ6 =>
  some (r2, σ6, 0, 0)
noncomputable def f_X4_makeRoom (σ : St) (a0 : Nat) (i1 : Int32) : Rs Unit :=
  ob σ 4 a0 (
    (gR σ 4 a0 0).bind fun r1 =>
    (aLn σ r1).bind fun x2 =>
    if i1 ≤ x2 then (
      some ((), σ, 0, 0)
      ) else
    (gR σ 4 a0 0).bind fun r3 =>
    (gR σ 4 a0 0).bind fun r4 =>
    (aLn σ r4).bind fun x5 =>
    (f_J9_max_7cf53 σ i1 (2 * x5)).bind fun x6 =>
    bd (f_J7_copyOf_9075b σ r3 x6) fun r7 σ8 =>
    (pF σ8 4 a0 0 (.ref r7)).bind fun σ9 =>
    some ((), σ9, 0, 0)
    )
noncomputable def f_X4_append (σ : St) (a0 : Nat) (i1 : Int32) : Rs Unit :=
  ob σ 4 a0 (
    (gI σ 4 a0 1).bind fun x1 =>
    bd (f_X4_makeRoom σ a0 (x1 + 1)) fun _ σ2 =>
    (gR σ2 4 a0 0).bind fun r3 =>
    (gI σ2 4 a0 1).bind fun x4 =>
    (stB σ2 r3 x4 ((i1 : Int32).toInt8.toInt32)).bind fun σ5 =>
    (gI σ5 4 a0 1).bind fun x6 =>
    (pF σ5 4 a0 1 (.int (x6 + 1))).bind fun σ7 =>
    some ((), σ7, 0, 0)
    )
noncomputable def f_X2_digitAt (σ : St) (a0 : Nat) (i1 : Int32) : Option Int32 :=
  ob σ 2 a0 (
    if i1 < 0 then (
      some 0
      ) else
    (dvI i1 9).bind fun x1 =>
    (gI σ 2 a0 1).bind fun x2 =>
    if x1 < x2 then (
      (gR σ 2 a0 0).bind fun r3 =>
      (dvI i1 9).bind fun x4 =>
      (ldI σ r3 x4).bind fun x5 =>
      (rmI i1 9).bind fun x6 =>
      (ldI σ σ.2.2 x6).bind fun x7 =>
      (dvI x5 x7).bind fun x8 =>
      (rmI x8 10).bind fun x9 =>
      some x9
      ) else
    some 0
    )
noncomputable def b_X1_layExponent_L50 (rec : St → Nat → Int64 → Int64 → Rs (Unit)) (σ : St) (a1 : Nat) (j2 : Int64) (j4 : Int64) : Rs (Unit) :=
  if j4 ≤ 0 then (
    some ((), σ, 0, 0)
    ) else
  (dvL j2 j4).bind fun l9 =>
  (rmL l9 10).bind fun l10 =>
  bd (f_X4_append σ a1 (48 + ((l10 : Int64).toInt32))) fun _ σ11 =>
  (dvL j4 10).bind fun l12 =>
  rec σ11 a1 j2 l12
noncomputable def f_X1_layExponent_L50 : Nat → St → Nat → Int64 → Int64 → Rs (Unit)
  | 0, _, _, _, _ => none
  | n + 1, σ, a1, j2, j4 => b_X1_layExponent_L50 (f_X1_layExponent_L50 n) σ a1 j2 j4
noncomputable def f_X1_layExponent (σ : St) (a0 : Nat) (a1 : Nat) : Rs Unit :=
  ob σ 1 a0 (
    (gL σ 1 a0 5).bind fun l1 =>
    if l1 = 0 then (
      some ((), σ, 0, 0)
      ) else
    bd (f_X4_append σ a1 69) fun _ σ2 =>
    (gL σ2 1 a0 5).bind fun l3 =>
    jn (fun (z4 : Int32) => (
      bd (f_X4_append σ2 a1 z4) fun _ σ5 =>
      (gL σ5 1 a0 5).bind fun l6 =>
      (f_J9_abs_067f4 σ5 l6).bind fun l7 =>
      (f_X1_highestUnit σ5 a0).bind fun l8 =>
      bd (f_X1_layExponent_L50 FU σ5 a1 l7 l8) fun y13 σ14 =>
      some ((), σ14, 0, 0)
      )) fun k4 =>
    if 0 ≤ l3 then (
      k4 43
      ) else
    k4 45
    )
noncomputable def b_X1_lay_L46 (rec : St → Nat → Nat → Nat → Int64 → Int32 → Rs (Unit)) (σ : St) (a0 : Nat) (a1 : Nat) (a2 : Nat) (j3 : Int64) (i5 : Int32) : Rs (Unit) :=
  if j3 ≤ ((i5 : Int32).toInt64) then (
    some ((), σ, 0, 0)
    ) else
  (gL σ 1 a0 4).bind fun l10 =>
  jn (fun (z11 : St) => (
    (gL z11 1 a0 2).bind fun l12 =>
    (gI z11 1 a0 1).bind fun x13 =>
    (f_X2_digitAt z11 a1 ((((l12 + ((x13 : Int32).toInt64)) - 1) - ((i5 : Int32).toInt64) : Int64).toInt32)).bind fun x14 =>
    bd (f_X4_append z11 a2 (48 + x14)) fun _ σ15 =>
    lt (i5 + 1) fun x16 =>
    rec σ15 a0 a1 a2 j3 x16
    )) fun k11 =>
  if ((i5 : Int32).toInt64) = l10 then (
    bd (f_X4_append σ a2 46) fun _ σ17 =>
    k11 σ17
    ) else
  k11 σ
noncomputable def f_X1_lay_L46 : Nat → St → Nat → Nat → Nat → Int64 → Int32 → Rs (Unit)
  | 0, _, _, _, _, _, _ => none
  | n + 1, σ, a0, a1, a2, j3, i5 => b_X1_lay_L46 (f_X1_lay_L46 n) σ a0 a1 a2 j3 i5
noncomputable def f_X1_lay (σ : St) (a0 : Nat) (a1 : Nat) (a2 : Nat) : Rs Unit :=
  ob σ 1 a0 (
    (pF σ 4 a2 1 (.int 0)).bind fun σ1 =>
    (f_X1_length σ1 a0).bind fun l2 =>
    bd (f_X4_makeRoom σ1 a2 ((l2 : Int64).toInt32)) fun _ σ3 =>
    (gI σ3 1 a0 0).bind fun x4 =>
    jn (fun (z5 : St) => (
      (gL z5 1 a0 2).bind fun l6 =>
      (gI z5 1 a0 1).bind fun x7 =>
      (gL z5 1 a0 3).bind fun l8 =>
      lt ((l6 + ((x7 : Int32).toInt64)) + l8) fun l9 =>
      bd (f_X1_lay_L46 FU z5 a0 a1 a2 l9 0) fun y18 σ19 =>
      bd (f_X1_layExponent σ19 a0 a2) fun _ σ20 =>
      some ((), σ20, 0, 0)
      )) fun k5 =>
    if x4 = 0 then (
      k5 σ3
      ) else
    bd (f_X4_append σ3 a2 45) fun _ σ21 =>
    k5 σ21
    )
noncomputable def f_X2_isOne (σ : St) (a0 : Nat) : Option Int32 :=
  ob σ 2 a0 (
    (gI σ 2 a0 1).bind fun x1 =>
    if x1 = 1 then (
      (gR σ 2 a0 0).bind fun r2 =>
      (ldI σ r2 0).bind fun x3 =>
      if x3 = 1 then (
        (isB 1).bind fun _ => some 1
        ) else
      (isB 0).bind fun _ => some 0
      ) else
    (isB 0).bind fun _ => some 0
    )
noncomputable def f_X2_isOdd (σ : St) (a0 : Nat) : Option Int32 :=
  ob σ 2 a0 (
    (gI σ 2 a0 1).bind fun x1 =>
    if x1 ≤ 0 then (
      (isB 0).bind fun _ => some 0
      ) else
    (gR σ 2 a0 0).bind fun r2 =>
    (ldI σ r2 0).bind fun x3 =>
    if (x3 &&& 1) = 0 then (
      (isB 0).bind fun _ => some 0
      ) else
    (isB 1).bind fun _ => some 1
    )
noncomputable def b_X2_endingZeros_L2 (rec : St → Nat → Int32 → Option (Int32)) (σ : St) (a0 : Nat) (i1 : Int32) : Option (Int32) :=
  (gI σ 2 a0 1).bind fun x1 =>
  if x1 ≤ i1 then (
    some i1
    ) else
  (gR σ 2 a0 0).bind fun r2 =>
  (ldI σ r2 i1).bind fun x3 =>
  if x3 = 0 then (
    lt (i1 + 1) fun x4 =>
    rec σ a0 x4
    ) else
  some i1
noncomputable def f_X2_endingZeros_L2 : Nat → St → Nat → Int32 → Option (Int32)
  | 0, _, _, _ => none
  | n + 1, σ, a0, i1 => b_X2_endingZeros_L2 (f_X2_endingZeros_L2 n) σ a0 i1
noncomputable def b_X2_endingZeros_L37 (rec : St → Nat → Int32 → Int32 → Option (Int32)) (σ : St) (a0 : Nat) (i1 : Int32) (i2 : Int32) : Option (Int32) :=
  if 8 ≤ i2 then (
    some i2
    ) else
  (gR σ 2 a0 0).bind fun r7 =>
  (ldI σ r7 i1).bind fun x8 =>
  (ldI σ σ.2.2 (i2 + 1)).bind fun x9 =>
  (rmI x8 x9).bind fun x10 =>
  if x10 = 0 then (
    lt (i2 + 1) fun x11 =>
    rec σ a0 i1 x11
    ) else
  some i2
noncomputable def f_X2_endingZeros_L37 : Nat → St → Nat → Int32 → Int32 → Option (Int32)
  | 0, _, _, _, _ => none
  | n + 1, σ, a0, i1, i2 => b_X2_endingZeros_L37 (f_X2_endingZeros_L37 n) σ a0 i1 i2
noncomputable def f_X2_endingZeros (σ : St) (a0 : Nat) : Option Int32 :=
  ob σ 2 a0 (
    (f_X2_endingZeros_L2 FU σ a0 0).bind fun y5 =>
    (gI σ 2 a0 1).bind fun x6 =>
    if y5 = x6 then (
      some 0
      ) else
    (f_X2_endingZeros_L37 FU σ a0 y5 0).bind fun y12 =>
    some ((y5 * 9) + y12)
    )
noncomputable def b_X2_hasDigitsBelow_L13 (rec : St → Nat → Int32 → Int32 → Int32 → Option ((Unit) ⊕ (Unit))) (σ : St) (a0 : Nat) (i1 : Int32) (i2 : Int32) (i3 : Int32) : Option ((Unit) ⊕ (Unit)) :=
  if i2 ≤ i3 then (
    some (.inr ())
    ) else
  (gI σ 2 a0 1).bind fun x2 =>
  if x2 ≤ i3 then (
    some (.inr ())
    ) else
  (gR σ 2 a0 0).bind fun r3 =>
  (ldI σ r3 i3).bind fun x4 =>
  if x4 = 0 then (
    lt (i3 + 1) fun x5 =>
    rec σ a0 i1 i2 x5
    ) else
  some (.inl ())
noncomputable def f_X2_hasDigitsBelow_L13 : Nat → St → Nat → Int32 → Int32 → Int32 → Option ((Unit) ⊕ (Unit))
  | 0, _, _, _, _, _ => none
  | n + 1, σ, a0, i1, i2, i3 => b_X2_hasDigitsBelow_L13 (f_X2_hasDigitsBelow_L13 n) σ a0 i1 i2 i3
noncomputable def f_X2_hasDigitsBelow (σ : St) (a0 : Nat) (i1 : Int32) : Option Int32 :=
  ob σ 2 a0 (
    if 0 < i1 then (
      (dvI i1 9).bind fun x1 =>
      (f_X2_hasDigitsBelow_L13 FU σ a0 i1 x1 0).bind fun y6 =>
      match y6 with
      | .inl z7 => (
        (isB 1).bind fun _ => some 1
        )
      | .inr z8 => (
        (gI σ 2 a0 1).bind fun x9 =>
        if x9 ≤ x1 then (
          (isB 0).bind fun _ => some 0
          ) else
        (gR σ 2 a0 0).bind fun r10 =>
        (ldI σ r10 x1).bind fun x11 =>
        (rmI i1 9).bind fun x12 =>
        (ldI σ σ.2.2 x12).bind fun x13 =>
        (rmI x11 x13).bind fun x14 =>
        if x14 = 0 then (
          (isB 0).bind fun _ => some 0
          ) else
        (isB 1).bind fun _ => some 1
        )
      ) else
    (isB 0).bind fun _ => some 0
    )
noncomputable def f_X2_clear (σ : St) (a0 : Nat) : Rs Unit :=
  ob σ 2 a0 (
    (pF σ 2 a0 1 (.int 0)).bind fun σ1 =>
    some ((), σ1, 0, 0)
    )
noncomputable def f_J9_abs_0f7a4 (σ : St) (i0 : Int32) : Option Int32 :=
  if 0 ≤ i0 then (
    some i0
    ) else
  some (-i0)
noncomputable def b_X2_becomeSizeOf_L7 (rec : St → Nat → Int64 → Rs (Unit)) (σ : St) (a0 : Nat) (j3 : Int64) : Rs (Unit) :=
  (gI σ 2 a0 1).bind fun x2 =>
  if 3 ≤ x2 then (
    some ((), σ, 0, 0)
    ) else
  if j3 = 0 then (
    some ((), σ, 0, 0)
    ) else
  (gR σ 2 a0 0).bind fun r3 =>
  (gI σ 2 a0 1).bind fun x4 =>
  (rmL j3 1000000000).bind fun l5 =>
  (f_J9_abs_0f7a4 σ ((l5 : Int64).toInt32)).bind fun x6 =>
  (stI σ r3 x4 x6).bind fun σ7 =>
  (dvL j3 1000000000).bind fun l8 =>
  (gI σ7 2 a0 1).bind fun x9 =>
  (pF σ7 2 a0 1 (.int (x9 + 1))).bind fun σ10 =>
  rec σ10 a0 l8
noncomputable def f_X2_becomeSizeOf_L7 : Nat → St → Nat → Int64 → Rs (Unit)
  | 0, _, _, _ => none
  | n + 1, σ, a0, j3 => b_X2_becomeSizeOf_L7 (f_X2_becomeSizeOf_L7 n) σ a0 j3
noncomputable def f_X2_becomeSizeOf (σ : St) (a0 : Nat) (j1 : Int64) : Rs Unit :=
  ob σ 2 a0 (
    (pF σ 2 a0 1 (.int 0)).bind fun σ1 =>
    bd (f_X2_becomeSizeOf_L7 FU σ1 a0 j1) fun y11 σ12 =>
    some ((), σ12, 0, 0)
    )
noncomputable def b_X2_emptyLimbs_L2 (rec : St → Nat → Int32 → Int32 → Rs (Unit)) (σ : St) (a0 : Nat) (i1 : Int32) (i2 : Int32) : Rs (Unit) :=
  if i1 ≤ i2 then (
    some ((), σ, 0, 0)
    ) else
  (gR σ 2 a0 0).bind fun r1 =>
  (aLn σ r1).bind fun x2 =>
  if x2 ≤ i2 then (
    some ((), σ, 0, 0)
    ) else
  (gR σ 2 a0 0).bind fun r3 =>
  (stI σ r3 i2 0).bind fun σ4 =>
  lt (i2 + 1) fun x5 =>
  rec σ4 a0 i1 x5
noncomputable def f_X2_emptyLimbs_L2 : Nat → St → Nat → Int32 → Int32 → Rs (Unit)
  | 0, _, _, _, _ => none
  | n + 1, σ, a0, i1, i2 => b_X2_emptyLimbs_L2 (f_X2_emptyLimbs_L2 n) σ a0 i1 i2
noncomputable def f_X2_emptyLimbs (σ : St) (a0 : Nat) (i1 : Int32) : Rs Unit :=
  ob σ 2 a0 (
    bd (f_X2_emptyLimbs_L2 FU σ a0 i1 0) fun y6 σ7 =>
    some ((), σ7, 0, 0)
    )
noncomputable def f_X4_codeAt (σ : St) (a0 : Nat) (i1 : Int32) : Option Int32 :=
  ob σ 4 a0 (
    if i1 < 0 then (
      some (-1)
      ) else
    (gI σ 4 a0 1).bind fun x1 =>
    if x1 ≤ i1 then (
      some (-1)
      ) else
    (gR σ 4 a0 0).bind fun r2 =>
    (ldB σ r2 i1).bind fun x3 =>
    some x3
    )
noncomputable def b_X2_trim_L0 (rec : St → Nat → Rs (Unit)) (σ : St) (a0 : Nat) : Rs (Unit) :=
  (gI σ 2 a0 1).bind fun x1 =>
  if x1 ≤ 0 then (
    some ((), σ, 0, 0)
    ) else
  (gR σ 2 a0 0).bind fun r2 =>
  (gI σ 2 a0 1).bind fun x3 =>
  (ldI σ r2 (x3 - 1)).bind fun x4 =>
  if x4 = 0 then (
    (gI σ 2 a0 1).bind fun x5 =>
    (pF σ 2 a0 1 (.int (x5 - 1))).bind fun σ6 =>
    rec σ6 a0
    ) else
  some ((), σ, 0, 0)
noncomputable def f_X2_trim_L0 : Nat → St → Nat → Rs (Unit)
  | 0, _, _ => none
  | n + 1, σ, a0 => b_X2_trim_L0 (f_X2_trim_L0 n) σ a0
noncomputable def f_X2_trim (σ : St) (a0 : Nat) : Rs Unit :=
  ob σ 2 a0 (
    bd (f_X2_trim_L0 FU σ a0) fun y7 σ8 =>
    some ((), σ8, 0, 0)
    )
noncomputable def b_X2_becomeDigits_L30 (rec : St → Nat → Nat → Int32 → Int32 → Int32 → Int32 → Rs (Unit)) (σ : St) (a0 : Nat) (a1 : Nat) (i2 : Int32) (i4 : Int32) (i5 : Int32) (i6 : Int32) : Rs (Unit) :=
  if i6 < i2 then (
    some ((), σ, 0, 0)
    ) else
  (f_X4_codeAt σ a1 i6).bind fun x6 =>
  jn (fun (z7 : Int32 × St) => (
    lt (i6 + (-1)) fun x8 =>
    rec z7.2 a0 a1 i2 i4 z7.1 x8
    )) fun k7 =>
  if x6 = 46 then (
    k7 (i5, σ)
    ) else
  (gR σ 2 a0 0).bind fun r9 =>
  (dvI i5 9).bind fun x10 =>
  (ldI σ r9 x10).bind fun x11 =>
  (rmI i5 9).bind fun x12 =>
  (ldI σ σ.2.2 x12).bind fun x13 =>
  (stI σ r9 x10 (x11 + ((x6 - 48) * x13))).bind fun σ14 =>
  lt (i5 + 1) fun x15 =>
  k7 (x15, σ14)
noncomputable def f_X2_becomeDigits_L30 : Nat → St → Nat → Nat → Int32 → Int32 → Int32 → Int32 → Rs (Unit)
  | 0, _, _, _, _, _, _, _ => none
  | n + 1, σ, a0, a1, i2, i4, i5, i6 => b_X2_becomeDigits_L30 (f_X2_becomeDigits_L30 n) σ a0 a1 i2 i4 i5 i6
noncomputable def f_X2_becomeDigits (σ : St) (a0 : Nat) (a1 : Nat) (i2 : Int32) (i3 : Int32) : Rs Unit :=
  ob σ 2 a0 (
    (dvI (i3 - i2) 9).bind fun x1 =>
    lt (x1 + 1) fun x2 =>
    bd (f_X2_makeRoom σ a0 x2) fun _ σ3 =>
    bd (f_X2_emptyLimbs σ3 a0 x2) fun _ σ4 =>
    lt (i3 - 1) fun x5 =>
    bd (f_X2_becomeDigits_L30 FU σ4 a0 a1 i2 x2 0 x5) fun y16 σ17 =>
    (pF σ17 2 a0 1 (.int x2)).bind fun σ18 =>
    bd (f_X2_trim σ18 a0) fun _ σ19 =>
    some ((), σ19, 0, 0)
    )
noncomputable def b_X2_raise_L57 (rec : St → Nat → Nat → Int32 → Int32 → Int32 → Int32 → Int32 → Rs (Int32)) (σ : St) (a0 : Nat) (a1 : Nat) (i3 : Int32) (i4 : Int32) (i5 : Int32) (i6 : Int32) (i7 : Int32) : Rs (Int32) :=
  if i7 < 0 then (
    some (i6, σ, 0, 0)
    ) else
  (gR σ 2 a1 0).bind fun r10 =>
  (ldI σ r10 i7).bind fun x11 =>
  lt (((x11 : Int32).toInt64) * ((i4 : Int32).toInt64)) fun l12 =>
  (dvL l12 1000000000).bind fun l13 =>
  lt ((l13 : Int64).toInt32) fun x14 =>
  (gR σ 2 a0 0).bind fun r15 =>
  (stI σ r15 ((i7 + i3) + 1) (i6 + x14)).bind fun σ16 =>
  lt ((l12 - (((x14 : Int32).toInt64) * 1000000000) : Int64).toInt32) fun x17 =>
  lt (i7 + (-1)) fun x18 =>
  rec σ16 a0 a1 i3 i4 i5 x17 x18
noncomputable def f_X2_raise_L57 : Nat → St → Nat → Nat → Int32 → Int32 → Int32 → Int32 → Int32 → Rs (Int32)
  | 0, _, _, _, _, _, _, _, _ => none
  | n + 1, σ, a0, a1, i3, i4, i5, i6, i7 => b_X2_raise_L57 (f_X2_raise_L57 n) σ a0 a1 i3 i4 i5 i6 i7
noncomputable def f_X2_raise (σ : St) (a0 : Nat) (a1 : Nat) (i2 : Int32) : Rs Unit :=
  ob σ 2 a0 (
    (gI σ 2 a1 1).bind fun x1 =>
    jn (fun (z2 : Unit) => (
      (pF σ 2 a0 1 (.int 0)).bind fun σ3 =>
      some ((), σ3, 0, 0)
      )) fun k2 =>
    if x1 = 0 then (
      k2 ()
      ) else
    if 0 ≤ i2 then (
      (dvI i2 9).bind fun x4 =>
      (rmI i2 9).bind fun x5 =>
      (ldI σ σ.2.2 x5).bind fun x6 =>
      (gI σ 2 a1 1).bind fun x7 =>
      bd (f_X2_makeRoom σ a0 ((x7 + x4) + 1)) fun _ σ8 =>
      lt (x7 - 1) fun x9 =>
      bd (f_X2_raise_L57 FU σ8 a0 a1 x4 x6 x7 0 x9) fun y19 σ20 =>
      (gR σ20 2 a0 0).bind fun r21 =>
      (stI σ20 r21 x4 y19).bind fun σ22 =>
      bd (f_X2_emptyLimbs σ22 a0 x4) fun _ σ23 =>
      (pF σ23 2 a0 1 (.int ((x7 + x4) + 1))).bind fun σ24 =>
      bd (f_X2_trim σ24 a0) fun _ σ25 =>
      some ((), σ25, 0, 0)
      ) else
    k2 ()
    )
noncomputable def b_X2_drop_L57 (rec : St → Nat → Int32 → Int32 → Int32 → Int32 → Int32 → Rs (Unit)) (σ : St) (a0 : Nat) (i2 : Int32) (i3 : Int32) (i4 : Int32) (i5 : Int32) (i6 : Int32) : Rs (Unit) :=
  if (i5 - 1) ≤ i6 then (
    some ((), σ, 0, 0)
    ) else
  (gR σ 2 a0 0).bind fun r9 =>
  (gR σ 2 a0 0).bind fun r10 =>
  (ldI σ r10 (i6 + i2)).bind fun x11 =>
  (dvI x11 i3).bind fun x12 =>
  (gR σ 2 a0 0).bind fun r13 =>
  (ldI σ r13 ((i6 + i2) + 1)).bind fun x14 =>
  (rmI x14 i3).bind fun x15 =>
  (stI σ r9 i6 (x12 + (x15 * i4))).bind fun σ16 =>
  lt (i6 + 1) fun x17 =>
  rec σ16 a0 i2 i3 i4 i5 x17
noncomputable def f_X2_drop_L57 : Nat → St → Nat → Int32 → Int32 → Int32 → Int32 → Int32 → Rs (Unit)
  | 0, _, _, _, _, _, _, _ => none
  | n + 1, σ, a0, i2, i3, i4, i5, i6 => b_X2_drop_L57 (f_X2_drop_L57 n) σ a0 i2 i3 i4 i5 i6
noncomputable def f_X2_drop (σ : St) (a0 : Nat) (i1 : Int32) : Rs Unit :=
  ob σ 2 a0 (
    if 0 < i1 then (
      (dvI i1 9).bind fun x1 =>
      (gI σ 2 a0 1).bind fun x2 =>
      if x1 < x2 then (
        (rmI i1 9).bind fun x3 =>
        (ldI σ σ.2.2 x3).bind fun x4 =>
        (rmI i1 9).bind fun x5 =>
        (ldI σ σ.2.2 (9 - x5)).bind fun x6 =>
        (gI σ 2 a0 1).bind fun x7 =>
        lt (x7 - x1) fun x8 =>
        bd (f_X2_drop_L57 FU σ a0 x1 x4 x6 x8 0) fun y18 σ19 =>
        (gR σ19 2 a0 0).bind fun r20 =>
        (gR σ19 2 a0 0).bind fun r21 =>
        (gI σ19 2 a0 1).bind fun x22 =>
        (ldI σ19 r21 (x22 - 1)).bind fun x23 =>
        (dvI x23 x4).bind fun x24 =>
        (stI σ19 r20 (x8 - 1) x24).bind fun σ25 =>
        (pF σ25 2 a0 1 (.int x8)).bind fun σ26 =>
        bd (f_X2_trim σ26 a0) fun _ σ27 =>
        some ((), σ27, 0, 0)
        ) else
      (pF σ 2 a0 1 (.int 0)).bind fun σ28 =>
      some ((), σ28, 0, 0)
      ) else
    some ((), σ, 0, 0)
    )
noncomputable def f_X2_cut (σ : St) (a0 : Nat) (i1 : Int32) (i2 : Int32) : Rs Int32 :=
  ob σ 2 a0 (
    if 0 < i1 then (
      (f_X2_digitAt σ a0 (i1 - 1)).bind fun x1 =>
      jn (fun (z2 : Int32) => (
        bd (f_X2_drop σ a0 i1) fun _ σ3 =>
        jn (fun (z4 : Unit) => (
          jn (fun (z5 : Unit) => (
            if 5 ≤ x1 then (
              some (3, σ3, 0, 0)
              ) else
            some (1, σ3, 0, 0)
            )) fun k5 =>
          if x1 = 5 then (
            if z2 = 0 then (
              some (2, σ3, 0, 0)
              ) else
            k5 ()
            ) else
          k5 ()
          )) fun k4 =>
        if x1 = 0 then (
          if z2 = 0 then (
            some (0, σ3, 0, 0)
            ) else
          k4 ()
          ) else
        k4 ()
        )) fun k2 =>
      jn (fun (z6 : Unit) => (
        k2 1
        )) fun k6 =>
      if i2 = 0 then (
        (f_X2_hasDigitsBelow σ a0 (i1 - 1)).bind fun x7 =>
        if x7 = 0 then (
          k2 0
          ) else
        k6 ()
        ) else
      k6 ()
      ) else
    if i2 = 0 then (
      some (0, σ, 0, 0)
      ) else
    some (1, σ, 0, 0)
    )
noncomputable def b_X2_addOne_L2 (rec : St → Nat → Int32 → Rs (Int32)) (σ : St) (a0 : Nat) (i1 : Int32) : Rs (Int32) :=
  (gI σ 2 a0 1).bind fun x1 =>
  if x1 ≤ i1 then (
    some (i1, σ, 0, 0)
    ) else
  (gR σ 2 a0 0).bind fun r2 =>
  (ldI σ r2 i1).bind fun x3 =>
  if x3 = 999999999 then (
    (gR σ 2 a0 0).bind fun r4 =>
    (stI σ r4 i1 0).bind fun σ5 =>
    lt (i1 + 1) fun x6 =>
    rec σ5 a0 x6
    ) else
  some (i1, σ, 0, 0)
noncomputable def f_X2_addOne_L2 : Nat → St → Nat → Int32 → Rs (Int32)
  | 0, _, _, _ => none
  | n + 1, σ, a0, i1 => b_X2_addOne_L2 (f_X2_addOne_L2 n) σ a0 i1
noncomputable def f_X2_addOne (σ : St) (a0 : Nat) : Rs Unit :=
  ob σ 2 a0 (
    bd (f_X2_addOne_L2 FU σ a0 0) fun y7 σ8 =>
    (gI σ8 2 a0 1).bind fun x9 =>
    if x9 ≤ y7 then (
      (gI σ8 2 a0 1).bind fun x10 =>
      bd (f_X2_makeRoom σ8 a0 (x10 + 1)) fun _ σ11 =>
      (gR σ11 2 a0 0).bind fun r12 =>
      (gI σ11 2 a0 1).bind fun x13 =>
      (stI σ11 r12 x13 1).bind fun σ14 =>
      (gI σ14 2 a0 1).bind fun x15 =>
      (pF σ14 2 a0 1 (.int (x15 + 1))).bind fun σ16 =>
      some ((), σ16, 0, 0)
      ) else
    (gR σ8 2 a0 0).bind fun r17 =>
    (ldI σ8 r17 y7).bind fun x18 =>
    (stI σ8 r17 y7 (x18 + 1)).bind fun σ19 =>
    some ((), σ19, 0, 0)
    )
noncomputable def b_X2_order_L35 (rec : St → Nat → Nat → Int32 → Option ((Int32) ⊕ (Unit))) (σ : St) (a0 : Nat) (a1 : Nat) (i2 : Int32) : Option ((Int32) ⊕ (Unit)) :=
  if i2 < 0 then (
    some (.inr ())
    ) else
  (gR σ 2 a0 0).bind fun r5 =>
  (ldI σ r5 i2).bind fun x6 =>
  (gR σ 2 a1 0).bind fun r7 =>
  (ldI σ r7 i2).bind fun x8 =>
  if x6 = x8 then (
    lt (i2 + (-1)) fun x9 =>
    rec σ a0 a1 x9
    ) else
  some (.inl i2)
noncomputable def f_X2_order_L35 : Nat → St → Nat → Nat → Int32 → Option ((Int32) ⊕ (Unit))
  | 0, _, _, _, _ => none
  | n + 1, σ, a0, a1, i2 => b_X2_order_L35 (f_X2_order_L35 n) σ a0 a1 i2
noncomputable def f_X2_order (σ : St) (a0 : Nat) (a1 : Nat) : Option Int32 :=
  (gI σ 2 a0 1).bind fun x1 =>
  (gI σ 2 a1 1).bind fun x2 =>
  if x1 = x2 then (
    (gI σ 2 a0 1).bind fun x3 =>
    lt (x3 - 1) fun x4 =>
    (f_X2_order_L35 FU σ a0 a1 x4).bind fun y10 =>
    match y10 with
    | .inl z11 => (
      (gR σ 2 a0 0).bind fun r12 =>
      (ldI σ r12 z11).bind fun x13 =>
      (gR σ 2 a1 0).bind fun r14 =>
      (ldI σ r14 z11).bind fun x15 =>
      if x13 ≤ x15 then (
        some (-1)
        ) else
      some 1
      )
    | .inr z16 => (
      some 0
      )
    ) else
  (gI σ 2 a0 1).bind fun x17 =>
  (gI σ 2 a1 1).bind fun x18 =>
  if x17 ≤ x18 then (
    some (-1)
    ) else
  some 1
noncomputable def b_X2_becomeSum_L25 (rec : St → Nat → Nat → Nat → Int32 → Int32 → Int32 → Rs (Int32)) (σ : St) (a0 : Nat) (a1 : Nat) (a2 : Nat) (i3 : Int32) (i4 : Int32) (i5 : Int32) : Rs (Int32) :=
  if i3 ≤ i5 then (
    some (i4, σ, 0, 0)
    ) else
  (gI σ 2 a1 1).bind fun x5 =>
  jn (fun (z6 : Int32) => (
    lt (i4 + z6) fun x7 =>
    (gI σ 2 a2 1).bind fun x8 =>
    jn (fun (z9 : Int32) => (
      lt (x7 + z9) fun x10 =>
      jn (fun (z11 : Int32) => (
        (gR σ 2 a0 0).bind fun r12 =>
        jn (fun (z13 : Int32) => (
          (stI σ r12 i5 z13).bind fun σ14 =>
          lt (i5 + 1) fun x15 =>
          rec σ14 a0 a1 a2 i3 z11 x15
          )) fun k13 =>
        if z11 = 0 then (
          k13 x10
          ) else
        k13 (x10 - 1000000000)
        )) fun k11 =>
      if x10 < 1000000000 then (
        k11 0
        ) else
      k11 1
      )) fun k9 =>
    if x8 ≤ i5 then (
      k9 0
      ) else
    (gR σ 2 a2 0).bind fun r16 =>
    (ldI σ r16 i5).bind fun x17 =>
    k9 x17
    )) fun k6 =>
  if x5 ≤ i5 then (
    k6 0
    ) else
  (gR σ 2 a1 0).bind fun r18 =>
  (ldI σ r18 i5).bind fun x19 =>
  k6 x19
noncomputable def f_X2_becomeSum_L25 : Nat → St → Nat → Nat → Nat → Int32 → Int32 → Int32 → Rs (Int32)
  | 0, _, _, _, _, _, _, _ => none
  | n + 1, σ, a0, a1, a2, i3, i4, i5 => b_X2_becomeSum_L25 (f_X2_becomeSum_L25 n) σ a0 a1 a2 i3 i4 i5
noncomputable def f_X2_becomeSum (σ : St) (a0 : Nat) (a1 : Nat) (a2 : Nat) : Rs Unit :=
  ob σ 2 a0 (
    (gI σ 2 a1 1).bind fun x1 =>
    (gI σ 2 a2 1).bind fun x2 =>
    (f_J9_max_7cf53 σ x1 x2).bind fun x3 =>
    bd (f_X2_makeRoom σ a0 (x3 + 1)) fun _ σ4 =>
    bd (f_X2_becomeSum_L25 FU σ4 a0 a1 a2 x3 0 0) fun y20 σ21 =>
    (gR σ21 2 a0 0).bind fun r22 =>
    (stI σ21 r22 x3 y20).bind fun σ23 =>
    (pF σ23 2 a0 1 (.int (x3 + 1))).bind fun σ24 =>
    bd (f_X2_trim σ24 a0) fun _ σ25 =>
    some ((), σ25, 0, 0)
    )
noncomputable def b_X2_subtract_L4 (rec : St → Nat → Nat → Int32 → Int32 → Rs (Unit)) (σ : St) (a0 : Nat) (a1 : Nat) (i2 : Int32) (i3 : Int32) : Rs (Unit) :=
  (gI σ 2 a0 1).bind fun x1 =>
  if x1 ≤ i3 then (
    some ((), σ, 0, 0)
    ) else
  (gI σ 2 a1 1).bind fun x2 =>
  jn (fun (z3 : Unit) => (
    (gR σ 2 a0 0).bind fun r4 =>
    (ldI σ r4 i3).bind fun x5 =>
    (gI σ 2 a1 1).bind fun x6 =>
    jn (fun (z7 : Int32) => (
      lt ((x5 - i2) - z7) fun x8 =>
      jn (fun (z9 : Int32) => (
        (gR σ 2 a0 0).bind fun r10 =>
        jn (fun (z11 : Int32) => (
          (stI σ r10 i3 z11).bind fun σ12 =>
          lt (i3 + 1) fun x13 =>
          rec σ12 a0 a1 z9 x13
          )) fun k11 =>
        if z9 = 0 then (
          k11 x8
          ) else
        k11 (x8 + 1000000000)
        )) fun k9 =>
      if 0 ≤ x8 then (
        k9 0
        ) else
      k9 1
      )) fun k7 =>
    if x6 ≤ i3 then (
      k7 0
      ) else
    (gR σ 2 a1 0).bind fun r14 =>
    (ldI σ r14 i3).bind fun x15 =>
    k7 x15
    )) fun k3 =>
  if i3 < x2 then (
    k3 ()
    ) else
  if i2 = 0 then (
    some ((), σ, 0, 0)
    ) else
  k3 ()
noncomputable def f_X2_subtract_L4 : Nat → St → Nat → Nat → Int32 → Int32 → Rs (Unit)
  | 0, _, _, _, _, _ => none
  | n + 1, σ, a0, a1, i2, i3 => b_X2_subtract_L4 (f_X2_subtract_L4 n) σ a0 a1 i2 i3
noncomputable def f_X2_subtract (σ : St) (a0 : Nat) (a1 : Nat) : Rs Unit :=
  ob σ 2 a0 (
    bd (f_X2_subtract_L4 FU σ a0 a1 0 0) fun y16 σ17 =>
    bd (f_X2_trim σ17 a0) fun _ σ18 =>
    some ((), σ18, 0, 0)
    )
noncomputable def b_X2_addTimes_L12 (rec : St → Nat → Int32 → Int64 → Int32 → Nat → Int64 → Int32 → Rs (Int64)) (σ : St) (a1 : Nat) (i2 : Int32) (j3 : Int64) (i5 : Int32) (a6 : Nat) (j7 : Int64) (i9 : Int32) : Rs (Int64) :=
  if i2 ≤ i9 then (
    some (j7, σ, 0, 0)
    ) else
  (ldI σ a1 i9).bind fun x2 =>
  (ldI σ a6 (i9 + i5)).bind fun x3 =>
  lt (((((x2 : Int32).toInt64) * j3) + ((x3 : Int32).toInt64)) + j7) fun l4 =>
  (dvL l4 1000000000).bind fun l5 =>
  (stI σ a6 (i9 + i5) ((l4 - (l5 * 1000000000) : Int64).toInt32)).bind fun σ6 =>
  lt (i9 + 1) fun x7 =>
  rec σ6 a1 i2 j3 i5 a6 l5 x7
noncomputable def f_X2_addTimes_L12 : Nat → St → Nat → Int32 → Int64 → Int32 → Nat → Int64 → Int32 → Rs (Int64)
  | 0, _, _, _, _, _, _, _, _ => none
  | n + 1, σ, a1, i2, j3, i5, a6, j7, i9 => b_X2_addTimes_L12 (f_X2_addTimes_L12 n) σ a1 i2 j3 i5 a6 j7 i9
noncomputable def f_X2_addTimes (σ : St) (a0 : Nat) (a1 : Nat) (i2 : Int32) (j3 : Int64) (i5 : Int32) : Rs Unit :=
  ob σ 2 a0 (
    (gR σ 2 a0 0).bind fun r1 =>
    bd (f_X2_addTimes_L12 FU σ a1 i2 j3 i5 r1 0 0) fun y8 σ9 =>
    (stI σ9 r1 (i2 + i5) ((y8 : Int64).toInt32)).bind fun σ10 =>
    some ((), σ10, 0, 0)
    )
noncomputable def b_X2_becomeProduct_L23 (rec : St → Nat → Nat → Nat → Int32 → Int32 → Rs (Unit)) (σ : St) (a0 : Nat) (a1 : Nat) (a2 : Nat) (i3 : Int32) (i4 : Int32) : Rs (Unit) :=
  (gI σ 2 a1 1).bind fun x6 =>
  if x6 ≤ i4 then (
    some ((), σ, 0, 0)
    ) else
  (gR σ 2 a1 0).bind fun r7 =>
  (ldI σ r7 i4).bind fun x8 =>
  jn (fun (z9 : St) => (
    lt (i4 + 1) fun x10 =>
    rec z9 a0 a1 a2 i3 x10
    )) fun k9 =>
  if x8 = 0 then (
    k9 σ
    ) else
  (gR σ 2 a2 0).bind fun r11 =>
  (gI σ 2 a2 1).bind fun x12 =>
  (gR σ 2 a1 0).bind fun r13 =>
  (ldI σ r13 i4).bind fun x14 =>
  bd (f_X2_addTimes σ a0 r11 x12 ((x14 : Int32).toInt64) i4) fun _ σ15 =>
  k9 σ15
noncomputable def f_X2_becomeProduct_L23 : Nat → St → Nat → Nat → Nat → Int32 → Int32 → Rs (Unit)
  | 0, _, _, _, _, _, _ => none
  | n + 1, σ, a0, a1, a2, i3, i4 => b_X2_becomeProduct_L23 (f_X2_becomeProduct_L23 n) σ a0 a1 a2 i3 i4
noncomputable def f_X2_becomeProduct (σ : St) (a0 : Nat) (a1 : Nat) (a2 : Nat) : Rs Unit :=
  ob σ 2 a0 (
    (gI σ 2 a1 1).bind fun x1 =>
    (gI σ 2 a2 1).bind fun x2 =>
    lt (x1 + x2) fun x3 =>
    bd (f_X2_makeRoom σ a0 x3) fun _ σ4 =>
    bd (f_X2_emptyLimbs σ4 a0 x3) fun _ σ5 =>
    bd (f_X2_becomeProduct_L23 FU σ5 a0 a1 a2 x3 0) fun y16 σ17 =>
    (pF σ17 2 a0 1 (.int x3)).bind fun σ18 =>
    bd (f_X2_trim σ18 a0) fun _ σ19 =>
    some ((), σ19, 0, 0)
    )
noncomputable def b_X2_reduceByLimb_L23 (rec : St → Nat → Nat → Int32 → Int64 → Int32 → Rs (Int64)) (σ : St) (a0 : Nat) (a1 : Nat) (i2 : Int32) (j3 : Int64) (i5 : Int32) : Rs (Int64) :=
  if i5 < 0 then (
    some (j3, σ, 0, 0)
    ) else
  (gR σ 2 a0 0).bind fun r5 =>
  (ldI σ r5 i5).bind fun x6 =>
  lt ((j3 * 1000000000) + ((x6 : Int32).toInt64)) fun l7 =>
  (dvL l7 ((i2 : Int32).toInt64)).bind fun l8 =>
  (gR σ 2 a1 0).bind fun r9 =>
  (stI σ r9 i5 ((l8 : Int64).toInt32)).bind fun σ10 =>
  lt (l7 - (l8 * ((i2 : Int32).toInt64))) fun l11 =>
  lt (i5 + (-1)) fun x12 =>
  rec σ10 a0 a1 i2 l11 x12
noncomputable def f_X2_reduceByLimb_L23 : Nat → St → Nat → Nat → Int32 → Int64 → Int32 → Rs (Int64)
  | 0, _, _, _, _, _, _ => none
  | n + 1, σ, a0, a1, i2, j3, i5 => b_X2_reduceByLimb_L23 (f_X2_reduceByLimb_L23 n) σ a0 a1 i2 j3 i5
noncomputable def f_X2_reduceByLimb (σ : St) (a0 : Nat) (a1 : Nat) (i2 : Int32) : Rs Unit :=
  ob σ 2 a0 (
    if i2 = 0 then (
      some ((), σ, 0, 0)
      ) else
    (gI σ 2 a0 1).bind fun x1 =>
    bd (f_X2_makeRoom σ a1 x1) fun _ σ2 =>
    (gI σ2 2 a0 1).bind fun x3 =>
    lt (x3 - 1) fun x4 =>
    bd (f_X2_reduceByLimb_L23 FU σ2 a0 a1 i2 0 x4) fun y13 σ14 =>
    (gI σ14 2 a0 1).bind fun x15 =>
    (pF σ14 2 a1 1 (.int x15)).bind fun σ16 =>
    bd (f_X2_trim σ16 a1) fun _ σ17 =>
    (gR σ17 2 a0 0).bind fun r18 =>
    (stI σ17 r18 0 ((y13 : Int64).toInt32)).bind fun σ19 =>
    (pF σ19 2 a0 1 (.int 1)).bind fun σ20 =>
    bd (f_X2_trim σ20 a0) fun _ σ21 =>
    some ((), σ21, 0, 0)
    )
noncomputable def f_J9_min_f86c9 (σ : St) (j0 : Int64) (j2 : Int64) : Option Int64 :=
  if j2 < j0 then (
    some j2
    ) else
  some j0
noncomputable def f_X2_refine (σ : St) (j0 : Int64) (j2 : Int64) (j4 : Int64) (j6 : Int64) (j8 : Int64) : Option Int32 :=
  lt (((j0 * j6) - (j2 * 1000000000)) - j8) fun l1 =>
  lt ((j4 * 1000000000) + j6) fun l2 =>
  jn (fun (z3 : Int64) => (
    (f_J9_min_f86c9 σ z3 999999999).bind fun l4 =>
    some ((l4 : Int64).toInt32)
    )) fun k3 =>
  if l1 ≤ 0 then (
    k3 j0
    ) else
  if l2 ≤ 0 then (
    k3 j0
    ) else
  (dvL ((l1 + l2) - 1) l2).bind fun l5 =>
  lt (j0 - l5) fun l6 =>
  k3 l6
noncomputable def f_X2_guessLimb (σ : St) (a0 : Nat) (a1 : Nat) (i2 : Int32) (i3 : Int32) : Option Int32 :=
  ob σ 2 a0 (
    (ldI σ a1 (i2 - 1)).bind fun x1 =>
    lt ((x1 : Int32).toInt64) fun l2 =>
    if l2 = 0 then (
      some 0
      ) else
    (gR σ 2 a0 0).bind fun r3 =>
    (ldI σ r3 i3).bind fun x4 =>
    (gR σ 2 a0 0).bind fun r5 =>
    (ldI σ r5 (i3 - 1)).bind fun x6 =>
    lt ((((x4 : Int32).toInt64) * 1000000000) + ((x6 : Int32).toInt64)) fun l7 =>
    (dvL l7 l2).bind fun l8 =>
    (rmL l7 l2).bind fun l9 =>
    (ldI σ a1 (i2 - 2)).bind fun x10 =>
    (gR σ 2 a0 0).bind fun r11 =>
    (ldI σ r11 (i3 - 2)).bind fun x12 =>
    (f_X2_refine σ l8 l9 l2 ((x10 : Int32).toInt64) ((x12 : Int32).toInt64)).bind fun x13 =>
    some x13
    )
noncomputable def b_X2_subtractTimes_L12 (rec : St → Nat → Int32 → Int64 → Int32 → Nat → Int64 → Int32 → Rs (Int64)) (σ : St) (a1 : Nat) (i3 : Int32) (j4 : Int64) (i6 : Int32) (a7 : Nat) (j8 : Int64) (i10 : Int32) : Rs (Int64) :=
  if i3 ≤ i10 then (
    some (j8, σ, 0, 0)
    ) else
  (ldI σ a1 i10).bind fun x2 =>
  lt ((((x2 : Int32).toInt64) * j4) + j8) fun l3 =>
  (dvL l3 1000000000).bind fun l4 =>
  (ldI σ a7 (i10 + i6)).bind fun x5 =>
  lt (x5 - ((l3 - (l4 * 1000000000) : Int64).toInt32)) fun x6 =>
  jn (fun (z7 : Int64 × Int32) => (
    (stI σ a7 (i10 + i6) z7.2).bind fun σ8 =>
    lt (i10 + 1) fun x9 =>
    rec σ8 a1 i3 j4 i6 a7 z7.1 x9
    )) fun k7 =>
  if 0 ≤ x6 then (
    k7 (l4, x6)
    ) else
  lt (x6 + 1000000000) fun x10 =>
  lt (l4 + 1) fun l11 =>
  k7 (l11, x10)
noncomputable def f_X2_subtractTimes_L12 : Nat → St → Nat → Int32 → Int64 → Int32 → Nat → Int64 → Int32 → Rs (Int64)
  | 0, _, _, _, _, _, _, _, _ => none
  | n + 1, σ, a1, i3, j4, i6, a7, j8, i10 => b_X2_subtractTimes_L12 (f_X2_subtractTimes_L12 n) σ a1 i3 j4 i6 a7 j8 i10
noncomputable def f_X2_subtractTimes (σ : St) (a0 : Nat) (a1 : Nat) (i2 : Int32) (i3 : Int32) (j4 : Int64) (i6 : Int32) : Rs Int64 :=
  ob σ 2 a0 (
    (gR σ 2 a0 0).bind fun r1 =>
    bd (f_X2_subtractTimes_L12 FU σ a1 i3 j4 i6 r1 0 i2) fun y12 σ13 =>
    some (y12, σ13, 0, 0)
    )
noncomputable def b_X2_addBack_L12 (rec : St → Nat → Int32 → Int32 → Nat → Int64 → Int32 → Rs (Int64)) (σ : St) (a1 : Nat) (i3 : Int32) (i4 : Int32) (a5 : Nat) (j6 : Int64) (i8 : Int32) : Rs (Int64) :=
  if i3 ≤ i8 then (
    some (j6, σ, 0, 0)
    ) else
  (ldI σ a5 (i8 + i4)).bind fun x2 =>
  (ldI σ a1 i8).bind fun x3 =>
  lt ((((x2 : Int32).toInt64) + ((x3 : Int32).toInt64)) + j6) fun l4 =>
  (dvL l4 1000000000).bind fun l5 =>
  (stI σ a5 (i8 + i4) ((l4 - (l5 * 1000000000) : Int64).toInt32)).bind fun σ6 =>
  lt (i8 + 1) fun x7 =>
  rec σ6 a1 i3 i4 a5 l5 x7
noncomputable def f_X2_addBack_L12 : Nat → St → Nat → Int32 → Int32 → Nat → Int64 → Int32 → Rs (Int64)
  | 0, _, _, _, _, _, _, _ => none
  | n + 1, σ, a1, i3, i4, a5, j6, i8 => b_X2_addBack_L12 (f_X2_addBack_L12 n) σ a1 i3 i4 a5 j6 i8
noncomputable def f_X2_addBack (σ : St) (a0 : Nat) (a1 : Nat) (i2 : Int32) (i3 : Int32) (i4 : Int32) : Rs Int64 :=
  ob σ 2 a0 (
    (gR σ 2 a0 0).bind fun r1 =>
    bd (f_X2_addBack_L12 FU σ a1 i3 i4 r1 0 i2) fun y8 σ9 =>
    some (y8, σ9, 0, 0)
    )
noncomputable def f_X2_takeLimb (σ : St) (a0 : Nat) (a1 : Nat) (i2 : Int32) (i3 : Int32) (i4 : Int32) : Rs Int32 :=
  ob σ 2 a0 (
    (gR σ 2 a0 0).bind fun r1 =>
    (ldI σ r1 (i3 + i2)).bind fun x2 =>
    bd (f_X2_subtractTimes σ a0 a1 0 i2 ((i4 : Int32).toInt64) i3) fun l3 σ4 =>
    lt (((x2 : Int32).toInt64) - l3) fun l5 =>
    jn (fun (z6 : Int32 × Int64 × St) => (
      (gR z6.2.2 2 a0 0).bind fun r7 =>
      (stI z6.2.2 r7 (i3 + i2) ((z6.2.1 : Int64).toInt32)).bind fun σ8 =>
      some (z6.1, σ8, 0, 0)
      )) fun k6 =>
    if 0 ≤ l5 then (
      k6 (i4, l5, σ4)
      ) else
    lt (i4 + (-1)) fun x9 =>
    bd (f_X2_addBack σ4 a0 a1 0 i2 i3) fun l10 σ11 =>
    lt (l5 + l10) fun l12 =>
    k6 (x9, l12, σ11)
    )
noncomputable def b_X2_reduce_L82 (rec : St → Nat → Nat → Nat → Int32 → Int32 → Int32 → Rs (Unit)) (σ : St) (a0 : Nat) (a1 : Nat) (a2 : Nat) (i3 : Int32) (i4 : Int32) (i5 : Int32) : Rs (Unit) :=
  if i5 < 0 then (
    some ((), σ, 0, 0)
    ) else
  (gR σ 2 a2 0).bind fun r13 =>
  (f_X2_guessLimb σ a0 r13 i3 (i5 + i3)).bind fun x14 =>
  (gR σ 2 a1 0).bind fun r15 =>
  (gR σ 2 a2 0).bind fun r16 =>
  bd (f_X2_takeLimb σ a0 r16 i3 i5 x14) fun x17 σ18 =>
  (stI σ18 r15 i5 x17).bind fun σ19 =>
  lt (i5 + (-1)) fun x20 =>
  rec σ19 a0 a1 a2 i3 i4 x20
noncomputable def f_X2_reduce_L82 : Nat → St → Nat → Nat → Nat → Int32 → Int32 → Int32 → Rs (Unit)
  | 0, _, _, _, _, _, _, _ => none
  | n + 1, σ, a0, a1, a2, i3, i4, i5 => b_X2_reduce_L82 (f_X2_reduce_L82 n) σ a0 a1 a2 i3 i4 i5
noncomputable def f_X2_reduce (σ : St) (a0 : Nat) (a1 : Nat) (a2 : Nat) : Rs Unit :=
  ob σ 2 a0 (
    (pF σ 2 a1 1 (.int 0)).bind fun σ1 =>
    (gI σ1 2 a2 1).bind fun x2 =>
    if x2 = 0 then (
      some ((), σ1, 0, 0)
      ) else
    (gI σ1 2 a0 1).bind fun x3 =>
    if x2 ≤ x3 then (
      if x2 = 1 then (
        (gR σ1 2 a2 0).bind fun r27 =>
        (ldI σ1 r27 0).bind fun x28 =>
        bd (f_X2_reduceByLimb σ1 a0 a1 x28) fun _ σ29 =>
        some ((), σ29, 0, 0)
        ) else
      (gI σ1 2 a0 1).bind fun x4 =>
      lt ((x4 - x2) + 1) fun x5 =>
      (gI σ1 2 a0 1).bind fun x6 =>
      bd (f_X2_makeRoom σ1 a0 (x6 + 1)) fun _ σ7 =>
      (gR σ7 2 a0 0).bind fun r8 =>
      (gI σ7 2 a0 1).bind fun x9 =>
      (stI σ7 r8 x9 0).bind fun σ10 =>
      bd (f_X2_makeRoom σ10 a1 x5) fun _ σ11 =>
      lt (x5 - 1) fun x12 =>
      bd (f_X2_reduce_L82 FU σ11 a0 a1 a2 x2 x5 x12) fun y21 σ22 =>
      (pF σ22 2 a1 1 (.int x5)).bind fun σ23 =>
      bd (f_X2_trim σ23 a1) fun _ σ24 =>
      (pF σ24 2 a0 1 (.int x2)).bind fun σ25 =>
      bd (f_X2_trim σ25 a0) fun _ σ26 =>
      some ((), σ26, 0, 0)
      ) else
    some ((), σ1, 0, 0)
    )
noncomputable def b_X2_rootOf_L7 (rec : St → Int64 → Int64 → Int32 → Option ((Int64) ⊕ (Int64))) (σ : St) (j0 : Int64) (j2 : Int64) (i4 : Int32) : Option ((Int64) ⊕ (Int64)) :=
  if 64 ≤ i4 then (
    some (.inr j2)
    ) else
  if j2 ≤ 0 then (
    some (.inr j2)
    ) else
  (dvL j0 j2).bind fun l1 =>
  (dvL (j2 + l1) 2).bind fun l2 =>
  if l2 < j2 then (
    lt (i4 + 1) fun x3 =>
    rec σ j0 l2 x3
    ) else
  some (.inl j2)
noncomputable def f_X2_rootOf_L7 : Nat → St → Int64 → Int64 → Int32 → Option ((Int64) ⊕ (Int64))
  | 0, _, _, _, _ => none
  | n + 1, σ, j0, j2, i4 => b_X2_rootOf_L7 (f_X2_rootOf_L7 n) σ j0 j2 i4
noncomputable def f_X2_rootOf (σ : St) (j0 : Int64) : Option Int64 :=
  (f_X2_rootOf_L7 FU σ j0 1000000000 0).bind fun y4 =>
  match y4 with
  | .inl z5 => (
    some z5
    )
  | .inr z6 => (
    some z6
    )
noncomputable def f_X2_guessRootLimb (σ : St) (a0 : Nat) (a1 : Nat) (i2 : Int32) (i3 : Int32) : Option Int32 :=
  ob σ 2 a0 (
    lt (i2 + i3) fun x1 =>
    (ldI σ a1 (i2 - 1)).bind fun x2 =>
    lt ((x2 : Int32).toInt64) fun l3 =>
    if 0 < l3 then (
      (gR σ 2 a0 0).bind fun r4 =>
      (ldI σ r4 (x1 + 1)).bind fun x5 =>
      (gR σ 2 a0 0).bind fun r6 =>
      (ldI σ r6 x1).bind fun x7 =>
      lt ((((x5 : Int32).toInt64) * 1000000000) + ((x7 : Int32).toInt64)) fun l8 =>
      (gR σ 2 a0 0).bind fun r9 =>
      (ldI σ r9 (x1 - 1)).bind fun x10 =>
      lt ((l8 * 1000000000) + ((x10 : Int32).toInt64)) fun l11 =>
      if i3 = (i2 - 2) then (
        (dvL l11 l3).bind fun l18 =>
        (f_J9_min_f86c9 σ l18 999999999).bind fun l19 =>
        some ((l19 : Int64).toInt32)
        ) else
      (dvL l11 l3).bind fun l12 =>
      (rmL l11 l3).bind fun l13 =>
      (ldI σ a1 (i2 - 2)).bind fun x14 =>
      (gR σ 2 a0 0).bind fun r15 =>
      (ldI σ r15 (x1 - 2)).bind fun x16 =>
      (f_X2_refine σ l12 l13 l3 ((x14 : Int32).toInt64) ((x16 : Int32).toInt64)).bind fun x17 =>
      some x17
      ) else
    some 0
    )
noncomputable def b_X2_takeRootLimb_L55 (rec : St → Nat → Nat → Int32 → Int32 → Int32 → Int64 → Int32 → Rs (Int32 × Int64)) (σ : St) (a0 : Nat) (a1 : Nat) (i2 : Int32) (i3 : Int32) (i5 : Int32) (j6 : Int64) (i8 : Int32) : Rs (Int32 × Int64) :=
  if 16 ≤ i8 then (
    some ((i5, j6), σ, 0, 0)
    ) else
  if 0 ≤ j6 then (
    some ((i5, j6), σ, 0, 0)
    ) else
  (stI σ a1 i3 ((2 * i5) - 1)).bind fun σ10 =>
  bd (f_X2_addBack σ10 a0 a1 i3 i2 i3) fun l11 σ12 =>
  lt (j6 + l11) fun l13 =>
  lt (i5 + (-1)) fun x14 =>
  lt (i8 + 1) fun x15 =>
  rec σ12 a0 a1 i2 i3 x14 l13 x15
noncomputable def f_X2_takeRootLimb_L55 : Nat → St → Nat → Nat → Int32 → Int32 → Int32 → Int64 → Int32 → Rs (Int32 × Int64)
  | 0, _, _, _, _, _, _, _, _ => none
  | n + 1, σ, a0, a1, i2, i3, i5, j6, i8 => b_X2_takeRootLimb_L55 (f_X2_takeRootLimb_L55 n) σ a0 a1 i2 i3 i5 j6 i8
noncomputable def f_X2_takeRootLimb (σ : St) (a0 : Nat) (a1 : Nat) (i2 : Int32) (i3 : Int32) (i4 : Int32) : Rs Int32 :=
  ob σ 2 a0 (
    (stI σ a1 i3 i4).bind fun σ1 =>
    (gR σ1 2 a0 0).bind fun r2 =>
    (ldI σ1 r2 ((i2 + i3) + 1)).bind fun x3 =>
    (gR σ1 2 a0 0).bind fun r4 =>
    (ldI σ1 r4 (i2 + i3)).bind fun x5 =>
    lt ((((x3 : Int32).toInt64) * 1000000000) + ((x5 : Int32).toInt64)) fun l6 =>
    bd (f_X2_subtractTimes σ1 a0 a1 i3 i2 ((i4 : Int32).toInt64) i3) fun l7 σ8 =>
    lt (l6 - l7) fun l9 =>
    bd (f_X2_takeRootLimb_L55 FU σ8 a0 a1 i2 i3 i4 l9 0) fun y16 σ17 =>
    (gR σ17 2 a0 0).bind fun r18 =>
    (rmL y16.2 1000000000).bind fun l19 =>
    (stI σ17 r18 (i2 + i3) ((l19 : Int64).toInt32)).bind fun σ20 =>
    (gR σ20 2 a0 0).bind fun r21 =>
    (dvL y16.2 1000000000).bind fun l22 =>
    (stI σ20 r21 ((i2 + i3) + 1) ((l22 : Int64).toInt32)).bind fun σ23 =>
    some (y16.1, σ23, 0, 0)
    )
noncomputable def b_X2_takeRoot_L157 (rec : St → Nat → Nat → Nat → Int32 → Int32 → Rs (Unit)) (σ : St) (a0 : Nat) (a1 : Nat) (a2 : Nat) (i3 : Int32) (i10 : Int32) : Rs (Unit) :=
  if i10 < 0 then (
    some ((), σ, 0, 0)
    ) else
  (gR σ 2 a2 0).bind fun r30 =>
  (gR σ 2 a2 0).bind fun r31 =>
  (f_X2_guessRootLimb σ a0 r31 i3 i10).bind fun x32 =>
  bd (f_X2_takeRootLimb σ a0 r30 i3 i10 x32) fun x33 σ34 =>
  (gR σ34 2 a1 0).bind fun r35 =>
  (stI σ34 r35 i10 x33).bind fun σ36 =>
  (gR σ36 2 a2 0).bind fun r37 =>
  (stI σ36 r37 i10 (2 * x33)).bind fun σ38 =>
  jn (fun (z39 : St) => (
    lt (i10 + (-1)) fun x40 =>
    rec z39 a0 a1 a2 i3 x40
    )) fun k39 =>
  if (2 * x33) < 1000000000 then (
    k39 σ38
    ) else
  (gR σ38 2 a2 0).bind fun r41 =>
  (ldI σ38 r41 i10).bind fun x42 =>
  (stI σ38 r41 i10 (x42 - 1000000000)).bind fun σ43 =>
  (gR σ43 2 a2 0).bind fun r44 =>
  (ldI σ43 r44 (i10 + 1)).bind fun x45 =>
  (stI σ43 r44 (i10 + 1) (x45 + 1)).bind fun σ46 =>
  k39 σ46
noncomputable def f_X2_takeRoot_L157 : Nat → St → Nat → Nat → Nat → Int32 → Int32 → Rs (Unit)
  | 0, _, _, _, _, _, _ => none
  | n + 1, σ, a0, a1, a2, i3, i10 => b_X2_takeRoot_L157 (f_X2_takeRoot_L157 n) σ a0 a1 a2 i3 i10
noncomputable def f_X2_takeRoot (σ : St) (a0 : Nat) (a1 : Nat) (a2 : Nat) : Rs Unit :=
  ob σ 2 a0 (
    (pF σ 2 a1 1 (.int 0)).bind fun σ1 =>
    (gI σ1 2 a0 1).bind fun x2 =>
    (dvI x2 2).bind fun x3 =>
    if x3 = 0 then (
      some ((), σ1, 0, 0)
      ) else
    (gI σ1 2 a0 1).bind fun x4 =>
    if x4 = (2 * x3) then (
      bd (f_X2_makeRoom σ1 a1 x3) fun _ σ5 =>
      bd (f_X2_makeRoom σ5 a2 x3) fun _ σ6 =>
      (pF σ6 2 a2 1 (.int 0)).bind fun σ7 =>
      (gR σ7 2 a0 0).bind fun r8 =>
      (gI σ7 2 a0 1).bind fun x9 =>
      (ldI σ7 r8 (x9 - 1)).bind fun x10 =>
      (gR σ7 2 a0 0).bind fun r11 =>
      (gI σ7 2 a0 1).bind fun x12 =>
      (ldI σ7 r11 (x12 - 2)).bind fun x13 =>
      lt ((((x10 : Int32).toInt64) * 1000000000) + ((x13 : Int32).toInt64)) fun l14 =>
      (f_X2_rootOf σ7 l14).bind fun l15 =>
      lt (l14 - (l15 * l15)) fun l16 =>
      (gR σ7 2 a0 0).bind fun r17 =>
      (gI σ7 2 a0 1).bind fun x18 =>
      (dvL l16 1000000000).bind fun l19 =>
      (stI σ7 r17 (x18 - 1) ((l19 : Int64).toInt32)).bind fun σ20 =>
      (gR σ20 2 a0 0).bind fun r21 =>
      (gI σ20 2 a0 1).bind fun x22 =>
      (rmL l16 1000000000).bind fun l23 =>
      (stI σ20 r21 (x22 - 2) ((l23 : Int64).toInt32)).bind fun σ24 =>
      (gR σ24 2 a1 0).bind fun r25 =>
      (stI σ24 r25 (x3 - 1) ((l15 : Int64).toInt32)).bind fun σ26 =>
      (gR σ26 2 a2 0).bind fun r27 =>
      (stI σ26 r27 (x3 - 1) ((2 * l15 : Int64).toInt32)).bind fun σ28 =>
      lt (x3 - 2) fun x29 =>
      bd (f_X2_takeRoot_L157 FU σ28 a0 a1 a2 x3 x29) fun y47 σ48 =>
      (pF σ48 2 a1 1 (.int x3)).bind fun σ49 =>
      bd (f_X2_trim σ49 a1) fun _ σ50 =>
      bd (f_X2_trim σ50 a0) fun _ σ51 =>
      some ((), σ51, 0, 0)
      ) else
    some ((), σ1, 0, 0)
    )
noncomputable def f_X3_init (σ : St) (a0 : Nat) : Rs Unit :=
  some ((), σ, 0, 0)
noncomputable def f_X4_hasSignAt (σ : St) (a0 : Nat) (i1 : Int32) : Option Int32 :=
  ob σ 4 a0 (
    (f_X4_codeAt σ a0 i1).bind fun x1 =>
    if x1 = 43 then (
      (isB 1).bind fun _ => some 1
      ) else
    if x1 = 45 then (
      (isB 1).bind fun _ => some 1
      ) else
    (isB 0).bind fun _ => some 0
    )
noncomputable def f_X4_hasDigitAt (σ : St) (a0 : Nat) (i1 : Int32) : Option Int32 :=
  ob σ 4 a0 (
    (f_X4_codeAt σ a0 i1).bind fun x1 =>
    if x1 < 48 then (
      (isB 0).bind fun _ => some 0
      ) else
    if 57 < x1 then (
      (isB 0).bind fun _ => some 0
      ) else
    (isB 1).bind fun _ => some 1
    )
noncomputable def b_X3_findDigits_L23 (rec : St → Nat → Nat → Int32 → Int32 → Int32 → Rs (Int32)) (σ : St) (a0 : Nat) (a1 : Nat) (i2 : Int32) (i3 : Int32) (i4 : Int32) : Rs (Int32) :=
  (gI σ 4 a1 1).bind fun x5 =>
  if x5 ≤ i4 then (
    some (i2, σ, 0, 0)
    ) else
  (f_X4_hasDigitAt σ a1 i4).bind fun x6 =>
  jn (fun (z7 : Int32 × Int32 × St) => (
    (pF z7.2.2 3 a0 2 (.int (i4 + 1))).bind fun σ8 =>
    lt (i4 + 1) fun x9 =>
    rec σ8 a0 a1 z7.1 z7.2.1 x9
    )) fun k7 =>
  if x6 = 0 then (
    (f_X4_codeAt σ a1 i4).bind fun x10 =>
    if x10 = 46 then (
      if i3 = 0 then (
        k7 (i2, 1, σ)
        ) else
      some (i2, σ, 0, 0)
      ) else
    some (i2, σ, 0, 0)
    ) else
  lt (i2 + 1) fun x11 =>
  (gI σ 3 a0 3).bind fun x12 =>
  jn (fun (z13 : Int32) => (
    (pF σ 3 a0 3 (.int (x12 + z13))).bind fun σ14 =>
    k7 (x11, i3, σ14)
    )) fun k13 =>
  if i3 = 0 then (
    k13 0
    ) else
  k13 1
noncomputable def f_X3_findDigits_L23 : Nat → St → Nat → Nat → Int32 → Int32 → Int32 → Rs (Int32)
  | 0, _, _, _, _, _, _ => none
  | n + 1, σ, a0, a1, i2, i3, i4 => b_X3_findDigits_L23 (f_X3_findDigits_L23 n) σ a0 a1 i2 i3 i4
noncomputable def f_X3_findDigits (σ : St) (a0 : Nat) (a1 : Nat) : Rs Int32 :=
  ob σ 3 a0 (
    (pF σ 3 a0 3 (.int 0)).bind fun σ1 =>
    (gI σ1 3 a0 1).bind fun x2 =>
    (pF σ1 3 a0 2 (.int x2)).bind fun σ3 =>
    (gI σ3 3 a0 1).bind fun x4 =>
    bd (f_X3_findDigits_L23 FU σ3 a0 a1 0 0 x4) fun y15 σ16 =>
    if y15 ≤ 0 then (
      (isB 0).bind fun _ => some (0, σ16, 0, 0)
      ) else
    (isB 1).bind fun _ => some (1, σ16, 0, 0)
    )
noncomputable def b_X3_findExponent_L19 (rec : St → Nat → Nat → Int32 → Int32 → Int32 → Rs ((Unit) ⊕ (Unit))) (σ : St) (a0 : Nat) (a1 : Nat) (i2 : Int32) (i3 : Int32) (i4 : Int32) : Rs ((Unit) ⊕ (Unit)) :=
  (gI σ 4 a1 1).bind fun x3 =>
  if x3 ≤ i4 then (
    some (.inr (), σ, 0, 0)
    ) else
  (f_X4_hasDigitAt σ a1 i4).bind fun x4 =>
  if x4 = 0 then (
    some (.inl (), σ, 0, 0)
    ) else
  (gL σ 3 a0 4).bind fun l5 =>
  (f_X4_codeAt σ a1 i4).bind fun x6 =>
  (f_J9_min_f86c9 σ (((l5 * 10) + ((x6 : Int32).toInt64)) - 48) 1000000000000).bind fun l7 =>
  (pF σ 3 a0 4 (.long l7)).bind fun σ8 =>
  lt (i4 + 1) fun x9 =>
  rec σ8 a0 a1 i2 i3 x9
noncomputable def f_X3_findExponent_L19 : Nat → St → Nat → Nat → Int32 → Int32 → Int32 → Rs ((Unit) ⊕ (Unit))
  | 0, _, _, _, _, _, _ => none
  | n + 1, σ, a0, a1, i2, i3, i4 => b_X3_findExponent_L19 (f_X3_findExponent_L19 n) σ a0 a1 i2 i3 i4
noncomputable def f_X3_findExponent (σ : St) (a0 : Nat) (a1 : Nat) (i2 : Int32) : Rs Int32 :=
  ob σ 3 a0 (
    (f_X4_hasSignAt σ a1 i2).bind fun x1 =>
    jn (fun (z2 : Int32) => (
      bd (f_X3_findExponent_L19 FU σ a0 a1 i2 z2 z2) fun y10 σ11 =>
      match y10 with
      | .inl z12 => (
        (isB 0).bind fun _ => some (0, σ11, 0, 0)
        )
      | .inr z13 => (
        (f_X4_codeAt σ11 a1 i2).bind fun x14 =>
        jn (fun (z15 : St) => (
          (gI z15 4 a1 1).bind fun x16 =>
          if x16 ≤ z2 then (
            (isB 0).bind fun _ => some (0, z15, 0, 0)
            ) else
          (isB 1).bind fun _ => some (1, z15, 0, 0)
          )) fun k15 =>
        if x14 = 45 then (
          (gL σ11 3 a0 4).bind fun l17 =>
          (pF σ11 3 a0 4 (.long (-l17))).bind fun σ18 =>
          k15 σ18
          ) else
        k15 σ11
        )
      )) fun k2 =>
    if x1 = 0 then (
      k2 i2
      ) else
    k2 (i2 + 1)
    )
noncomputable def f_X3_parse (σ : St) (a0 : Nat) (a1 : Nat) : Rs Int32 :=
  ob σ 3 a0 (
    (f_X4_codeAt σ a1 0).bind fun x1 =>
    jn (fun (z2 : Int32) => (
      (isB z2).bind fun _ =>
      (pF σ 3 a0 0 (.int z2)).bind fun σ3 =>
      (f_X4_hasSignAt σ3 a1 0).bind fun x4 =>
      jn (fun (z5 : Int32) => (
        (pF σ3 3 a0 1 (.int z5)).bind fun σ6 =>
        (pF σ6 3 a0 4 (.long 0)).bind fun σ7 =>
        bd (f_X3_findDigits σ7 a0 a1) fun x8 σ9 =>
        if x8 = 0 then (
          (isB 0).bind fun _ => some (0, σ9, 0, 0)
          ) else
        (gI σ9 3 a0 2).bind fun x10 =>
        (gI σ9 4 a1 1).bind fun x11 =>
        if x10 = x11 then (
          (isB 1).bind fun _ => some (1, σ9, 0, 0)
          ) else
        (gI σ9 3 a0 2).bind fun x12 =>
        (f_X4_codeAt σ9 a1 x12).bind fun x13 =>
        jn (fun (z14 : Unit) => (
          (gI σ9 3 a0 2).bind fun x15 =>
          bd (f_X3_findExponent σ9 a0 a1 (x15 + 1)) fun x16 σ17 =>
          if x16 = 0 then (
            (isB 0).bind fun _ => some (0, σ17, 0, 0)
            ) else
          (isB 1).bind fun _ => some (1, σ17, 0, 0)
          )) fun k14 =>
        if x13 = 101 then (
          k14 ()
          ) else
        if x13 = 69 then (
          k14 ()
          ) else
        (isB 0).bind fun _ => some (0, σ9, 0, 0)
        )) fun k5 =>
      if x4 = 0 then (
        k5 0
        ) else
      k5 1
      )) fun k2 =>
    if x1 = 45 then (
      k2 1
      ) else
    k2 0
    )
noncomputable def f_X4_init (σ : St) (a0 : Nat) : Rs Unit :=
  (lenOk 16).bind fun _ => nw σ (arB 16) (16 : Int32).toNatClampNeg fun r1 σ2 =>
  (pF σ2 4 a0 0 (.ref r1)).bind fun σ3 =>
  some ((), σ3, 0, 0)
noncomputable def b_X5_init_L92 (rec : St → Nat → Int32 → Rs (Unit)) (σ : St) (a0 : Nat) (i1 : Int32) : Rs (Unit) :=
  (gR σ 5 a0 0).bind fun r32 =>
  (aLn σ r32).bind fun x33 =>
  if x33 ≤ i1 then (
    some ((), σ, 0, 0)
    ) else
  (gR σ 5 a0 0).bind fun r34 =>
  nw σ (.inr (.inl (0, [.null, .int 0, .int 0]))) 3 fun r35 σ36 =>
  bd (f_X0_init σ36 r35) fun _ σ37 =>
  (stA σ37 r34 i1 r35).bind fun σ38 =>
  lt (i1 + 1) fun x39 =>
  rec σ38 a0 x39
noncomputable def f_X5_init_L92 : Nat → St → Nat → Int32 → Rs (Unit)
  | 0, _, _, _ => none
  | n + 1, σ, a0, i1 => b_X5_init_L92 (f_X5_init_L92 n) σ a0 i1
noncomputable def f_X5_init (σ : St) (a0 : Nat) : Rs Unit :=
  (lenOk 8).bind fun _ => nw σ (arA 8) (8 : Int32).toNatClampNeg fun r1 σ2 =>
  (pF σ2 5 a0 0 (.ref r1)).bind fun σ3 =>
  nw σ3 (.inr (.inl (2, [.null, .int 0]))) 2 fun r4 σ5 =>
  bd (f_X2_init σ5 r4) fun _ σ6 =>
  (pF σ6 5 a0 1 (.ref r4)).bind fun σ7 =>
  nw σ7 (.inr (.inl (2, [.null, .int 0]))) 2 fun r8 σ9 =>
  bd (f_X2_init σ9 r8) fun _ σ10 =>
  (pF σ10 5 a0 2 (.ref r8)).bind fun σ11 =>
  nw σ11 (.inr (.inl (2, [.null, .int 0]))) 2 fun r12 σ13 =>
  bd (f_X2_init σ13 r12) fun _ σ14 =>
  (pF σ14 5 a0 3 (.ref r12)).bind fun σ15 =>
  nw σ15 (.inr (.inl (4, [.null, .int 0]))) 2 fun r16 σ17 =>
  bd (f_X4_init σ17 r16) fun _ σ18 =>
  (pF σ18 5 a0 4 (.ref r16)).bind fun σ19 =>
  nw σ19 (.inr (.inl (4, [.null, .int 0]))) 2 fun r20 σ21 =>
  bd (f_X4_init σ21 r20) fun _ σ22 =>
  (pF σ22 5 a0 5 (.ref r20)).bind fun σ23 =>
  nw σ23 (.inr (.inl (3, [.int 0, .int 0, .int 0, .int 0, .long 0]))) 5 fun r24 σ25 =>
  bd (f_X3_init σ25 r24) fun _ σ26 =>
  (pF σ26 5 a0 6 (.ref r24)).bind fun σ27 =>
  nw σ27 (.inr (.inl (1, [.int 0, .int 0, .long 0, .long 0, .long 0, .long 0]))) 6 fun r28 σ29 =>
  bd (f_X1_init σ29 r28) fun _ σ30 =>
  (pF σ30 5 a0 7 (.ref r28)).bind fun σ31 =>
  bd (f_X5_init_L92 FU σ31 a0 0) fun y40 σ41 =>
  some ((), σ41, 0, 0)
noncomputable def f_X5_isRegister (σ : St) (i0 : Int32) : Option Int32 :=
  if i0 < 0 then (
    (isB 0).bind fun _ => some 0
    ) else
  if 8 ≤ i0 then (
    (isB 0).bind fun _ => some 0
    ) else
  (isB 1).bind fun _ => some 1
noncomputable def f_X5_fits (σ : St) (a0 : Nat) (j1 : Int64) : Option Int32 :=
  (f_X2_digitCount σ a0).bind fun x1 =>
  if 4096 < x1 then (
    (isB 0).bind fun _ => some 0
    ) else
  if j1 = (((j1 : Int64).toInt32 : Int32).toInt64) then (
    (isB 1).bind fun _ => some 1
    ) else
  (isB 0).bind fun _ => some 0
noncomputable def f_X5_keep (σ : St) (a0 : Nat) (i1 : Int32) (a2 : Nat) (i3 : Int32) (j4 : Int64) : Rs Int32 :=
  ob σ 5 a0 (
    (f_X5_isRegister σ i1).bind fun x1 =>
    if x1 = 0 then (
      (isB 0).bind fun _ => some (0, σ, 0, 0)
      ) else
    (f_X5_fits σ a2 j4).bind fun x2 =>
    if x2 = 0 then (
      (isB 0).bind fun _ => some (0, σ, 0, 0)
      ) else
    (gR σ 5 a0 0).bind fun r3 =>
    (ldA σ r3 i1).bind fun r4 =>
    bd (f_X0_become σ r4 a2 i3 ((j4 : Int64).toInt32)) fun _ σ5 =>
    (isB 1).bind fun _ => some (1, σ5, 0, 0)
    )
noncomputable def f_X5_put (σ : St) (a0 : Nat) (i1 : Int32) (j2 : Int64) (i4 : Int32) : Rs Int32 :=
  ob σ 5 a0 (
    (gR σ 5 a0 1).bind fun r1 =>
    bd (f_X2_becomeSizeOf σ r1 j2) fun _ σ2 =>
    (gR σ2 5 a0 1).bind fun r3 =>
    jn (fun (z4 : Int32) => (
      bd (f_X5_keep σ2 a0 i1 r3 z4 ((i4 : Int32).toInt64)) fun x5 σ6 =>
      (isB x5).bind fun _ => some (x5, σ6, 0, 0)
      )) fun k4 =>
    if 0 ≤ j2 then (
      k4 0
      ) else
    k4 1
    )
noncomputable def f_X5_copy (σ : St) (a0 : Nat) (i1 : Int32) (i2 : Int32) (i3 : Int32) : Rs Int32 :=
  ob σ 5 a0 (
    (f_X5_isRegister σ i2).bind fun x1 =>
    if x1 = 0 then (
      (isB 0).bind fun _ => some (0, σ, 0, 0)
      ) else
    (gR σ 5 a0 0).bind fun r2 =>
    (ldA σ r2 i2).bind fun r3 =>
    (gR σ 0 r3 0).bind fun r4 =>
    (gI σ 0 r3 1).bind fun x5 =>
    jn (fun (z6 : Int32) => (
      (gI σ 0 r3 2).bind fun x7 =>
      bd (f_X5_keep σ a0 i1 r4 z6 ((x7 : Int32).toInt64)) fun x8 σ9 =>
      (isB x8).bind fun _ => some (x8, σ9, 0, 0)
      )) fun k6 =>
    if x5 = i3 then (
      k6 0
      ) else
    k6 1
    )
noncomputable def f_X5_align (σ : St) (a0 : Nat) (a1 : Nat) (i2 : Int32) : Rs Int32 :=
  (gR σ 0 a1 0).bind fun r1 =>
  (f_X2_isZero σ r1).bind fun x2 =>
  if x2 = 0 then (
    (gI σ 0 a1 2).bind fun x3 =>
    lt (((i2 : Int32).toInt64) - ((x3 : Int32).toInt64)) fun l4 =>
    (gR σ 0 a1 0).bind fun r5 =>
    (f_X2_digitCount σ r5).bind fun x6 =>
    if (((x6 : Int32).toInt64) + l4) ≤ 4097 then (
      (gR σ 0 a1 0).bind fun r7 =>
      bd (f_X2_raise σ a0 r7 ((l4 : Int64).toInt32)) fun _ σ8 =>
      (isB 1).bind fun _ => some (1, σ8, 0, 0)
      ) else
    (isB 0).bind fun _ => some (0, σ, 0, 0)
    ) else
  bd (f_X2_clear σ a0) fun _ σ9 =>
  (isB 1).bind fun _ => some (1, σ9, 0, 0)
noncomputable def f_X5_sumUp (σ : St) (a0 : Nat) (i1 : Int32) (i2 : Int32) (i3 : Int32) (i4 : Int32) : Rs Int32 :=
  ob σ 5 a0 (
    (f_X5_isRegister σ i2).bind fun x1 =>
    if x1 = 0 then (
      (isB 0).bind fun _ => some (0, σ, 0, 0)
      ) else
    (f_X5_isRegister σ i3).bind fun x2 =>
    if x2 = 0 then (
      (isB 0).bind fun _ => some (0, σ, 0, 0)
      ) else
    (gR σ 5 a0 0).bind fun r3 =>
    (ldA σ r3 i2).bind fun r4 =>
    (gR σ 5 a0 0).bind fun r5 =>
    (ldA σ r5 i3).bind fun r6 =>
    (gI σ 0 r4 2).bind fun x7 =>
    (gI σ 0 r6 2).bind fun x8 =>
    (f_J9_max_7cf53 σ x7 x8).bind fun x9 =>
    (gR σ 5 a0 1).bind fun r10 =>
    bd (f_X5_align σ r10 r4 x9) fun x11 σ12 =>
    if x11 = 0 then (
      (isB 0).bind fun _ => some (0, σ12, 0, 0)
      ) else
    (gR σ12 5 a0 3).bind fun r13 =>
    bd (f_X5_align σ12 r13 r6 x9) fun x14 σ15 =>
    if x14 = 0 then (
      (isB 0).bind fun _ => some (0, σ15, 0, 0)
      ) else
    (gI σ15 0 r6 1).bind fun x16 =>
    jn (fun (z17 : Int32) => (
      (gI σ15 0 r4 1).bind fun x18 =>
      if x18 = z17 then (
        (gR σ15 5 a0 2).bind fun r35 =>
        (gR σ15 5 a0 1).bind fun r36 =>
        (gR σ15 5 a0 3).bind fun r37 =>
        bd (f_X2_becomeSum σ15 r35 r36 r37) fun _ σ38 =>
        (gR σ38 5 a0 2).bind fun r39 =>
        (gI σ38 0 r4 1).bind fun x40 =>
        bd (f_X5_keep σ38 a0 i1 r39 x40 ((x9 : Int32).toInt64)) fun x41 σ42 =>
        (isB x41).bind fun _ => some (x41, σ42, 0, 0)
        ) else
      (gR σ15 5 a0 1).bind fun r19 =>
      (gR σ15 5 a0 3).bind fun r20 =>
      (f_X2_order σ15 r19 r20).bind fun x21 =>
      if x21 < 0 then (
        (gR σ15 5 a0 3).bind fun r22 =>
        (gR σ15 5 a0 1).bind fun r23 =>
        bd (f_X2_subtract σ15 r22 r23) fun _ σ24 =>
        (gR σ24 5 a0 3).bind fun r25 =>
        bd (f_X5_keep σ24 a0 i1 r25 z17 ((x9 : Int32).toInt64)) fun x26 σ27 =>
        (isB x26).bind fun _ => some (x26, σ27, 0, 0)
        ) else
      (gR σ15 5 a0 1).bind fun r28 =>
      (gR σ15 5 a0 3).bind fun r29 =>
      bd (f_X2_subtract σ15 r28 r29) fun _ σ30 =>
      (gR σ30 5 a0 1).bind fun r31 =>
      (gI σ30 0 r4 1).bind fun x32 =>
      bd (f_X5_keep σ30 a0 i1 r31 x32 ((x9 : Int32).toInt64)) fun x33 σ34 =>
      (isB x33).bind fun _ => some (x33, σ34, 0, 0)
      )) fun k17 =>
    if x16 = i4 then (
      k17 0
      ) else
    k17 1
    )
noncomputable def f_X5_add (σ : St) (a0 : Nat) (i1 : Int32) (i2 : Int32) (i3 : Int32) : Rs Int32 :=
  ob σ 5 a0 (
    bd (f_X5_sumUp σ a0 i1 i2 i3 0) fun x1 σ2 =>
    (isB x1).bind fun _ => some (x1, σ2, 0, 0)
    )
noncomputable def f_X5_take (σ : St) (a0 : Nat) (i1 : Int32) (i2 : Int32) (i3 : Int32) : Rs Int32 :=
  ob σ 5 a0 (
    bd (f_X5_sumUp σ a0 i1 i2 i3 1) fun x1 σ2 =>
    (isB x1).bind fun _ => some (x1, σ2, 0, 0)
    )
noncomputable def f_X5_multiply (σ : St) (a0 : Nat) (a1 : Nat) (a2 : Nat) : Rs Int32 :=
  (f_X2_isZero σ a1).bind fun x1 =>
  jn (fun (z2 : Unit) => (
    bd (f_X2_becomeProduct σ a0 a1 a2) fun _ σ3 =>
    (isB 1).bind fun _ => some (1, σ3, 0, 0)
    )) fun k2 =>
  if x1 = 0 then (
    (f_X2_isZero σ a2).bind fun x4 =>
    if x4 = 0 then (
      (f_X2_digitCount σ a1).bind fun x5 =>
      (f_X2_digitCount σ a2).bind fun x6 =>
      if ((x5 + x6) - 1) ≤ 4096 then (
        k2 ()
        ) else
      (isB 0).bind fun _ => some (0, σ, 0, 0)
      ) else
    k2 ()
    ) else
  k2 ()
noncomputable def f_X5_times (σ : St) (a0 : Nat) (i1 : Int32) (i2 : Int32) (i3 : Int32) : Rs Int32 :=
  ob σ 5 a0 (
    (f_X5_isRegister σ i2).bind fun x1 =>
    if x1 = 0 then (
      (isB 0).bind fun _ => some (0, σ, 0, 0)
      ) else
    (f_X5_isRegister σ i3).bind fun x2 =>
    if x2 = 0 then (
      (isB 0).bind fun _ => some (0, σ, 0, 0)
      ) else
    (gR σ 5 a0 0).bind fun r3 =>
    (ldA σ r3 i2).bind fun r4 =>
    (gR σ 5 a0 0).bind fun r5 =>
    (ldA σ r5 i3).bind fun r6 =>
    (gR σ 5 a0 1).bind fun r7 =>
    (gR σ 0 r4 0).bind fun r8 =>
    (gR σ 0 r6 0).bind fun r9 =>
    bd (f_X5_multiply σ r7 r8 r9) fun x10 σ11 =>
    if x10 = 0 then (
      (isB 0).bind fun _ => some (0, σ11, 0, 0)
      ) else
    (gR σ11 5 a0 1).bind fun r12 =>
    (gI σ11 0 r4 1).bind fun x13 =>
    (gI σ11 0 r6 1).bind fun x14 =>
    jn (fun (z15 : Int32) => (
      (gI σ11 0 r4 2).bind fun x16 =>
      (gI σ11 0 r6 2).bind fun x17 =>
      bd (f_X5_keep σ11 a0 i1 r12 z15 (((x16 : Int32).toInt64) + ((x17 : Int32).toInt64))) fun x18 σ19 =>
      (isB x18).bind fun _ => some (x18, σ19, 0, 0)
      )) fun k15 =>
    if x13 = x14 then (
      k15 0
      ) else
    k15 1
    )
noncomputable def f_J6_numberOfLeadingZeros_0f7a4 (σ : St) (i0 : Int32) : Option Int32 :=
  if 0 < i0 then (
    jn (fun (z1 : Int32 × Int32) => (
      jn (fun (z2 : Int32 × Int32) => (
        jn (fun (z3 : Int32 × Int32) => (
          jn (fun (z4 : Int32 × Int32) => (
            some (z4.2 - (((z4.1 : Int32).toUInt32 >>> ((1 : Int32).toUInt32 &&& Int32.toUInt32 31)).toInt32))
            )) fun k4 =>
          if z3.1 < 4 then (
            k4 (z3.1, z3.2)
            ) else
          lt (z3.2 + (-2)) fun x5 =>
          lt (((z3.1 : Int32).toUInt32 >>> ((2 : Int32).toUInt32 &&& Int32.toUInt32 31)).toInt32) fun x6 =>
          k4 (x6, x5)
          )) fun k3 =>
        if z2.1 < 16 then (
          k3 (z2.1, z2.2)
          ) else
        lt (z2.2 + (-4)) fun x7 =>
        lt (((z2.1 : Int32).toUInt32 >>> ((4 : Int32).toUInt32 &&& Int32.toUInt32 31)).toInt32) fun x8 =>
        k3 (x8, x7)
        )) fun k2 =>
      if z1.1 < 256 then (
        k2 (z1.1, z1.2)
        ) else
      lt (z1.2 + (-8)) fun x9 =>
      lt (((z1.1 : Int32).toUInt32 >>> ((8 : Int32).toUInt32 &&& Int32.toUInt32 31)).toInt32) fun x10 =>
      k2 (x10, x9)
      )) fun k1 =>
    if i0 < 65536 then (
      k1 (i0, 31)
      ) else
    lt (31 + (-16)) fun x11 =>
    lt (((i0 : Int32).toUInt32 >>> ((16 : Int32).toUInt32 &&& Int32.toUInt32 31)).toInt32) fun x12 =>
    k1 (x12, x11)
    ) else
  if i0 = 0 then (
    some 32
    ) else
  some 0
noncomputable def b_X5_keepPower_L46 (rec : St → Nat → Int32 → Nat → Int32 → Int32 → Int64 → Nat → Nat → Int32 → Rs ((Unit) ⊕ (Unit) ⊕ (Nat))) (σ : St) (a0 : Nat) (i1 : Int32) (a2 : Nat) (i3 : Int32) (i4 : Int32) (j5 : Int64) (a7 : Nat) (a8 : Nat) (i9 : Int32) : Rs ((Unit) ⊕ (Unit) ⊕ (Nat)) :=
  if i9 < 0 then (
    some (.inr (.inr a7), σ, 0, 0)
    ) else
  bd (f_X5_multiply σ a8 a7 a7) fun x7 σ8 =>
  if x7 = 0 then (
    some (.inl (), σ8, 0, 0)
    ) else
  jn (fun (z9 : Nat × Nat × St) => (
    lt (i9 + (-1)) fun x10 =>
    rec z9.2.2 a0 i1 a2 i3 i4 j5 z9.1 z9.2.1 x10
    )) fun k9 =>
  if ((i3 >>> (i9 &&& 31)) &&& 1) = 0 then (
    k9 (a8, a7, σ8)
    ) else
  bd (f_X5_multiply σ8 a7 a8 a2) fun x11 σ12 =>
  if x11 = 0 then (
    some (.inr (.inl ()), σ12, 0, 0)
    ) else
  k9 (a7, a8, σ12)
noncomputable def f_X5_keepPower_L46 : Nat → St → Nat → Int32 → Nat → Int32 → Int32 → Int64 → Nat → Nat → Int32 → Rs ((Unit) ⊕ (Unit) ⊕ (Nat))
  | 0, _, _, _, _, _, _, _, _, _, _ => none
  | n + 1, σ, a0, i1, a2, i3, i4, j5, a7, a8, i9 => b_X5_keepPower_L46 (f_X5_keepPower_L46 n) σ a0 i1 a2 i3 i4 j5 a7 a8 i9
noncomputable def f_X5_keepPower (σ : St) (a0 : Nat) (i1 : Int32) (a2 : Nat) (i3 : Int32) (i4 : Int32) (j5 : Int64) : Rs Int32 :=
  ob σ 5 a0 (
    (f_X2_digitCount σ a2).bind fun x1 =>
    if ((((x1 : Int32).toInt64) - 1) * ((i3 : Int32).toInt64)) < 4096 then (
      (gR σ 5 a0 1).bind fun r2 =>
      (gR σ 5 a0 2).bind fun r3 =>
      bd (f_X2_become σ r2 a2) fun _ σ4 =>
      (f_J6_numberOfLeadingZeros_0f7a4 σ4 i3).bind fun x5 =>
      lt (30 - x5) fun x6 =>
      bd (f_X5_keepPower_L46 FU σ4 a0 i1 a2 i3 i4 j5 r2 r3 x6) fun y13 σ14 =>
      match y13 with
      | .inl z15 => (
        (isB 0).bind fun _ => some (0, σ14, 0, 0)
        )
      | .inr (.inl z16) => (
        (isB 0).bind fun _ => some (0, σ14, 0, 0)
        )
      | .inr (.inr z17) => (
        bd (f_X5_keep σ14 a0 i1 z17 i4 j5) fun x18 σ19 =>
        (isB x18).bind fun _ => some (x18, σ19, 0, 0)
        )
      ) else
    (isB 0).bind fun _ => some (0, σ, 0, 0)
    )
noncomputable def f_X5_power (σ : St) (a0 : Nat) (i1 : Int32) (i2 : Int32) (i3 : Int32) : Rs Int32 :=
  ob σ 5 a0 (
    (f_X5_isRegister σ i2).bind fun x1 =>
    if x1 = 0 then (
      (isB 0).bind fun _ => some (0, σ, 0, 0)
      ) else
    if 0 ≤ i3 then (
      (gR σ 5 a0 0).bind fun r2 =>
      (ldA σ r2 i2).bind fun r3 =>
      (gI σ 0 r3 1).bind fun x4 =>
      jn (fun (z5 : Int32) => (
        (gI σ 0 r3 2).bind fun x6 =>
        lt (((x6 : Int32).toInt64) * ((i3 : Int32).toInt64)) fun l7 =>
        if i3 = 0 then (
          (gR σ 5 a0 1).bind fun r19 =>
          bd (f_X2_becomeSizeOf σ r19 1) fun _ σ20 =>
          (gR σ20 5 a0 1).bind fun r21 =>
          bd (f_X5_keep σ20 a0 i1 r21 0 0) fun x22 σ23 =>
          (isB x22).bind fun _ => some (x22, σ23, 0, 0)
          ) else
        (gR σ 0 r3 0).bind fun r8 =>
        (f_X2_isZero σ r8).bind fun x9 =>
        jn (fun (z10 : Unit) => (
          (gR σ 0 r3 0).bind fun r11 =>
          bd (f_X5_keep σ a0 i1 r11 z5 l7) fun x12 σ13 =>
          (isB x12).bind fun _ => some (x12, σ13, 0, 0)
          )) fun k10 =>
        if x9 = 0 then (
          (gR σ 0 r3 0).bind fun r14 =>
          (f_X2_isOne σ r14).bind fun x15 =>
          if x15 = 0 then (
            if i3 ≤ 13606 then (
              (gR σ 0 r3 0).bind fun r16 =>
              bd (f_X5_keepPower σ a0 i1 r16 i3 z5 l7) fun x17 σ18 =>
              (isB x17).bind fun _ => some (x17, σ18, 0, 0)
              ) else
            (isB 0).bind fun _ => some (0, σ, 0, 0)
            ) else
          k10 ()
          ) else
        k10 ()
        )) fun k5 =>
      jn (fun (z24 : Unit) => (
        k5 0
        )) fun k24 =>
      if x4 = 0 then (
        k24 ()
        ) else
      if (i3 &&& 1) = 0 then (
        k24 ()
        ) else
      k5 1
      ) else
    (isB 0).bind fun _ => some (0, σ, 0, 0)
    )
noncomputable def f_X5_isRounding (σ : St) (i0 : Int32) : Option Int32 :=
  if i0 < 0 then (
    (isB 0).bind fun _ => some 0
    ) else
  if 7 < i0 then (
    (isB 0).bind fun _ => some 0
    ) else
  (isB 1).bind fun _ => some 1
noncomputable def f_X5_divideRaised (σ : St) (a0 : Nat) (a1 : Nat) (i2 : Int32) (a3 : Nat) : Rs Int32 :=
  ob σ 5 a0 (
    (gR σ 5 a0 1).bind fun r1 =>
    bd (f_X2_raise σ r1 a1 i2) fun _ σ2 =>
    (gR σ2 5 a0 1).bind fun r3 =>
    (gR σ2 5 a0 2).bind fun r4 =>
    bd (f_X2_reduce σ2 r3 r4 a3) fun _ σ5 =>
    (gR σ5 5 a0 1).bind fun r6 =>
    (f_X2_isZero σ5 r6).bind fun x7 =>
    if x7 = 0 then (
      (isB 1).bind fun _ => some (1, σ5, 0, 0)
      ) else
    (isB 0).bind fun _ => some (0, σ5, 0, 0)
    )
noncomputable def f_X5_goesFarther (σ : St) (i0 : Int32) (i1 : Int32) (i2 : Int32) (i3 : Int32) : Option Int32 :=
  if i1 = 0 then (
    (isB 0).bind fun _ => some 0
    ) else
  if i0 = 0 then (
    (isB 1).bind fun _ => some 1
    ) else
  if i0 = 2 then (
    if i2 = 0 then (
      (isB 1).bind fun _ => some 1
      ) else
    (isB 0).bind fun _ => some 0
    ) else
  if i0 = 3 then (
    (isB i2).bind fun _ => some i2
    ) else
  if i0 = 4 then (
    if i1 < 2 then (
      (isB 0).bind fun _ => some 0
      ) else
    (isB 1).bind fun _ => some 1
    ) else
  if i0 = 5 then (
    if i1 = 3 then (
      (isB 1).bind fun _ => some 1
      ) else
    (isB 0).bind fun _ => some 0
    ) else
  if i0 = 6 then (
    if i1 = 3 then (
      (isB 1).bind fun _ => some 1
      ) else
    if i1 = 2 then (
      if i3 = 0 then (
        (isB 0).bind fun _ => some 0
        ) else
      (isB 1).bind fun _ => some 1
      ) else
    (isB 0).bind fun _ => some 0
    ) else
  (isB 0).bind fun _ => some 0
noncomputable def f_X5_cutQuotient (σ : St) (a0 : Nat) (i1 : Int32) (i2 : Int32) (i3 : Int32) (i4 : Int32) : Rs Int32 :=
  ob σ 5 a0 (
    (gR σ 5 a0 2).bind fun r1 =>
    bd (f_X2_cut σ r1 i1 i2) fun x2 σ3 =>
    jn (fun (z4 : Unit) => (
      (gR σ3 5 a0 2).bind fun r5 =>
      (f_X2_isOdd σ3 r5).bind fun x6 =>
      (f_X5_goesFarther σ3 i4 x2 i3 x6).bind fun x7 =>
      if x7 = 0 then (
        (isB 1).bind fun _ => some (1, σ3, 0, 0)
        ) else
      (gR σ3 5 a0 2).bind fun r8 =>
      bd (f_X2_addOne σ3 r8) fun _ σ9 =>
      (isB 1).bind fun _ => some (1, σ9, 0, 0)
      )) fun k4 =>
    if x2 = 0 then (
      k4 ()
      ) else
    if i4 = 7 then (
      (isB 0).bind fun _ => some (0, σ3, 0, 0)
      ) else
    k4 ()
    )
noncomputable def f_X5_divide (σ : St) (a0 : Nat) (i1 : Int32) (i2 : Int32) (i3 : Int32) (i4 : Int32) (i5 : Int32) : Rs Int32 :=
  ob σ 5 a0 (
    (f_X5_isRegister σ i2).bind fun x1 =>
    if x1 = 0 then (
      (isB 0).bind fun _ => some (0, σ, 0, 0)
      ) else
    (f_X5_isRegister σ i3).bind fun x2 =>
    if x2 = 0 then (
      (isB 0).bind fun _ => some (0, σ, 0, 0)
      ) else
    (f_X5_isRounding σ i5).bind fun x3 =>
    if x3 = 0 then (
      (isB 0).bind fun _ => some (0, σ, 0, 0)
      ) else
    (gR σ 5 a0 0).bind fun r4 =>
    (ldA σ r4 i2).bind fun r5 =>
    (gR σ 5 a0 0).bind fun r6 =>
    (ldA σ r6 i3).bind fun r7 =>
    (gR σ 0 r7 0).bind fun r8 =>
    (f_X2_isZero σ r8).bind fun x9 =>
    if x9 = 0 then (
      (gR σ 0 r5 0).bind fun r10 =>
      (f_X2_isZero σ r10).bind fun x11 =>
      if x11 = 0 then (
        (gI σ 0 r5 2).bind fun x12 =>
        (gI σ 0 r7 2).bind fun x13 =>
        lt (((((i4 : Int32).toInt64) - ((x12 : Int32).toInt64)) + ((x13 : Int32).toInt64)) + 1) fun l14 =>
        (gR σ 0 r5 0).bind fun r15 =>
        (f_X2_digitCount σ r15).bind fun x16 =>
        (gR σ 0 r7 0).bind fun r17 =>
        (f_X2_digitCount σ r17).bind fun x18 =>
        if ((((x16 - x18 : Int32).toInt64) + l14) - 1) ≤ 4096 then (
          (f_J9_max_f86c9 σ l14 0).bind fun l19 =>
          lt ((l19 : Int64).toInt32) fun x20 =>
          (gR σ 0 r5 0).bind fun r21 =>
          (gR σ 0 r7 0).bind fun r22 =>
          bd (f_X5_divideRaised σ a0 r21 x20 r22) fun x23 σ24 =>
          (f_J9_min_f86c9 σ24 ((((x20 : Int32).toInt64) - l14) + 1) 4098).bind fun l25 =>
          lt ((l25 : Int64).toInt32) fun x26 =>
          (gI σ24 0 r5 1).bind fun x27 =>
          (gI σ24 0 r7 1).bind fun x28 =>
          jn (fun (z29 : Int32) => (
            bd (f_X5_cutQuotient σ24 a0 x26 x23 z29 i5) fun x30 σ31 =>
            if x30 = 0 then (
              (isB 0).bind fun _ => some (0, σ31, 0, 0)
              ) else
            (gR σ31 5 a0 2).bind fun r32 =>
            bd (f_X5_keep σ31 a0 i1 r32 z29 ((i4 : Int32).toInt64)) fun x33 σ34 =>
            if x33 = 0 then (
              (isB 0).bind fun _ => some (0, σ34, 0, 0)
              ) else
            (isB 1).bind fun _ => some (1, σ34, 0, 0)
            )) fun k29 =>
          if x27 = x28 then (
            k29 0
            ) else
          k29 1
          ) else
        (isB 0).bind fun _ => some (0, σ, 0, 0)
        ) else
      (gR σ 0 r5 0).bind fun r35 =>
      bd (f_X5_keep σ a0 i1 r35 0 ((i4 : Int32).toInt64)) fun x36 σ37 =>
      (isB x36).bind fun _ => some (x36, σ37, 0, 0)
      ) else
    (isB 0).bind fun _ => some (0, σ, 0, 0)
    )
noncomputable def f_X5_isPrecision (σ : St) (i0 : Int32) : Option Int32 :=
  if i0 < 0 then (
    (isB 0).bind fun _ => some 0
    ) else
  if 4096 < i0 then (
    (isB 0).bind fun _ => some 0
    ) else
  (isB 1).bind fun _ => some 1
noncomputable def f_X5_keepExactRatio (σ : St) (a0 : Nat) (i1 : Int32) (a2 : Nat) (a3 : Nat) (j4 : Int64) : Rs Int32 :=
  ob σ 5 a0 (
    (gR σ 0 a3 0).bind fun r1 =>
    (f_X2_digitCount σ r1).bind fun x2 =>
    (gR σ 0 a2 0).bind fun r3 =>
    (f_X2_digitCount σ r3).bind fun x4 =>
    lt ((4096 + x2) - x4) fun x5 =>
    (gR σ 0 a2 0).bind fun r6 =>
    (gR σ 0 a3 0).bind fun r7 =>
    bd (f_X5_divideRaised σ a0 r6 x5 r7) fun x8 σ9 =>
    if x8 = 0 then (
      (gR σ9 5 a0 2).bind fun r10 =>
      (f_X2_endingZeros σ9 r10).bind fun x11 =>
      (f_J9_min_7cf53 σ9 x5 x11).bind fun x12 =>
      (gR σ9 5 a0 2).bind fun r13 =>
      bd (f_X2_drop σ9 r13 x12) fun _ σ14 =>
      (gR σ14 5 a0 2).bind fun r15 =>
      (gI σ14 0 a2 1).bind fun x16 =>
      (gI σ14 0 a3 1).bind fun x17 =>
      jn (fun (z18 : Int32) => (
        bd (f_X5_keep σ14 a0 i1 r15 z18 ((j4 + ((x5 : Int32).toInt64)) - ((x12 : Int32).toInt64))) fun x19 σ20 =>
        (isB x19).bind fun _ => some (x19, σ20, 0, 0)
        )) fun k18 =>
      if x16 = x17 then (
        k18 0
        ) else
      k18 1
      ) else
    (isB 0).bind fun _ => some (0, σ9, 0, 0)
    )
noncomputable def f_X5_keepRounded (σ : St) (a0 : Nat) (i1 : Int32) (i2 : Int32) (j3 : Int64) (i5 : Int32) (i6 : Int32) (i7 : Int32) : Rs Int32 :=
  ob σ 5 a0 (
    (gR σ 5 a0 2).bind fun r1 =>
    (f_X2_digitCount σ r1).bind fun x2 =>
    lt (x2 - i6) fun x3 =>
    bd (f_X5_cutQuotient σ a0 x3 i5 i2 i7) fun x4 σ5 =>
    if x4 = 0 then (
      (isB 0).bind fun _ => some (0, σ5, 0, 0)
      ) else
    (gR σ5 5 a0 2).bind fun r6 =>
    (f_X2_digitCount σ5 r6).bind fun x7 =>
    jn (fun (z8 : Int32 × St) => (
      (gR z8.2 5 a0 2).bind fun r9 =>
      bd (f_X5_keep z8.2 a0 i1 r9 i2 (j3 - ((z8.1 : Int32).toInt64))) fun x10 σ11 =>
      (isB x10).bind fun _ => some (x10, σ11, 0, 0)
      )) fun k8 =>
    if x7 ≤ i6 then (
      k8 (x3, σ5)
      ) else
    (gR σ5 5 a0 2).bind fun r12 =>
    bd (f_X2_drop σ5 r12 1) fun _ σ13 =>
    lt (x3 + 1) fun x14 =>
    k8 (x14, σ13)
    )
noncomputable def f_X5_settle (σ : St) (a0 : Nat) (i1 : Int32) (i2 : Int32) (j3 : Int64) (i5 : Int32) (j6 : Int64) (i8 : Int32) (i9 : Int32) : Rs Int32 :=
  ob σ 5 a0 (
    (gR σ 5 a0 2).bind fun r1 =>
    (f_X2_endingZeros σ r1).bind fun x2 =>
    (gR σ 5 a0 2).bind fun r3 =>
    (f_X2_digitCount σ r3).bind fun x4 =>
    lt (x4 - x2) fun x5 =>
    jn (fun (z6 : Unit) => (
      bd (f_X5_keepRounded σ a0 i1 i2 j3 i5 i8 i9) fun x7 σ8 =>
      (isB x7).bind fun _ => some (x7, σ8, 0, 0)
      )) fun k6 =>
    if i5 = 0 then (
      if x5 ≤ i8 then (
        lt (j3 - ((x2 : Int32).toInt64)) fun l9 =>
        lt ((l9 + ((i8 : Int32).toInt64)) - ((x5 : Int32).toInt64)) fun l10 =>
        (f_J9_min_f86c9 σ l10 j6).bind fun l11 =>
        (f_J9_max_f86c9 σ l9 l11).bind fun l12 =>
        (gR σ 5 a0 2).bind fun r13 =>
        bd (f_X2_drop σ r13 ((j3 - l12 : Int64).toInt32)) fun _ σ14 =>
        (gR σ14 5 a0 2).bind fun r15 =>
        bd (f_X5_keep σ14 a0 i1 r15 i2 l12) fun x16 σ17 =>
        (isB x16).bind fun _ => some (x16, σ17, 0, 0)
        ) else
      k6 ()
      ) else
    k6 ()
    )
noncomputable def f_X5_ratio (σ : St) (a0 : Nat) (i1 : Int32) (i2 : Int32) (i3 : Int32) (i4 : Int32) (i5 : Int32) : Rs Int32 :=
  ob σ 5 a0 (
    (f_X5_isRegister σ i2).bind fun x1 =>
    if x1 = 0 then (
      (isB 0).bind fun _ => some (0, σ, 0, 0)
      ) else
    (f_X5_isRegister σ i3).bind fun x2 =>
    if x2 = 0 then (
      (isB 0).bind fun _ => some (0, σ, 0, 0)
      ) else
    (f_X5_isPrecision σ i4).bind fun x3 =>
    if x3 = 0 then (
      (isB 0).bind fun _ => some (0, σ, 0, 0)
      ) else
    (f_X5_isRounding σ i5).bind fun x4 =>
    if x4 = 0 then (
      (isB 0).bind fun _ => some (0, σ, 0, 0)
      ) else
    (gR σ 5 a0 0).bind fun r5 =>
    (ldA σ r5 i2).bind fun r6 =>
    (gR σ 5 a0 0).bind fun r7 =>
    (ldA σ r7 i3).bind fun r8 =>
    (gR σ 0 r8 0).bind fun r9 =>
    (f_X2_isZero σ r9).bind fun x10 =>
    if x10 = 0 then (
      (gI σ 0 r6 2).bind fun x11 =>
      (gI σ 0 r8 2).bind fun x12 =>
      lt (((x11 : Int32).toInt64) - ((x12 : Int32).toInt64)) fun l13 =>
      (gR σ 0 r6 0).bind fun r14 =>
      (f_X2_isZero σ r14).bind fun x15 =>
      if x15 = 0 then (
        if i4 = 0 then (
          bd (f_X5_keepExactRatio σ a0 i1 r6 r8 l13) fun x30 σ31 =>
          (isB x30).bind fun _ => some (x30, σ31, 0, 0)
          ) else
        (gR σ 0 r8 0).bind fun r16 =>
        (f_X2_digitCount σ r16).bind fun x17 =>
        (gR σ 0 r6 0).bind fun r18 =>
        (f_X2_digitCount σ r18).bind fun x19 =>
        (f_J9_max_7cf53 σ 0 (((i4 + 1) + x17) - x19)).bind fun x20 =>
        (gR σ 0 r6 0).bind fun r21 =>
        (gR σ 0 r8 0).bind fun r22 =>
        bd (f_X5_divideRaised σ a0 r21 x20 r22) fun x23 σ24 =>
        (gI σ24 0 r6 1).bind fun x25 =>
        (gI σ24 0 r8 1).bind fun x26 =>
        jn (fun (z27 : Int32) => (
          bd (f_X5_settle σ24 a0 i1 z27 (l13 + ((x20 : Int32).toInt64)) x23 l13 i4 i5) fun x28 σ29 =>
          (isB x28).bind fun _ => some (x28, σ29, 0, 0)
          )) fun k27 =>
        if x25 = x26 then (
          k27 0
          ) else
        k27 1
        ) else
      (gR σ 0 r6 0).bind fun r32 =>
      bd (f_X5_keep σ a0 i1 r32 0 l13) fun x33 σ34 =>
      (isB x33).bind fun _ => some (x33, σ34, 0, 0)
      ) else
    (isB 0).bind fun _ => some (0, σ, 0, 0)
    )
noncomputable def f_X5_keepWhole (σ : St) (a0 : Nat) (i1 : Int32) (i2 : Int32) (a3 : Nat) (i4 : Int32) (j5 : Int64) (j7 : Int64) : Rs Int32 :=
  ob σ 5 a0 (
    (gI σ 0 a3 1).bind fun x1 =>
    (gR σ 5 a0 1).bind fun r2 =>
    (f_X5_fits σ r2 j7).bind fun x3 =>
    if x3 = 0 then (
      (isB 0).bind fun _ => some (0, σ, 0, 0)
      ) else
    (gR σ 5 a0 2).bind fun r4 =>
    jn (fun (z5 : Int32) => (
      bd (f_X5_keep σ a0 i1 r4 z5 j5) fun x6 σ7 =>
      if x6 = 0 then (
        (isB 0).bind fun _ => some (0, σ7, 0, 0)
        ) else
      (gR σ7 5 a0 1).bind fun r8 =>
      bd (f_X5_keep σ7 a0 i2 r8 x1 j7) fun x9 σ10 =>
      if x9 = 0 then (
        (isB 0).bind fun _ => some (0, σ10, 0, 0)
        ) else
      (isB 1).bind fun _ => some (1, σ10, 0, 0)
      )) fun k5 =>
    if x1 = i4 then (
      k5 0
      ) else
    k5 1
    )
noncomputable def f_X5_keepWholeOfRaised (σ : St) (a0 : Nat) (i1 : Int32) (i2 : Int32) (a3 : Nat) (a4 : Nat) (j5 : Int64) : Rs Int32 :=
  ob σ 5 a0 (
    (gR σ 0 a4 0).bind fun r1 =>
    (f_X2_digitCount σ r1).bind fun x2 =>
    (gR σ 0 a3 0).bind fun r3 =>
    (f_X2_digitCount σ r3).bind fun x4 =>
    lt ((4096 + (2 * x2)) - x4) fun x5 =>
    (f_J9_min_f86c9 σ j5 ((x5 : Int32).toInt64)).bind fun l6 =>
    lt ((l6 : Int64).toInt32) fun x7 =>
    (gR σ 0 a3 0).bind fun r8 =>
    (gR σ 0 a4 0).bind fun r9 =>
    bd (f_X5_divideRaised σ a0 r8 x7 r9) fun x10 σ11 =>
    (gR σ11 5 a0 2).bind fun r12 =>
    (f_X2_isZero σ11 r12).bind fun x13 =>
    if x13 = 0 then (
      lt (j5 - ((x7 : Int32).toInt64)) fun l14 =>
      jn (fun (z15 : Unit) => (
        (gR σ11 5 a0 2).bind fun r16 =>
        (f_X2_endingZeros σ11 r16).bind fun x17 =>
        (f_J9_min_f86c9 σ11 j5 (((x17 : Int32).toInt64) + l14)).bind fun l18 =>
        lt ((l18 - l14 : Int64).toInt32) fun x19 =>
        (gR σ11 5 a0 2).bind fun r20 =>
        bd (f_X2_drop σ11 r20 x19) fun _ σ21 =>
        (gR σ21 5 a0 1).bind fun r22 =>
        bd (f_X2_drop σ21 r22 x19) fun _ σ23 =>
        (gI σ23 0 a4 1).bind fun x24 =>
        (gI σ23 0 a4 2).bind fun x25 =>
        bd (f_X5_keepWhole σ23 a0 i1 i2 a3 x24 (-l18) (((x25 : Int32).toInt64) - l18)) fun x26 σ27 =>
        (isB x26).bind fun _ => some (x26, σ27, 0, 0)
        )) fun k15 =>
      if x10 = 0 then (
        k15 ()
        ) else
      if l14 ≤ 0 then (
        k15 ()
        ) else
      (isB 0).bind fun _ => some (0, σ11, 0, 0)
      ) else
    (gR σ11 5 a0 1).bind fun r28 =>
    (gR σ11 0 a3 0).bind fun r29 =>
    bd (f_X2_become σ11 r28 r29) fun _ σ30 =>
    (gI σ30 0 a4 1).bind fun x31 =>
    (gI σ30 0 a3 2).bind fun x32 =>
    bd (f_X5_keepWhole σ30 a0 i1 i2 a3 x31 (-j5) ((x32 : Int32).toInt64)) fun x33 σ34 =>
    (isB x33).bind fun _ => some (x33, σ34, 0, 0)
    )
noncomputable def f_X5_whole (σ : St) (a0 : Nat) (i1 : Int32) (i2 : Int32) (i3 : Int32) (i4 : Int32) : Rs Int32 :=
  ob σ 5 a0 (
    (f_X5_isRegister σ i1).bind fun x1 =>
    if x1 = 0 then (
      (isB 0).bind fun _ => some (0, σ, 0, 0)
      ) else
    (f_X5_isRegister σ i2).bind fun x2 =>
    if x2 = 0 then (
      (isB 0).bind fun _ => some (0, σ, 0, 0)
      ) else
    (f_X5_isRegister σ i3).bind fun x3 =>
    if x3 = 0 then (
      (isB 0).bind fun _ => some (0, σ, 0, 0)
      ) else
    (f_X5_isRegister σ i4).bind fun x4 =>
    if x4 = 0 then (
      (isB 0).bind fun _ => some (0, σ, 0, 0)
      ) else
    if i1 = i2 then (
      (isB 0).bind fun _ => some (0, σ, 0, 0)
      ) else
    (gR σ 5 a0 0).bind fun r5 =>
    (ldA σ r5 i3).bind fun r6 =>
    (gR σ 5 a0 0).bind fun r7 =>
    (ldA σ r7 i4).bind fun r8 =>
    (gR σ 0 r8 0).bind fun r9 =>
    (f_X2_isZero σ r9).bind fun x10 =>
    if x10 = 0 then (
      (gI σ 0 r6 2).bind fun x11 =>
      (gI σ 0 r8 2).bind fun x12 =>
      lt (((x11 : Int32).toInt64) - ((x12 : Int32).toInt64)) fun l13 =>
      (gR σ 0 r6 0).bind fun r14 =>
      (f_X2_digitCount σ r14).bind fun x15 =>
      (gR σ 0 r8 0).bind fun r16 =>
      (f_X2_digitCount σ r16).bind fun x17 =>
      if ((x17 : Int32).toInt64) ≤ (((x15 : Int32).toInt64) - l13) then (
        if l13 ≤ 0 then (
          bd (f_X5_keepWholeOfRaised σ a0 i1 i2 r6 r8 (-l13)) fun x18 σ19 =>
          (isB x18).bind fun _ => some (x18, σ19, 0, 0)
          ) else
        lt ((l13 : Int64).toInt32) fun x20 =>
        (gR σ 5 a0 3).bind fun r21 =>
        (gR σ 0 r8 0).bind fun r22 =>
        bd (f_X2_raise σ r21 r22 x20) fun _ σ23 =>
        (gR σ23 0 r6 0).bind fun r24 =>
        (gR σ23 5 a0 3).bind fun r25 =>
        bd (f_X5_divideRaised σ23 a0 r24 0 r25) fun x26 σ27 =>
        (gR σ27 5 a0 2).bind fun r28 =>
        (gR σ27 5 a0 2).bind fun r29 =>
        bd (f_X2_raise σ27 r28 r29 x20) fun _ σ30 =>
        (gI σ30 0 r8 1).bind fun x31 =>
        (gI σ30 0 r6 2).bind fun x32 =>
        bd (f_X5_keepWhole σ30 a0 i1 i2 r6 x31 l13 ((x32 : Int32).toInt64)) fun x33 σ34 =>
        (isB x33).bind fun _ => some (x33, σ34, 0, 0)
        ) else
      (gR σ 5 a0 2).bind fun r35 =>
      bd (f_X2_clear σ r35) fun _ σ36 =>
      (gR σ36 5 a0 1).bind fun r37 =>
      (gR σ36 0 r6 0).bind fun r38 =>
      bd (f_X2_become σ36 r37 r38) fun _ σ39 =>
      (gI σ39 0 r8 1).bind fun x40 =>
      (gI σ39 0 r6 2).bind fun x41 =>
      bd (f_X5_keepWhole σ39 a0 i1 i2 r6 x40 l13 ((x41 : Int32).toInt64)) fun x42 σ43 =>
      (isB x42).bind fun _ => some (x42, σ43, 0, 0)
      ) else
    (isB 0).bind fun _ => some (0, σ, 0, 0)
    )
noncomputable def f_X5_root (σ : St) (a0 : Nat) (i1 : Int32) (i2 : Int32) (i3 : Int32) (i4 : Int32) : Rs Int32 :=
  ob σ 5 a0 (
    (f_X5_isRegister σ i2).bind fun x1 =>
    if x1 = 0 then (
      (isB 0).bind fun _ => some (0, σ, 0, 0)
      ) else
    (f_X5_isPrecision σ i3).bind fun x2 =>
    if x2 = 0 then (
      (isB 0).bind fun _ => some (0, σ, 0, 0)
      ) else
    if i3 = 0 then (
      (isB 0).bind fun _ => some (0, σ, 0, 0)
      ) else
    (f_X5_isRounding σ i4).bind fun x3 =>
    if x3 = 0 then (
      (isB 0).bind fun _ => some (0, σ, 0, 0)
      ) else
    (gR σ 5 a0 0).bind fun r4 =>
    (ldA σ r4 i2).bind fun r5 =>
    (gI σ 0 r5 1).bind fun x6 =>
    if x6 = 0 then (
      (gI σ 0 r5 2).bind fun x7 =>
      (dvI x7 2).bind fun x8 =>
      (gR σ 0 r5 0).bind fun r9 =>
      (f_X2_isZero σ r9).bind fun x10 =>
      if x10 = 0 then (
        (dvI i3 9).bind fun x11 =>
        lt (x11 + 1) fun x12 =>
        (gR σ 0 r5 0).bind fun r13 =>
        (f_X2_digitCount σ r13).bind fun x14 =>
        lt ((18 * x12) - x14) fun x15 =>
        (gI σ 0 r5 2).bind fun x16 =>
        jn (fun (z17 : Int32) => (
          jn (fun (z18 : Int32 × St) => (
            (gR z18.2 5 a0 1).bind fun r19 =>
            (gR z18.2 5 a0 2).bind fun r20 =>
            (gR z18.2 5 a0 3).bind fun r21 =>
            bd (f_X2_takeRoot z18.2 r19 r20 r21) fun _ σ22 =>
            jn (fun (z23 : Int32) => (
              (gI σ22 0 r5 2).bind fun x24 =>
              (dvL (((x24 : Int32).toInt64) + ((z17 : Int32).toInt64)) 2).bind fun l25 =>
              bd (f_X5_settle σ22 a0 i1 0 l25 z23 ((x8 : Int32).toInt64) i3 i4) fun x26 σ27 =>
              (isB x26).bind fun _ => some (x26, σ27, 0, 0)
              )) fun k23 =>
            jn (fun (z28 : Unit) => (
              k23 1
              )) fun k28 =>
            if z18.1 = 0 then (
              (gR σ22 5 a0 1).bind fun r29 =>
              (f_X2_isZero σ22 r29).bind fun x30 =>
              if x30 = 0 then (
                k28 ()
                ) else
              k23 0
              ) else
            k28 ()
            )) fun k18 =>
          if z17 < 0 then (
            (gR σ 5 a0 1).bind fun r31 =>
            (gR σ 0 r5 0).bind fun r32 =>
            bd (f_X2_become σ r31 r32) fun _ σ33 =>
            (gR σ33 5 a0 1).bind fun r34 =>
            bd (f_X2_cut σ33 r34 (-z17) 0) fun x35 σ36 =>
            jn (fun (z37 : Int32) => (
              k18 (z37, σ36)
              )) fun k37 =>
            if x35 = 0 then (
              k37 0
              ) else
            k37 1
            ) else
          (gR σ 5 a0 1).bind fun r38 =>
          (gR σ 0 r5 0).bind fun r39 =>
          bd (f_X2_raise σ r38 r39 z17) fun _ σ40 =>
          k18 (0, σ40)
          )) fun k17 =>
        if ((x16 ^^^ x15) &&& 1) = 0 then (
          k17 x15
          ) else
        lt (x15 + (-1)) fun x41 =>
        k17 x41
        ) else
      (gR σ 0 r5 0).bind fun r42 =>
      bd (f_X5_keep σ a0 i1 r42 0 ((x8 : Int32).toInt64)) fun x43 σ44 =>
      (isB x43).bind fun _ => some (x43, σ44, 0, 0)
      ) else
    (isB 0).bind fun _ => some (0, σ, 0, 0)
    )
noncomputable def f_X5_rescale (σ : St) (a0 : Nat) (i1 : Int32) (i2 : Int32) (i3 : Int32) (i4 : Int32) : Rs Int32 :=
  ob σ 5 a0 (
    (f_X5_isRegister σ i2).bind fun x1 =>
    if x1 = 0 then (
      (isB 0).bind fun _ => some (0, σ, 0, 0)
      ) else
    (f_X5_isRounding σ i4).bind fun x2 =>
    if x2 = 0 then (
      (isB 0).bind fun _ => some (0, σ, 0, 0)
      ) else
    (gR σ 5 a0 0).bind fun r3 =>
    (ldA σ r3 i2).bind fun r4 =>
    (gI σ 0 r4 2).bind fun x5 =>
    lt (((i3 : Int32).toInt64) - ((x5 : Int32).toInt64)) fun l6 =>
    (gR σ 0 r4 0).bind fun r7 =>
    (f_X2_isZero σ r7).bind fun x8 =>
    if x8 = 0 then (
      if l6 < 0 then (
        (gR σ 5 a0 2).bind fun r9 =>
        (gR σ 0 r4 0).bind fun r10 =>
        bd (f_X2_become σ r9 r10) fun _ σ11 =>
        (f_J9_min_f86c9 σ11 (-l6) 4098).bind fun l12 =>
        lt ((l12 : Int64).toInt32) fun x13 =>
        (gI σ11 0 r4 1).bind fun x14 =>
        bd (f_X5_cutQuotient σ11 a0 x13 0 x14 i4) fun x15 σ16 =>
        if x15 = 0 then (
          (isB 0).bind fun _ => some (0, σ16, 0, 0)
          ) else
        (gR σ16 5 a0 2).bind fun r17 =>
        (gI σ16 0 r4 1).bind fun x18 =>
        bd (f_X5_keep σ16 a0 i1 r17 x18 ((i3 : Int32).toInt64)) fun x19 σ20 =>
        if x19 = 0 then (
          (isB 0).bind fun _ => some (0, σ20, 0, 0)
          ) else
        (isB 1).bind fun _ => some (1, σ20, 0, 0)
        ) else
      (gR σ 0 r4 0).bind fun r21 =>
      (f_X2_digitCount σ r21).bind fun x22 =>
      if (((x22 : Int32).toInt64) + l6) ≤ 4096 then (
        (gR σ 5 a0 1).bind fun r23 =>
        (gR σ 0 r4 0).bind fun r24 =>
        bd (f_X2_raise σ r23 r24 ((l6 : Int64).toInt32)) fun _ σ25 =>
        (gR σ25 5 a0 1).bind fun r26 =>
        (gI σ25 0 r4 1).bind fun x27 =>
        bd (f_X5_keep σ25 a0 i1 r26 x27 ((i3 : Int32).toInt64)) fun x28 σ29 =>
        (isB x28).bind fun _ => some (x28, σ29, 0, 0)
        ) else
      (isB 0).bind fun _ => some (0, σ, 0, 0)
      ) else
    (gR σ 0 r4 0).bind fun r30 =>
    bd (f_X5_keep σ a0 i1 r30 0 ((i3 : Int32).toInt64)) fun x31 σ32 =>
    (isB x31).bind fun _ => some (x31, σ32, 0, 0)
    )
noncomputable def f_X5_round (σ : St) (a0 : Nat) (i1 : Int32) (i2 : Int32) (i3 : Int32) (i4 : Int32) : Rs Int32 :=
  ob σ 5 a0 (
    (f_X5_isRegister σ i2).bind fun x1 =>
    if x1 = 0 then (
      (isB 0).bind fun _ => some (0, σ, 0, 0)
      ) else
    (f_X5_isPrecision σ i3).bind fun x2 =>
    if x2 = 0 then (
      (isB 0).bind fun _ => some (0, σ, 0, 0)
      ) else
    (f_X5_isRounding σ i4).bind fun x3 =>
    if x3 = 0 then (
      (isB 0).bind fun _ => some (0, σ, 0, 0)
      ) else
    (gR σ 5 a0 0).bind fun r4 =>
    (ldA σ r4 i2).bind fun r5 =>
    jn (fun (z6 : Unit) => (
      (gR σ 0 r5 0).bind fun r7 =>
      (gI σ 0 r5 1).bind fun x8 =>
      (gI σ 0 r5 2).bind fun x9 =>
      bd (f_X5_keep σ a0 i1 r7 x8 ((x9 : Int32).toInt64)) fun x10 σ11 =>
      (isB x10).bind fun _ => some (x10, σ11, 0, 0)
      )) fun k6 =>
    if i3 = 0 then (
      k6 ()
      ) else
    (gR σ 0 r5 0).bind fun r12 =>
    (f_X2_digitCount σ r12).bind fun x13 =>
    if i3 < x13 then (
      (gR σ 5 a0 2).bind fun r14 =>
      (gR σ 0 r5 0).bind fun r15 =>
      bd (f_X2_become σ r14 r15) fun _ σ16 =>
      (gI σ16 0 r5 1).bind fun x17 =>
      (gI σ16 0 r5 2).bind fun x18 =>
      bd (f_X5_keepRounded σ16 a0 i1 x17 ((x18 : Int32).toInt64) 0 i3 i4) fun x19 σ20 =>
      (isB x19).bind fun _ => some (x19, σ20, 0, 0)
      ) else
    k6 ()
    )
noncomputable def f_X5_strip (σ : St) (a0 : Nat) (i1 : Int32) (i2 : Int32) : Rs Int32 :=
  ob σ 5 a0 (
    (f_X5_isRegister σ i2).bind fun x1 =>
    if x1 = 0 then (
      (isB 0).bind fun _ => some (0, σ, 0, 0)
      ) else
    (gR σ 5 a0 0).bind fun r2 =>
    (ldA σ r2 i2).bind fun r3 =>
    (gR σ 0 r3 0).bind fun r4 =>
    (f_X2_isZero σ r4).bind fun x5 =>
    if x5 = 0 then (
      (gR σ 0 r3 0).bind fun r6 =>
      (f_X2_endingZeros σ r6).bind fun x7 =>
      (gR σ 5 a0 1).bind fun r8 =>
      (gR σ 0 r3 0).bind fun r9 =>
      bd (f_X2_become σ r8 r9) fun _ σ10 =>
      (gR σ10 5 a0 1).bind fun r11 =>
      bd (f_X2_drop σ10 r11 x7) fun _ σ12 =>
      (gR σ12 5 a0 1).bind fun r13 =>
      (gI σ12 0 r3 1).bind fun x14 =>
      (gI σ12 0 r3 2).bind fun x15 =>
      bd (f_X5_keep σ12 a0 i1 r13 x14 (((x15 : Int32).toInt64) - ((x7 : Int32).toInt64))) fun x16 σ17 =>
      (isB x16).bind fun _ => some (x16, σ17, 0, 0)
      ) else
    (gR σ 0 r3 0).bind fun r18 =>
    bd (f_X5_keep σ a0 i1 r18 0 0) fun x19 σ20 =>
    (isB x19).bind fun _ => some (x19, σ20, 0, 0)
    )
noncomputable def f_X5_move (σ : St) (a0 : Nat) (i1 : Int32) (i2 : Int32) (i3 : Int32) : Rs Int32 :=
  ob σ 5 a0 (
    (f_X5_isRegister σ i2).bind fun x1 =>
    if x1 = 0 then (
      (isB 0).bind fun _ => some (0, σ, 0, 0)
      ) else
    (gR σ 5 a0 0).bind fun r2 =>
    (ldA σ r2 i2).bind fun r3 =>
    (gR σ 0 r3 0).bind fun r4 =>
    (gI σ 0 r3 1).bind fun x5 =>
    (gI σ 0 r3 2).bind fun x6 =>
    bd (f_X5_keep σ a0 i1 r4 x5 (((x6 : Int32).toInt64) - ((i3 : Int32).toInt64))) fun x7 σ8 =>
    (isB x7).bind fun _ => some (x7, σ8, 0, 0)
    )
noncomputable def f_X5_orderOfSizes (σ : St) (a0 : Nat) (a1 : Nat) (a2 : Nat) : Rs Int32 :=
  ob σ 5 a0 (
    (gR σ 0 a1 0).bind fun r1 =>
    (f_X2_isZero σ r1).bind fun x2 =>
    if x2 = 0 then (
      (gR σ 0 a2 0).bind fun r3 =>
      (f_X2_isZero σ r3).bind fun x4 =>
      if x4 = 0 then (
        (gR σ 0 a1 0).bind fun r5 =>
        (f_X2_digitCount σ r5).bind fun x6 =>
        (gR σ 0 a2 0).bind fun r7 =>
        (f_X2_digitCount σ r7).bind fun x8 =>
        (gI σ 0 a1 2).bind fun x9 =>
        lt (((x6 : Int32).toInt64) - ((x9 : Int32).toInt64)) fun l10 =>
        (gI σ 0 a2 2).bind fun x11 =>
        lt (((x8 : Int32).toInt64) - ((x11 : Int32).toInt64)) fun l12 =>
        if l10 = l12 then (
          (f_J9_max_7cf53 σ x6 x8).bind fun x13 =>
          (gR σ 5 a0 1).bind fun r14 =>
          (gR σ 0 a1 0).bind fun r15 =>
          bd (f_X2_raise σ r14 r15 (x13 - x6)) fun _ σ16 =>
          (gR σ16 5 a0 3).bind fun r17 =>
          (gR σ16 0 a2 0).bind fun r18 =>
          bd (f_X2_raise σ16 r17 r18 (x13 - x8)) fun _ σ19 =>
          (gR σ19 5 a0 1).bind fun r20 =>
          (gR σ19 5 a0 3).bind fun r21 =>
          (f_X2_order σ19 r20 r21).bind fun x22 =>
          some (x22, σ19, 0, 0)
          ) else
        if l10 ≤ l12 then (
          some ((-1), σ, 0, 0)
          ) else
        some (1, σ, 0, 0)
        ) else
      some (0, σ, 0, 0)
      ) else
    some (0, σ, 0, 0)
    )
noncomputable def f_X5_compare (σ : St) (a0 : Nat) (i1 : Int32) (i2 : Int32) : Rs Int32 :=
  ob σ 5 a0 (
    (f_X5_isRegister σ i1).bind fun x1 =>
    jn (fun (z2 : Unit) => (
      some ((-2), σ, 0, 0)
      )) fun k2 =>
    if x1 = 0 then (
      k2 ()
      ) else
    (f_X5_isRegister σ i2).bind fun x3 =>
    if x3 = 0 then (
      k2 ()
      ) else
    (gR σ 5 a0 0).bind fun r4 =>
    (ldA σ r4 i1).bind fun r5 =>
    (gR σ 5 a0 0).bind fun r6 =>
    (ldA σ r6 i2).bind fun r7 =>
    (f_X0_signum σ r5).bind fun x8 =>
    (f_X0_signum σ r7).bind fun x9 =>
    lt (x8 - x9) fun x10 =>
    if x10 = 0 then (
      (gI σ 0 r5 1).bind fun x11 =>
      if x11 = 0 then (
        bd (f_X5_orderOfSizes σ a0 r5 r7) fun x12 σ13 =>
        some (x12, σ13, 0, 0)
        ) else
      bd (f_X5_orderOfSizes σ a0 r5 r7) fun x14 σ15 =>
      some ((-x14), σ15, 0, 0)
      ) else
    if x10 ≤ 0 then (
      some ((-1), σ, 0, 0)
      ) else
    some (1, σ, 0, 0)
    )
noncomputable def f_X5_sign (σ : St) (a0 : Nat) (i1 : Int32) : Option Int32 :=
  ob σ 5 a0 (
    (f_X5_isRegister σ i1).bind fun x1 =>
    if x1 = 0 then (
      some (-2)
      ) else
    (gR σ 5 a0 0).bind fun r2 =>
    (ldA σ r2 i1).bind fun r3 =>
    (f_X0_signum σ r3).bind fun x4 =>
    some x4
    )
noncomputable def f_X5_precision (σ : St) (a0 : Nat) (i1 : Int32) : Option Int32 :=
  ob σ 5 a0 (
    (f_X5_isRegister σ i1).bind fun x1 =>
    if x1 = 0 then (
      some (-1)
      ) else
    (gR σ 5 a0 0).bind fun r2 =>
    (ldA σ r2 i1).bind fun r3 =>
    (gR σ 0 r3 0).bind fun r4 =>
    (f_X2_digitCount σ r4).bind fun x5 =>
    some x5
    )
noncomputable def f_X5_scale (σ : St) (a0 : Nat) (i1 : Int32) : Option Int32 :=
  ob σ 5 a0 (
    (f_X5_isRegister σ i1).bind fun x1 =>
    if x1 = 0 then (
      some 0
      ) else
    (gR σ 5 a0 0).bind fun r2 =>
    (ldA σ r2 i1).bind fun r3 =>
    (gI σ 0 r3 2).bind fun x4 =>
    some x4
    )
noncomputable def f_X5_digit (σ : St) (a0 : Nat) (i1 : Int32) (i2 : Int32) : Option Int32 :=
  ob σ 5 a0 (
    (f_X5_isRegister σ i1).bind fun x1 =>
    if x1 = 0 then (
      some (-1)
      ) else
    if i2 < 0 then (
      some (-1)
      ) else
    (gR σ 5 a0 0).bind fun r2 =>
    (ldA σ r2 i1).bind fun r3 =>
    (gR σ 0 r3 0).bind fun r4 =>
    (f_X2_digitCount σ r4).bind fun x5 =>
    if i2 < x5 then (
      (gR σ 5 a0 0).bind fun r6 =>
      (ldA σ r6 i1).bind fun r7 =>
      (gR σ 0 r7 0).bind fun r8 =>
      (f_X2_digitAt σ r8 i2).bind fun x9 =>
      some x9
      ) else
    some (-1)
    )
noncomputable def b_X5_type_L6 (rec : St → Nat → Int64 → Int32 → Int32 → Option ((Unit) ⊕ (Int32))) (σ : St) (a0 : Nat) (j1 : Int64) (i3 : Int32) (i4 : Int32) : Option ((Unit) ⊕ (Int32)) :=
  if i4 < 0 then (
    some (.inr i3)
    ) else
  lt (((((j1 : Int64).toUInt64 >>> ((i4 : Int32).toInt64.toUInt64 &&& Int64.toUInt64 63)).toInt64 : Int64).toInt32) &&& 255) fun x1 =>
  if x1 ≤ 126 then (
    jn (fun (z2 : Int32) => (
      lt (i4 + (-8)) fun x3 =>
      rec σ a0 j1 z2 x3
      )) fun k2 =>
    if x1 = 0 then (
      k2 i3
      ) else
    lt (i3 + 1) fun x4 =>
    k2 x4
    ) else
  some (.inl ())
noncomputable def f_X5_type_L6 : Nat → St → Nat → Int64 → Int32 → Int32 → Option ((Unit) ⊕ (Int32))
  | 0, _, _, _, _, _ => none
  | n + 1, σ, a0, j1, i3, i4 => b_X5_type_L6 (f_X5_type_L6 n) σ a0 j1 i3 i4
noncomputable def b_X5_type_L82 (rec : St → Nat → Int64 → Int32 → Rs (Unit)) (σ : St) (a0 : Nat) (j1 : Int64) (i4 : Int32) : Rs (Unit) :=
  if i4 < 0 then (
    some ((), σ, 0, 0)
    ) else
  lt (((((j1 : Int64).toUInt64 >>> ((i4 : Int32).toInt64.toUInt64 &&& Int64.toUInt64 63)).toInt64 : Int64).toInt32) &&& 255) fun x14 =>
  jn (fun (z15 : St) => (
    lt (i4 + (-8)) fun x16 =>
    rec z15 a0 j1 x16
    )) fun k15 =>
  if x14 = 0 then (
    k15 σ
    ) else
  (gR σ 5 a0 4).bind fun r17 =>
  bd (f_X4_append σ r17 x14) fun _ σ18 =>
  k15 σ18
noncomputable def f_X5_type_L82 : Nat → St → Nat → Int64 → Int32 → Rs (Unit)
  | 0, _, _, _, _ => none
  | n + 1, σ, a0, j1, i4 => b_X5_type_L82 (f_X5_type_L82 n) σ a0 j1 i4
noncomputable def f_X5_type (σ : St) (a0 : Nat) (j1 : Int64) : Rs Int32 :=
  ob σ 5 a0 (
    (f_X5_type_L6 FU σ a0 j1 0 56).bind fun y5 =>
    match y5 with
    | .inl z6 => (
      (isB 0).bind fun _ => some (0, σ, 0, 0)
      )
    | .inr z7 => (
      (gR σ 5 a0 4).bind fun r8 =>
      (gI σ 4 r8 1).bind fun x9 =>
      if (x9 + z7) ≤ 6000 then (
        (gR σ 5 a0 4).bind fun r10 =>
        (gR σ 5 a0 4).bind fun r11 =>
        (gI σ 4 r11 1).bind fun x12 =>
        bd (f_X4_makeRoom σ r10 (x12 + z7)) fun _ σ13 =>
        bd (f_X5_type_L82 FU σ13 a0 j1 56) fun y19 σ20 =>
        (isB 1).bind fun _ => some (1, σ20, 0, 0)
        ) else
      (isB 0).bind fun _ => some (0, σ, 0, 0)
      )
    )
noncomputable def f_X5_read (σ : St) (a0 : Nat) (i1 : Int32) : Rs Int32 :=
  ob σ 5 a0 (
    (gR σ 5 a0 6).bind fun r1 =>
    (gR σ 5 a0 4).bind fun r2 =>
    bd (f_X3_parse σ r1 r2) fun x3 σ4 =>
    jn (fun (z5 : St) => (
      (gR z5 5 a0 4).bind fun r6 =>
      (pF z5 4 r6 1 (.int 0)).bind fun σ7 =>
      if x3 = 0 then (
        (isB 0).bind fun _ => some (0, σ7, 0, 0)
        ) else
      (gR σ7 5 a0 1).bind fun r8 =>
      (gR σ7 5 a0 6).bind fun r9 =>
      (gI σ7 3 r9 0).bind fun x10 =>
      (gR σ7 5 a0 6).bind fun r11 =>
      (gI σ7 3 r11 3).bind fun x12 =>
      (gR σ7 5 a0 6).bind fun r13 =>
      (gL σ7 3 r13 4).bind fun l14 =>
      bd (f_X5_keep σ7 a0 i1 r8 x10 (((x12 : Int32).toInt64) - l14)) fun x15 σ16 =>
      if x15 = 0 then (
        (isB 0).bind fun _ => some (0, σ16, 0, 0)
        ) else
      (isB 1).bind fun _ => some (1, σ16, 0, 0)
      )) fun k5 =>
    if x3 = 0 then (
      k5 σ4
      ) else
    (gR σ4 5 a0 1).bind fun r17 =>
    (gR σ4 5 a0 4).bind fun r18 =>
    (gR σ4 5 a0 6).bind fun r19 =>
    (gI σ4 3 r19 1).bind fun x20 =>
    (gR σ4 5 a0 6).bind fun r21 =>
    (gI σ4 3 r21 2).bind fun x22 =>
    bd (f_X2_becomeDigits σ4 r17 r18 x20 x22) fun _ σ23 =>
    k5 σ23
    )
noncomputable def f_X5_write (σ : St) (a0 : Nat) (i1 : Int32) (i2 : Int32) : Rs Int32 :=
  ob σ 5 a0 (
    (f_X5_isRegister σ i1).bind fun x1 =>
    if x1 = 0 then (
      some ((-1), σ, 0, 0)
      ) else
    if i2 < 0 then (
      some ((-1), σ, 0, 0)
      ) else
    if i2 ≤ 2 then (
      (gR σ 5 a0 0).bind fun r2 =>
      (ldA σ r2 i1).bind fun r3 =>
      (gR σ 5 a0 7).bind fun r4 =>
      bd (f_X1_plan σ r4 r3 i2) fun _ σ5 =>
      (gR σ5 5 a0 7).bind fun r6 =>
      (f_X1_length σ5 r6).bind fun l7 =>
      if l7 ≤ 6000 then (
        (gR σ5 5 a0 7).bind fun r8 =>
        (gR σ5 0 r3 0).bind fun r9 =>
        (gR σ5 5 a0 5).bind fun r10 =>
        bd (f_X1_lay σ5 r8 r9 r10) fun _ σ11 =>
        (gR σ11 5 a0 5).bind fun r12 =>
        (gI σ11 4 r12 1).bind fun x13 =>
        some (x13, σ11, 0, 0)
        ) else
      some ((-1), σ5, 0, 0)
      ) else
    some ((-1), σ, 0, 0)
    )
noncomputable def f_X5_characterAt (σ : St) (a0 : Nat) (i1 : Int32) : Option Int32 :=
  ob σ 5 a0 (
    (gR σ 5 a0 5).bind fun r1 =>
    (f_X4_codeAt σ r1 i1).bind fun x2 =>
    some x2
    )
noncomputable def f_X6_init (σ : St) (a0 : Nat) : Rs Unit :=
  (lenOk 32768).bind fun _ => nw σ (arI 32768) (32768 : Int32).toNatClampNeg fun r1 σ2 =>
  (pF σ2 6 a0 0 (.ref r1)).bind fun σ3 =>
  (lenOk 8).bind fun _ => nw σ3 (arI 8) (8 : Int32).toNatClampNeg fun r4 σ5 =>
  (pF σ5 6 a0 1 (.ref r4)).bind fun σ6 =>
  (lenOk 8).bind fun _ => nw σ6 (arI 8) (8 : Int32).toNatClampNeg fun r7 σ8 =>
  (pF σ8 6 a0 2 (.ref r7)).bind fun σ9 =>
  (lenOk 8).bind fun _ => nw σ9 (arI 8) (8 : Int32).toNatClampNeg fun r10 σ11 =>
  (pF σ11 6 a0 3 (.ref r10)).bind fun σ12 =>
  (lenOk 68000).bind fun _ => nw σ12 (arI 68000) (68000 : Int32).toNatClampNeg fun r13 σ14 =>
  (pF σ14 6 a0 4 (.ref r13)).bind fun σ15 =>
  (lenOk 4).bind fun _ => nw σ15 (arI 4) (4 : Int32).toNatClampNeg fun r16 σ17 =>
  (pF σ17 6 a0 5 (.ref r16)).bind fun σ18 =>
  (lenOk 6000).bind fun _ => nw σ18 (arI 6000) (6000 : Int32).toNatClampNeg fun r19 σ20 =>
  (pF σ20 6 a0 8 (.ref r19)).bind fun σ21 =>
  (lenOk 6000).bind fun _ => nw σ21 (arI 6000) (6000 : Int32).toNatClampNeg fun r22 σ23 =>
  (pF σ23 6 a0 10 (.ref r22)).bind fun σ24 =>
  some ((), σ24, 0, 0)
noncomputable def f_X6_is (σ : St) (i0 : Int32) : Option Int32 :=
  if i0 < 0 then (
    (isB 0).bind fun _ => some 0
    ) else
  if 8 ≤ i0 then (
    (isB 0).bind fun _ => some 0
    ) else
  (isB 1).bind fun _ => some 1
noncomputable def f_X6_isRounding (σ : St) (i0 : Int32) : Option Int32 :=
  if i0 < 0 then (
    (isB 0).bind fun _ => some 0
    ) else
  if 8 ≤ i0 then (
    (isB 0).bind fun _ => some 0
    ) else
  (isB 1).bind fun _ => some 1
noncomputable def f_X6_isPrecision (σ : St) (i0 : Int32) : Option Int32 :=
  if i0 < 0 then (
    (isB 0).bind fun _ => some 0
    ) else
  if 4096 < i0 then (
    (isB 0).bind fun _ => some 0
    ) else
  (isB 1).bind fun _ => some 1
noncomputable def b_X6_trim_L2 (rec : St → Nat → Int32 → Int32 → Option (Int32)) (σ : St) (a0 : Nat) (i1 : Int32) (i3 : Int32) : Option (Int32) :=
  if i3 ≤ 0 then (
    some i3
    ) else
  (gR σ 6 a0 4).bind fun r1 =>
  (ldI σ r1 (((17000 * i1) + i3) - 1)).bind fun x2 =>
  if x2 = 0 then (
    lt (i3 + (-1)) fun x3 =>
    rec σ a0 i1 x3
    ) else
  some i3
noncomputable def f_X6_trim_L2 : Nat → St → Nat → Int32 → Int32 → Option (Int32)
  | 0, _, _, _, _ => none
  | n + 1, σ, a0, i1, i3 => b_X6_trim_L2 (f_X6_trim_L2 n) σ a0 i1 i3
noncomputable def f_X6_trim (σ : St) (a0 : Nat) (i1 : Int32) (i2 : Int32) : Rs Unit :=
  ob σ 6 a0 (
    (f_X6_trim_L2 FU σ a0 i1 i2).bind fun y4 =>
    (gR σ 6 a0 5).bind fun r5 =>
    (stI σ r5 i1 y4).bind fun σ6 =>
    some ((), σ6, 0, 0)
    )
noncomputable def b_X6_load_L2 (rec : St → Nat → Int32 → Int32 → Int32 → Rs (Unit)) (σ : St) (a0 : Nat) (i1 : Int32) (i2 : Int32) (i3 : Int32) : Rs (Unit) :=
  (gR σ 6 a0 1).bind fun r1 =>
  (ldI σ r1 i2).bind fun x2 =>
  if x2 ≤ i3 then (
    some ((), σ, 0, 0)
    ) else
  (gR σ 6 a0 4).bind fun r3 =>
  (gR σ 6 a0 0).bind fun r4 =>
  (ldI σ r4 ((4096 * i2) + i3)).bind fun x5 =>
  (stI σ r3 ((17000 * i1) + i3) x5).bind fun σ6 =>
  lt (i3 + 1) fun x7 =>
  rec σ6 a0 i1 i2 x7
noncomputable def f_X6_load_L2 : Nat → St → Nat → Int32 → Int32 → Int32 → Rs (Unit)
  | 0, _, _, _, _, _ => none
  | n + 1, σ, a0, i1, i2, i3 => b_X6_load_L2 (f_X6_load_L2 n) σ a0 i1 i2 i3
noncomputable def f_X6_load (σ : St) (a0 : Nat) (i1 : Int32) (i2 : Int32) : Rs Unit :=
  ob σ 6 a0 (
    bd (f_X6_load_L2 FU σ a0 i1 i2 0) fun y8 σ9 =>
    (gR σ9 6 a0 5).bind fun r10 =>
    (gR σ9 6 a0 1).bind fun r11 =>
    (ldI σ9 r11 i2).bind fun x12 =>
    (stI σ9 r10 i1 x12).bind fun σ13 =>
    some ((), σ13, 0, 0)
    )
noncomputable def b_X6_store_L47 (rec : St → Nat → Int32 → Int32 → Int32 → Int64 → Int32 → Rs (Unit)) (σ : St) (a0 : Nat) (i1 : Int32) (i2 : Int32) (i3 : Int32) (j4 : Int64) (i6 : Int32) : Rs (Unit) :=
  (gR σ 6 a0 5).bind fun r7 =>
  (ldI σ r7 i2).bind fun x8 =>
  if x8 ≤ i6 then (
    some ((), σ, 0, 0)
    ) else
  (gR σ 6 a0 0).bind fun r9 =>
  (gR σ 6 a0 4).bind fun r10 =>
  (ldI σ r10 ((17000 * i2) + i6)).bind fun x11 =>
  (stI σ r9 ((4096 * i1) + i6) x11).bind fun σ12 =>
  lt (i6 + 1) fun x13 =>
  rec σ12 a0 i1 i2 i3 j4 x13
noncomputable def f_X6_store_L47 : Nat → St → Nat → Int32 → Int32 → Int32 → Int64 → Int32 → Rs (Unit)
  | 0, _, _, _, _, _, _, _ => none
  | n + 1, σ, a0, i1, i2, i3, j4, i6 => b_X6_store_L47 (f_X6_store_L47 n) σ a0 i1 i2 i3 j4 i6
noncomputable def f_X6_store (σ : St) (a0 : Nat) (i1 : Int32) (i2 : Int32) (i3 : Int32) (j4 : Int64) : Rs Int32 :=
  ob σ 6 a0 (
    (gR σ 6 a0 5).bind fun r1 =>
    (ldI σ r1 i2).bind fun x2 =>
    if 4096 < x2 then (
      (isB 0).bind fun _ => some (0, σ, 0, 0)
      ) else
    if j4 < (-2147483648) then (
      (isB 0).bind fun _ => some (0, σ, 0, 0)
      ) else
    if j4 ≤ 2147483647 then (
      (gR σ 6 a0 1).bind fun r3 =>
      (gR σ 6 a0 5).bind fun r4 =>
      (ldI σ r4 i2).bind fun x5 =>
      (stI σ r3 i1 x5).bind fun σ6 =>
      bd (f_X6_store_L47 FU σ6 a0 i1 i2 i3 j4 0) fun y14 σ15 =>
      (gR σ15 6 a0 2).bind fun r16 =>
      (gR σ15 6 a0 5).bind fun r17 =>
      (ldI σ15 r17 i2).bind fun x18 =>
      jn (fun (z19 : Int32) => (
        (stI σ15 r16 i1 z19).bind fun σ20 =>
        (gR σ20 6 a0 3).bind fun r21 =>
        (stI σ20 r21 i1 ((j4 : Int64).toInt32)).bind fun σ22 =>
        (isB 1).bind fun _ => some (1, σ22, 0, 0)
        )) fun k19 =>
      if x18 = 0 then (
        k19 0
        ) else
      k19 i3
      ) else
    (isB 0).bind fun _ => some (0, σ, 0, 0)
    )
noncomputable def b_X6_raise_L19 (rec : St → Nat → Int32 → Int32 → Int32 → Rs (Unit)) (σ : St) (a0 : Nat) (i1 : Int32) (i2 : Int32) (i3 : Int32) : Rs (Unit) :=
  if i3 < 0 then (
    some ((), σ, 0, 0)
    ) else
  (gR σ 6 a0 4).bind fun r6 =>
  (gR σ 6 a0 4).bind fun r7 =>
  (ldI σ r7 ((17000 * i1) + i3)).bind fun x8 =>
  (stI σ r6 (((17000 * i1) + i3) + i2) x8).bind fun σ9 =>
  lt (i3 + (-1)) fun x10 =>
  rec σ9 a0 i1 i2 x10
noncomputable def f_X6_raise_L19 : Nat → St → Nat → Int32 → Int32 → Int32 → Rs (Unit)
  | 0, _, _, _, _, _ => none
  | n + 1, σ, a0, i1, i2, i3 => b_X6_raise_L19 (f_X6_raise_L19 n) σ a0 i1 i2 i3
noncomputable def b_X6_raise_L57 (rec : St → Nat → Int32 → Int32 → Int32 → Rs (Unit)) (σ : St) (a0 : Nat) (i1 : Int32) (i2 : Int32) (i3 : Int32) : Rs (Unit) :=
  if i2 ≤ i3 then (
    some ((), σ, 0, 0)
    ) else
  (gR σ 6 a0 4).bind fun r13 =>
  (stI σ r13 ((17000 * i1) + i3) 0).bind fun σ14 =>
  lt (i3 + 1) fun x15 =>
  rec σ14 a0 i1 i2 x15
noncomputable def f_X6_raise_L57 : Nat → St → Nat → Int32 → Int32 → Int32 → Rs (Unit)
  | 0, _, _, _, _, _ => none
  | n + 1, σ, a0, i1, i2, i3 => b_X6_raise_L57 (f_X6_raise_L57 n) σ a0 i1 i2 i3
noncomputable def f_X6_raise (σ : St) (a0 : Nat) (i1 : Int32) (i2 : Int32) : Rs Unit :=
  ob σ 6 a0 (
    (gR σ 6 a0 5).bind fun r1 =>
    (ldI σ r1 i1).bind fun x2 =>
    if x2 = 0 then (
      some ((), σ, 0, 0)
      ) else
    (gR σ 6 a0 5).bind fun r3 =>
    (ldI σ r3 i1).bind fun x4 =>
    lt (x4 - 1) fun x5 =>
    bd (f_X6_raise_L19 FU σ a0 i1 i2 x5) fun y11 σ12 =>
    bd (f_X6_raise_L57 FU σ12 a0 i1 i2 0) fun y16 σ17 =>
    (gR σ17 6 a0 5).bind fun r18 =>
    (ldI σ17 r18 i1).bind fun x19 =>
    (stI σ17 r18 i1 (x19 + i2)).bind fun σ20 =>
    some ((), σ20, 0, 0)
    )
noncomputable def b_X6_lower_L73 (rec : St → Nat → Int32 → Int32 → Int32 → Int32 → Int32 → Option (Int32)) (σ : St) (a0 : Nat) (i1 : Int32) (i4 : Int32) (i5 : Int32) (i6 : Int32) (i7 : Int32) : Option (Int32) :=
  if (i4 - 1) ≤ i7 then (
    some i6
    ) else
  jn (fun (z9 : Int32) => (
    lt (i7 + 1) fun x10 =>
    rec σ a0 i1 i4 i5 z9 x10
    )) fun k9 =>
  jn (fun (z11 : Unit) => (
    k9 1
    )) fun k11 =>
  if i6 = 0 then (
    (gR σ 6 a0 4).bind fun r12 =>
    (ldI σ r12 ((17000 * i1) + i7)).bind fun x13 =>
    if x13 ≤ 0 then (
      k9 0
      ) else
    k11 ()
    ) else
  k11 ()
noncomputable def f_X6_lower_L73 : Nat → St → Nat → Int32 → Int32 → Int32 → Int32 → Int32 → Option (Int32)
  | 0, _, _, _, _, _, _, _ => none
  | n + 1, σ, a0, i1, i4, i5, i6, i7 => b_X6_lower_L73 (f_X6_lower_L73 n) σ a0 i1 i4 i5 i6 i7
noncomputable def b_X6_lower_L170 (rec : St → Nat → Int32 → Int32 → Int32 → Rs (Unit)) (σ : St) (a0 : Nat) (i1 : Int32) (i4 : Int32) (i7 : Int32) : Rs (Unit) :=
  (gR σ 6 a0 5).bind fun r17 =>
  (ldI σ r17 i1).bind fun x18 =>
  if x18 ≤ i7 then (
    some ((), σ, 0, 0)
    ) else
  (gR σ 6 a0 4).bind fun r19 =>
  (gR σ 6 a0 4).bind fun r20 =>
  (ldI σ r20 ((17000 * i1) + i7)).bind fun x21 =>
  (stI σ r19 (((17000 * i1) + i7) - i4) x21).bind fun σ22 =>
  lt (i7 + 1) fun x23 =>
  rec σ22 a0 i1 i4 x23
noncomputable def f_X6_lower_L170 : Nat → St → Nat → Int32 → Int32 → Int32 → Rs (Unit)
  | 0, _, _, _, _, _ => none
  | n + 1, σ, a0, i1, i4, i7 => b_X6_lower_L170 (f_X6_lower_L170 n) σ a0 i1 i4 i7
noncomputable def f_X6_lower (σ : St) (a0 : Nat) (i1 : Int32) (j2 : Int64) : Rs Unit :=
  ob σ 6 a0 (
    (pF σ 6 a0 6 (.int 0)).bind fun σ1 =>
    if j2 ≤ 0 then (
      some ((), σ1, 0, 0)
      ) else
    (gR σ1 6 a0 5).bind fun r2 =>
    (ldI σ1 r2 i1).bind fun x3 =>
    if x3 = 0 then (
      some ((), σ1, 0, 0)
      ) else
    (gR σ1 6 a0 5).bind fun r4 =>
    (ldI σ1 r4 i1).bind fun x5 =>
    if j2 ≤ ((x5 : Int32).toInt64) then (
      lt ((j2 : Int64).toInt32) fun x6 =>
      (gR σ1 6 a0 4).bind fun r7 =>
      (ldI σ1 r7 (((17000 * i1) + x6) - 1)).bind fun x8 =>
      (f_X6_lower_L73 FU σ1 a0 i1 x6 x8 0 0).bind fun y14 =>
      jn (fun (z15 : Int32) => (
        (pF σ1 6 a0 6 (.int z15)).bind fun σ16 =>
        bd (f_X6_lower_L170 FU σ16 a0 i1 x6 x6) fun y24 σ25 =>
        (gR σ25 6 a0 5).bind fun r26 =>
        (ldI σ25 r26 i1).bind fun x27 =>
        (stI σ25 r26 i1 (x27 - x6)).bind fun σ28 =>
        some ((), σ28, 0, 0)
        )) fun k15 =>
      jn (fun (z29 : Unit) => (
        k15 3
        )) fun k29 =>
      if 5 < x8 then (
        k29 ()
        ) else
      jn (fun (z30 : Unit) => (
        if x8 = 5 then (
          k15 2
          ) else
        jn (fun (z31 : Unit) => (
          k15 1
          )) fun k31 =>
        if 0 < x8 then (
          k31 ()
          ) else
        if y14 = 0 then (
          k15 0
          ) else
        k31 ()
        )) fun k30 =>
      if x8 = 5 then (
        if y14 = 0 then (
          k30 ()
          ) else
        k29 ()
        ) else
      k30 ()
      ) else
    (pF σ1 6 a0 6 (.int 1)).bind fun σ32 =>
    (gR σ32 6 a0 5).bind fun r33 =>
    (stI σ32 r33 i1 0).bind fun σ34 =>
    some ((), σ34, 0, 0)
    )
noncomputable def b_X6_zeros_L2 (rec : St → Nat → Int32 → Int32 → Option (Int32)) (σ : St) (a0 : Nat) (i1 : Int32) (i2 : Int32) : Option (Int32) :=
  (gR σ 6 a0 5).bind fun r1 =>
  (ldI σ r1 i1).bind fun x2 =>
  if x2 ≤ i2 then (
    some i2
    ) else
  (gR σ 6 a0 4).bind fun r3 =>
  (ldI σ r3 ((17000 * i1) + i2)).bind fun x4 =>
  if x4 = 0 then (
    lt (i2 + 1) fun x5 =>
    rec σ a0 i1 x5
    ) else
  some i2
noncomputable def f_X6_zeros_L2 : Nat → St → Nat → Int32 → Int32 → Option (Int32)
  | 0, _, _, _, _ => none
  | n + 1, σ, a0, i1, i2 => b_X6_zeros_L2 (f_X6_zeros_L2 n) σ a0 i1 i2
noncomputable def f_X6_zeros (σ : St) (a0 : Nat) (i1 : Int32) : Option Int32 :=
  ob σ 6 a0 (
    (f_X6_zeros_L2 FU σ a0 i1 0).bind fun y6 =>
    some y6
    )
noncomputable def b_X6_compareRows_L45 (rec : St → Nat → Int32 → Int32 → Int32 → Option (Int32)) (σ : St) (a0 : Nat) (i1 : Int32) (i2 : Int32) (i3 : Int32) : Option (Int32) :=
  if i3 < 0 then (
    some i3
    ) else
  (gR σ 6 a0 4).bind fun r8 =>
  (ldI σ r8 ((17000 * i1) + i3)).bind fun x9 =>
  (gR σ 6 a0 4).bind fun r10 =>
  (ldI σ r10 ((17000 * i2) + i3)).bind fun x11 =>
  if x9 = x11 then (
    lt (i3 + (-1)) fun x12 =>
    rec σ a0 i1 i2 x12
    ) else
  some i3
noncomputable def f_X6_compareRows_L45 : Nat → St → Nat → Int32 → Int32 → Int32 → Option (Int32)
  | 0, _, _, _, _, _ => none
  | n + 1, σ, a0, i1, i2, i3 => b_X6_compareRows_L45 (f_X6_compareRows_L45 n) σ a0 i1 i2 i3
noncomputable def f_X6_compareRows (σ : St) (a0 : Nat) (i1 : Int32) (i2 : Int32) : Option Int32 :=
  ob σ 6 a0 (
    (gR σ 6 a0 5).bind fun r1 =>
    (ldI σ r1 i1).bind fun x2 =>
    (gR σ 6 a0 5).bind fun r3 =>
    (ldI σ r3 i2).bind fun x4 =>
    if x2 = x4 then (
      (gR σ 6 a0 5).bind fun r5 =>
      (ldI σ r5 i1).bind fun x6 =>
      lt (x6 - 1) fun x7 =>
      (f_X6_compareRows_L45 FU σ a0 i1 i2 x7).bind fun y13 =>
      if 0 ≤ y13 then (
        (gR σ 6 a0 4).bind fun r14 =>
        (ldI σ r14 ((17000 * i1) + y13)).bind fun x15 =>
        (gR σ 6 a0 4).bind fun r16 =>
        (ldI σ r16 ((17000 * i2) + y13)).bind fun x17 =>
        if x17 ≤ x15 then (
          some 1
          ) else
        some (-1)
        ) else
      some 0
      ) else
    (gR σ 6 a0 5).bind fun r18 =>
    (ldI σ r18 i1).bind fun x19 =>
    (gR σ 6 a0 5).bind fun r20 =>
    (ldI σ r20 i2).bind fun x21 =>
    if x21 ≤ x19 then (
      some 1
      ) else
    some (-1)
    )
noncomputable def b_X6_plus_L37 (rec : St → Nat → Int32 → Int32 → Int32 → Int32 → Int32 → Rs (Unit)) (σ : St) (a0 : Nat) (i1 : Int32) (i2 : Int32) (i3 : Int32) (i4 : Int32) (i5 : Int32) : Rs (Unit) :=
  if i3 < i5 then (
    some ((), σ, 0, 0)
    ) else
  (gR σ 6 a0 5).bind fun r6 =>
  (ldI σ r6 i1).bind fun x7 =>
  jn (fun (z8 : Int32) => (
    (gR σ 6 a0 5).bind fun r9 =>
    (ldI σ r9 i2).bind fun x10 =>
    jn (fun (z11 : Int32) => (
      lt ((z8 + z11) + i4) fun x12 =>
      (gR σ 6 a0 4).bind fun r13 =>
      (rmI x12 10).bind fun x14 =>
      (stI σ r13 ((17000 * i1) + i5) x14).bind fun σ15 =>
      (dvI x12 10).bind fun x16 =>
      lt (i5 + 1) fun x17 =>
      rec σ15 a0 i1 i2 i3 x16 x17
      )) fun k11 =>
    if x10 ≤ i5 then (
      k11 0
      ) else
    (gR σ 6 a0 4).bind fun r18 =>
    (ldI σ r18 ((17000 * i2) + i5)).bind fun x19 =>
    k11 x19
    )) fun k8 =>
  if x7 ≤ i5 then (
    k8 0
    ) else
  (gR σ 6 a0 4).bind fun r20 =>
  (ldI σ r20 ((17000 * i1) + i5)).bind fun x21 =>
  k8 x21
noncomputable def f_X6_plus_L37 : Nat → St → Nat → Int32 → Int32 → Int32 → Int32 → Int32 → Rs (Unit)
  | 0, _, _, _, _, _, _, _ => none
  | n + 1, σ, a0, i1, i2, i3, i4, i5 => b_X6_plus_L37 (f_X6_plus_L37 n) σ a0 i1 i2 i3 i4 i5
noncomputable def f_X6_plus (σ : St) (a0 : Nat) (i1 : Int32) (i2 : Int32) : Rs Unit :=
  ob σ 6 a0 (
    (gR σ 6 a0 5).bind fun r1 =>
    (ldI σ r1 i1).bind fun x2 =>
    (gR σ 6 a0 5).bind fun r3 =>
    (ldI σ r3 i2).bind fun x4 =>
    jn (fun (z5 : Int32) => (
      bd (f_X6_plus_L37 FU σ a0 i1 i2 z5 0 0) fun y22 σ23 =>
      bd (f_X6_trim σ23 a0 i1 (z5 + 1)) fun _ σ24 =>
      some ((), σ24, 0, 0)
      )) fun k5 =>
    if x2 ≤ x4 then (
      (gR σ 6 a0 5).bind fun r25 =>
      (ldI σ r25 i2).bind fun x26 =>
      k5 x26
      ) else
    (gR σ 6 a0 5).bind fun r27 =>
    (ldI σ r27 i1).bind fun x28 =>
    k5 x28
    )
noncomputable def b_X6_less_L5 (rec : St → Nat → Int32 → Int32 → Int32 → Int32 → Rs (Unit)) (σ : St) (a0 : Nat) (i1 : Int32) (i2 : Int32) (i3 : Int32) (i4 : Int32) : Rs (Unit) :=
  (gR σ 6 a0 5).bind fun r1 =>
  (ldI σ r1 i1).bind fun x2 =>
  if x2 ≤ i4 then (
    some ((), σ, 0, 0)
    ) else
  (gR σ 6 a0 4).bind fun r3 =>
  (ldI σ r3 ((17000 * i1) + i4)).bind fun x4 =>
  (gR σ 6 a0 5).bind fun r5 =>
  (ldI σ r5 i2).bind fun x6 =>
  jn (fun (z7 : Int32) => (
    lt ((x4 - z7) - i3) fun x8 =>
    jn (fun (z9 : Int32) => (
      (gR σ 6 a0 4).bind fun r10 =>
      jn (fun (z11 : Int32) => (
        (stI σ r10 ((17000 * i1) + i4) z11).bind fun σ12 =>
        lt (i4 + 1) fun x13 =>
        rec σ12 a0 i1 i2 z9 x13
        )) fun k11 =>
      if 0 ≤ x8 then (
        k11 x8
        ) else
      k11 (x8 + 10)
      )) fun k9 =>
    if 0 ≤ x8 then (
      k9 0
      ) else
    k9 1
    )) fun k7 =>
  if x6 ≤ i4 then (
    k7 0
    ) else
  (gR σ 6 a0 4).bind fun r14 =>
  (ldI σ r14 ((17000 * i2) + i4)).bind fun x15 =>
  k7 x15
noncomputable def f_X6_less_L5 : Nat → St → Nat → Int32 → Int32 → Int32 → Int32 → Rs (Unit)
  | 0, _, _, _, _, _, _ => none
  | n + 1, σ, a0, i1, i2, i3, i4 => b_X6_less_L5 (f_X6_less_L5 n) σ a0 i1 i2 i3 i4
noncomputable def f_X6_less (σ : St) (a0 : Nat) (i1 : Int32) (i2 : Int32) : Rs Unit :=
  ob σ 6 a0 (
    bd (f_X6_less_L5 FU σ a0 i1 i2 0 0) fun y16 σ17 =>
    (gR σ17 6 a0 5).bind fun r18 =>
    (ldI σ17 r18 i1).bind fun x19 =>
    bd (f_X6_trim σ17 a0 i1 x19) fun _ σ20 =>
    some ((), σ20, 0, 0)
    )
noncomputable def b_X6_one_L2 (rec : St → Nat → Int32 → Int32 → Rs (Int32)) (σ : St) (a0 : Nat) (i1 : Int32) (i2 : Int32) : Rs (Int32) :=
  (gR σ 6 a0 5).bind fun r1 =>
  (ldI σ r1 i1).bind fun x2 =>
  if x2 ≤ i2 then (
    some (i2, σ, 0, 0)
    ) else
  (gR σ 6 a0 4).bind fun r3 =>
  (ldI σ r3 ((17000 * i1) + i2)).bind fun x4 =>
  if x4 = 9 then (
    (gR σ 6 a0 4).bind fun r5 =>
    (stI σ r5 ((17000 * i1) + i2) 0).bind fun σ6 =>
    lt (i2 + 1) fun x7 =>
    rec σ6 a0 i1 x7
    ) else
  some (i2, σ, 0, 0)
noncomputable def f_X6_one_L2 : Nat → St → Nat → Int32 → Int32 → Rs (Int32)
  | 0, _, _, _, _ => none
  | n + 1, σ, a0, i1, i2 => b_X6_one_L2 (f_X6_one_L2 n) σ a0 i1 i2
noncomputable def f_X6_one (σ : St) (a0 : Nat) (i1 : Int32) : Rs Unit :=
  ob σ 6 a0 (
    bd (f_X6_one_L2 FU σ a0 i1 0) fun y8 σ9 =>
    (gR σ9 6 a0 4).bind fun r10 =>
    (gR σ9 6 a0 5).bind fun r11 =>
    (ldI σ9 r11 i1).bind fun x12 =>
    jn (fun (z13 : Int32) => (
      (stI σ9 r10 ((17000 * i1) + y8) z13).bind fun σ14 =>
      (gR σ14 6 a0 5).bind fun r15 =>
      (gR σ14 6 a0 5).bind fun r16 =>
      (ldI σ14 r16 i1).bind fun x17 =>
      jn (fun (z18 : Int32) => (
        (stI σ14 r15 i1 z18).bind fun σ19 =>
        some ((), σ19, 0, 0)
        )) fun k18 =>
      if x17 ≤ y8 then (
        (gR σ14 6 a0 5).bind fun r20 =>
        (ldI σ14 r20 i1).bind fun x21 =>
        k18 (x21 + 1)
        ) else
      (gR σ14 6 a0 5).bind fun r22 =>
      (ldI σ14 r22 i1).bind fun x23 =>
      k18 x23
      )) fun k13 =>
    if x12 ≤ y8 then (
      k13 1
      ) else
    (gR σ9 6 a0 4).bind fun r24 =>
    (ldI σ9 r24 ((17000 * i1) + y8)).bind fun x25 =>
    k13 (x25 + 1)
    )
noncomputable def b_X6_product_L16 (rec : St → Nat → Int32 → Int32 → Rs (Unit)) (σ : St) (a0 : Nat) (i1 : Int32) (i2 : Int32) : Rs (Unit) :=
  if i1 ≤ i2 then (
    some ((), σ, 0, 0)
    ) else
  (gR σ 6 a0 4).bind fun r6 =>
  (stI σ r6 (34000 + i2) 0).bind fun σ7 =>
  lt (i2 + 1) fun x8 =>
  rec σ7 a0 i1 x8
noncomputable def f_X6_product_L16 : Nat → St → Nat → Int32 → Int32 → Rs (Unit)
  | 0, _, _, _, _ => none
  | n + 1, σ, a0, i1, i2 => b_X6_product_L16 (f_X6_product_L16 n) σ a0 i1 i2
noncomputable def b_X6_product_L64 (rec : St → Nat → Int32 → Int32 → Int32 → Int32 → Int32 → Rs (Int32)) (σ : St) (a0 : Nat) (i1 : Int32) (i2 : Int32) (i3 : Int32) (i4 : Int32) (i5 : Int32) : Rs (Int32) :=
  (gR σ 6 a0 5).bind fun r15 =>
  (ldI σ r15 1).bind fun x16 =>
  if x16 ≤ i5 then (
    some (i4, σ, 0, 0)
    ) else
  if i3 ≤ 0 then (
    some (i4, σ, 0, 0)
    ) else
  (gR σ 6 a0 4).bind fun r17 =>
  (ldI σ r17 ((34000 + i2) + i5)).bind fun x18 =>
  (gR σ 6 a0 4).bind fun r19 =>
  (ldI σ r19 (17000 + i5)).bind fun x20 =>
  lt ((x18 + (i3 * x20)) + i4) fun x21 =>
  (gR σ 6 a0 4).bind fun r22 =>
  (rmI x21 10).bind fun x23 =>
  (stI σ r22 ((34000 + i2) + i5) x23).bind fun σ24 =>
  (dvI x21 10).bind fun x25 =>
  lt (i5 + 1) fun x26 =>
  rec σ24 a0 i1 i2 i3 x25 x26
noncomputable def f_X6_product_L64 : Nat → St → Nat → Int32 → Int32 → Int32 → Int32 → Int32 → Rs (Int32)
  | 0, _, _, _, _, _, _, _ => none
  | n + 1, σ, a0, i1, i2, i3, i4, i5 => b_X6_product_L64 (f_X6_product_L64 n) σ a0 i1 i2 i3 i4 i5
noncomputable def b_X6_product_L39 (rec : St → Nat → Int32 → Int32 → Rs (Unit)) (σ : St) (a0 : Nat) (i1 : Int32) (i2 : Int32) : Rs (Unit) :=
  (gR σ 6 a0 5).bind fun r11 =>
  (ldI σ r11 0).bind fun x12 =>
  if x12 ≤ i2 then (
    some ((), σ, 0, 0)
    ) else
  (gR σ 6 a0 4).bind fun r13 =>
  (ldI σ r13 (0 + i2)).bind fun x14 =>
  bd (f_X6_product_L64 FU σ a0 i1 i2 x14 0 0) fun y27 σ28 =>
  (gR σ28 6 a0 4).bind fun r29 =>
  (gR σ28 6 a0 5).bind fun r30 =>
  (ldI σ28 r30 1).bind fun x31 =>
  (ldI σ28 r29 ((34000 + i2) + x31)).bind fun x32 =>
  (stI σ28 r29 ((34000 + i2) + x31) (x32 + y27)).bind fun σ33 =>
  lt (i2 + 1) fun x34 =>
  rec σ33 a0 i1 x34
noncomputable def f_X6_product_L39 : Nat → St → Nat → Int32 → Int32 → Rs (Unit)
  | 0, _, _, _, _ => none
  | n + 1, σ, a0, i1, i2 => b_X6_product_L39 (f_X6_product_L39 n) σ a0 i1 i2
noncomputable def f_X6_product (σ : St) (a0 : Nat) : Rs Unit :=
  ob σ 6 a0 (
    (gR σ 6 a0 5).bind fun r1 =>
    (ldI σ r1 0).bind fun x2 =>
    (gR σ 6 a0 5).bind fun r3 =>
    (ldI σ r3 1).bind fun x4 =>
    lt (x2 + x4) fun x5 =>
    bd (f_X6_product_L16 FU σ a0 x5 0) fun y9 σ10 =>
    bd (f_X6_product_L39 FU σ10 a0 x5 0) fun y35 σ36 =>
    bd (f_X6_trim σ36 a0 2 x5) fun _ σ37 =>
    some ((), σ37, 0, 0)
    )
noncomputable def b_X6_step_L45 (rec : St → Nat → Int32 → Rs (Int32)) (σ : St) (a0 : Nat) (i2 : Int32) : Rs (Int32) :=
  (f_X6_compareRows σ a0 3 1).bind fun x8 =>
  if x8 < 0 then (
    some (i2, σ, 0, 0)
    ) else
  bd (f_X6_less σ a0 3 1) fun _ σ9 =>
  lt (i2 + 1) fun x10 =>
  rec σ9 a0 x10
noncomputable def f_X6_step_L45 : Nat → St → Nat → Int32 → Rs (Int32)
  | 0, _, _, _ => none
  | n + 1, σ, a0, i2 => b_X6_step_L45 (f_X6_step_L45 n) σ a0 i2
noncomputable def f_X6_step (σ : St) (a0 : Nat) (i1 : Int32) : Rs Int32 :=
  ob σ 6 a0 (
    bd (f_X6_raise σ a0 3 1) fun _ σ1 =>
    (gR σ1 6 a0 5).bind fun r2 =>
    (ldI σ1 r2 3).bind fun x3 =>
    jn (fun (z4 : St) => (
      (gR z4 6 a0 5).bind fun r5 =>
      (ldI z4 r5 3).bind fun x6 =>
      jn (fun (z7 : St) => (
        bd (f_X6_step_L45 FU z7 a0 0) fun y11 σ12 =>
        some (y11, σ12, 0, 0)
        )) fun k7 =>
      if x6 ≤ 0 then (
        k7 z4
        ) else
      (gR z4 6 a0 4).bind fun r13 =>
      (stI z4 r13 51000 i1).bind fun σ14 =>
      k7 σ14
      )) fun k4 =>
    if x3 = 0 then (
      if i1 ≤ 0 then (
        k4 σ1
        ) else
      (gR σ1 6 a0 5).bind fun r15 =>
      (stI σ1 r15 3 1).bind fun σ16 =>
      k4 σ16
      ) else
    k4 σ1
    )
noncomputable def b_X6_judge_L34 (rec : St → Nat → Int32 → Int32 → Int32 → Option (Int32)) (σ : St) (a0 : Nat) (i1 : Int32) (i2 : Int32) (i3 : Int32) : Option (Int32) :=
  (gR σ 6 a0 5).bind fun r7 =>
  (ldI σ r7 1).bind fun x8 =>
  jn (fun (z9 : Unit) => (
    (gR σ 6 a0 5).bind fun r10 =>
    (ldI σ r10 3).bind fun x11 =>
    jn (fun (z12 : Int32) => (
      lt (z12 + i2) fun x13 =>
      (dvI x13 10).bind fun x14 =>
      (rmI x13 10).bind fun x15 =>
      (gR σ 6 a0 5).bind fun r16 =>
      (ldI σ r16 1).bind fun x17 =>
      jn (fun (z18 : Int32) => (
        lt (x15 - z18) fun x19 =>
        jn (fun (z20 : Int32) => (
          lt (i3 + 1) fun x21 =>
          rec σ a0 z20 x14 x21
          )) fun k20 =>
        if x19 = 0 then (
          k20 i1
          ) else
        k20 x19
        )) fun k18 =>
      if x17 ≤ i3 then (
        k18 0
        ) else
      (gR σ 6 a0 4).bind fun r22 =>
      (ldI σ r22 (17000 + i3)).bind fun x23 =>
      k18 x23
      )) fun k12 =>
    if x11 ≤ i3 then (
      k12 0
      ) else
    (gR σ 6 a0 4).bind fun r24 =>
    (ldI σ r24 (51000 + i3)).bind fun x25 =>
    k12 (2 * x25)
    )) fun k9 =>
  if i3 < (x8 + 1) then (
    k9 ()
    ) else
  (gR σ 6 a0 5).bind fun r26 =>
  (ldI σ r26 3).bind fun x27 =>
  if (x27 + 1) ≤ i3 then (
    some i1
    ) else
  k9 ()
noncomputable def f_X6_judge_L34 : Nat → St → Nat → Int32 → Int32 → Int32 → Option (Int32)
  | 0, _, _, _, _, _ => none
  | n + 1, σ, a0, i1, i2, i3 => b_X6_judge_L34 (f_X6_judge_L34 n) σ a0 i1 i2 i3
noncomputable def f_X6_judge (σ : St) (a0 : Nat) : Rs Unit :=
  ob σ 6 a0 (
    (gR σ 6 a0 5).bind fun r1 =>
    (ldI σ r1 3).bind fun x2 =>
    jn (fun (z3 : Int32) => (
      (pF σ 6 a0 6 (.int z3)).bind fun σ4 =>
      (gR σ4 6 a0 5).bind fun r5 =>
      (ldI σ4 r5 3).bind fun x6 =>
      if x6 = 0 then (
        some ((), σ4, 0, 0)
        ) else
      (f_X6_judge_L34 FU σ4 a0 0 0 0).bind fun y28 =>
      jn (fun (z29 : Int32) => (
        (pF σ4 6 a0 6 (.int z29)).bind fun σ30 =>
        some ((), σ30, 0, 0)
        )) fun k29 =>
      if y28 ≤ 0 then (
        if y28 = 0 then (
          k29 2
          ) else
        k29 1
        ) else
      k29 3
      )) fun k3 =>
    if x2 ≤ 0 then (
      k3 0
      ) else
    k3 1
    )
noncomputable def b_X6_quotient_L16 (rec : St → Nat → Int32 → Rs (Unit)) (σ : St) (a0 : Nat) (i1 : Int32) : Rs (Unit) :=
  if i1 < 0 then (
    some ((), σ, 0, 0)
    ) else
  (gR σ 6 a0 4).bind fun r6 =>
  (gR σ 6 a0 4).bind fun r7 =>
  (ldI σ r7 (0 + i1)).bind fun x8 =>
  bd (f_X6_step σ a0 x8) fun x9 σ10 =>
  (stI σ10 r6 (34000 + i1) x9).bind fun σ11 =>
  lt (i1 + (-1)) fun x12 =>
  rec σ11 a0 x12
noncomputable def f_X6_quotient_L16 : Nat → St → Nat → Int32 → Rs (Unit)
  | 0, _, _, _ => none
  | n + 1, σ, a0, i1 => b_X6_quotient_L16 (f_X6_quotient_L16 n) σ a0 i1
noncomputable def f_X6_quotient (σ : St) (a0 : Nat) : Rs Unit :=
  ob σ 6 a0 (
    (gR σ 6 a0 5).bind fun r1 =>
    (stI σ r1 3 0).bind fun σ2 =>
    (gR σ2 6 a0 5).bind fun r3 =>
    (ldI σ2 r3 0).bind fun x4 =>
    lt (x4 - 1) fun x5 =>
    bd (f_X6_quotient_L16 FU σ2 a0 x5) fun y13 σ14 =>
    (gR σ14 6 a0 5).bind fun r15 =>
    (ldI σ14 r15 0).bind fun x16 =>
    bd (f_X6_trim σ14 a0 2 x16) fun _ σ17 =>
    bd (f_X6_judge σ17 a0) fun _ σ18 =>
    some ((), σ18, 0, 0)
    )
noncomputable def f_X6_goesUp (σ : St) (a0 : Nat) (i1 : Int32) (i2 : Int32) (i3 : Int32) : Option Int32 :=
  ob σ 6 a0 (
    (gR σ 6 a0 5).bind fun r1 =>
    (ldI σ r1 i1).bind fun x2 =>
    jn (fun (z3 : Int32) => (
      jn (fun (z4 : Int32) => (
        (gI σ 6 a0 6).bind fun x5 =>
        if x5 ≤ 0 then (
          (isB 0).bind fun _ => some 0
          ) else
        if z4 = 0 then (
          (isB 0).bind fun _ => some 0
          ) else
        (isB 1).bind fun _ => some 1
        )) fun k4 =>
      jn (fun (z6 : Unit) => (
        k4 1
        )) fun k6 =>
      if i3 = 0 then (
        k6 ()
        ) else
      jn (fun (z7 : Unit) => (
        jn (fun (z8 : Unit) => (
          jn (fun (z9 : Unit) => (
            jn (fun (z10 : Unit) => (
              jn (fun (z11 : Unit) => (
                k4 0
                )) fun k11 =>
              if i3 = 6 then (
                (gI σ 6 a0 6).bind fun x12 =>
                if x12 = 2 then (
                  if z3 = 0 then (
                    k11 ()
                    ) else
                  k6 ()
                  ) else
                k11 ()
                ) else
              k11 ()
              )) fun k10 =>
            if i3 ≤ 4 then (
              k10 ()
              ) else
            (gI σ 6 a0 6).bind fun x13 =>
            if 2 < x13 then (
              k6 ()
              ) else
            k10 ()
            )) fun k9 =>
          if i3 = 4 then (
            (gI σ 6 a0 6).bind fun x14 =>
            if 1 < x14 then (
              k6 ()
              ) else
            k9 ()
            ) else
          k9 ()
          )) fun k8 =>
        if i3 = 3 then (
          if i2 < 0 then (
            k6 ()
            ) else
          k8 ()
          ) else
        k8 ()
        )) fun k7 =>
      if i3 = 2 then (
        if 0 < i2 then (
          k6 ()
          ) else
        k7 ()
        ) else
      k7 ()
      )) fun k3 =>
    jn (fun (z15 : Unit) => (
      k3 0
      )) fun k15 =>
    if x2 ≤ 0 then (
      k15 ()
      ) else
    (gR σ 6 a0 4).bind fun r16 =>
    (ldI σ r16 (17000 * i1)).bind fun x17 =>
    (rmI x17 2).bind fun x18 =>
    if x18 = 1 then (
      k3 1
      ) else
    k15 ()
    )
noncomputable def f_X6_finish (σ : St) (a0 : Nat) (i1 : Int32) (i2 : Int32) (i3 : Int32) (j4 : Int64) (i6 : Int32) : Rs Int32 :=
  ob σ 6 a0 (
    (gI σ 6 a0 6).bind fun x1 =>
    jn (fun (z2 : Unit) => (
      (f_X6_goesUp σ a0 i2 i3 i6).bind fun x3 =>
      jn (fun (z4 : St) => (
        bd (f_X6_store z4 a0 i1 i2 i3 j4) fun x5 σ6 =>
        (isB x5).bind fun _ => some (x5, σ6, 0, 0)
        )) fun k4 =>
      if x3 = 0 then (
        k4 σ
        ) else
      bd (f_X6_one σ a0 i2) fun _ σ7 =>
      k4 σ7
      )) fun k2 =>
    if x1 ≤ 0 then (
      k2 ()
      ) else
    if i6 = 7 then (
      (isB 0).bind fun _ => some (0, σ, 0, 0)
      ) else
    k2 ()
    )
noncomputable def f_X6_finishTo (σ : St) (a0 : Nat) (i1 : Int32) (i2 : Int32) (i3 : Int32) (j4 : Int64) (i6 : Int32) (i7 : Int32) : Rs Int32 :=
  ob σ 6 a0 (
    (gI σ 6 a0 6).bind fun x1 =>
    jn (fun (z2 : Unit) => (
      (f_X6_goesUp σ a0 i2 i3 i6).bind fun x3 =>
      jn (fun (z4 : St) => (
        (gR z4 6 a0 5).bind fun r5 =>
        (ldI z4 r5 i2).bind fun x6 =>
        jn (fun (z7 : Int64 × St) => (
          bd (f_X6_store z7.2 a0 i1 i2 i3 z7.1) fun x8 σ9 =>
          (isB x8).bind fun _ => some (x8, σ9, 0, 0)
          )) fun k7 =>
        if x6 ≤ i7 then (
          k7 (j4, z4)
          ) else
        bd (f_X6_lower z4 a0 i2 1) fun _ σ10 =>
        lt (j4 - 1) fun l11 =>
        k7 (l11, σ10)
        )) fun k4 =>
      if x3 = 0 then (
        k4 σ
        ) else
      bd (f_X6_one σ a0 i2) fun _ σ12 =>
      k4 σ12
      )) fun k2 =>
    if x1 ≤ 0 then (
      k2 ()
      ) else
    if i6 = 7 then (
      (isB 0).bind fun _ => some (0, σ, 0, 0)
      ) else
    k2 ()
    )
noncomputable def b_X6_put_L15 (rec : St → Nat → Int32 → Int64 → Int32 → Int64 → Int32 → Rs (Int32)) (σ : St) (a0 : Nat) (i1 : Int32) (j2 : Int64) (i4 : Int32) (j5 : Int64) (i7 : Int32) : Rs (Int32) :=
  if j5 = 0 then (
    some (i7, σ, 0, 0)
    ) else
  (rmL j5 10).bind fun l2 =>
  lt ((l2 : Int64).toInt32) fun x3 =>
  (gR σ 6 a0 4).bind fun r4 =>
  jn (fun (z5 : Int32) => (
    (stI σ r4 i7 z5).bind fun σ6 =>
    (dvL j5 10).bind fun l7 =>
    lt (i7 + 1) fun x8 =>
    rec σ6 a0 i1 j2 i4 l7 x8
    )) fun k5 =>
  if 0 ≤ x3 then (
    k5 x3
    ) else
  k5 (-x3)
noncomputable def f_X6_put_L15 : Nat → St → Nat → Int32 → Int64 → Int32 → Int64 → Int32 → Rs (Int32)
  | 0, _, _, _, _, _, _, _ => none
  | n + 1, σ, a0, i1, j2, i4, j5, i7 => b_X6_put_L15 (f_X6_put_L15 n) σ a0 i1 j2 i4 j5 i7
noncomputable def f_X6_put (σ : St) (a0 : Nat) (i1 : Int32) (j2 : Int64) (i4 : Int32) : Rs Int32 :=
  ob σ 6 a0 (
    (f_X6_is σ i1).bind fun x1 =>
    if x1 = 0 then (
      (isB 0).bind fun _ => some (0, σ, 0, 0)
      ) else
    bd (f_X6_put_L15 FU σ a0 i1 j2 i4 j2 0) fun y9 σ10 =>
    (gR σ10 6 a0 5).bind fun r11 =>
    (stI σ10 r11 0 y9).bind fun σ12 =>
    jn (fun (z13 : Int32) => (
      bd (f_X6_store σ12 a0 i1 0 z13 ((i4 : Int32).toInt64)) fun x14 σ15 =>
      (isB x14).bind fun _ => some (x14, σ15, 0, 0)
      )) fun k13 =>
    if 0 ≤ j2 then (
      k13 1
      ) else
    k13 (-1)
    )
noncomputable def f_X6_copy (σ : St) (a0 : Nat) (i1 : Int32) (i2 : Int32) (i3 : Int32) : Rs Int32 :=
  ob σ 6 a0 (
    (f_X6_is σ i1).bind fun x1 =>
    if x1 = 0 then (
      (isB 0).bind fun _ => some (0, σ, 0, 0)
      ) else
    (f_X6_is σ i2).bind fun x2 =>
    if x2 = 0 then (
      (isB 0).bind fun _ => some (0, σ, 0, 0)
      ) else
    bd (f_X6_load σ a0 0 i2) fun _ σ3 =>
    jn (fun (z4 : Int32) => (
      (gR σ3 6 a0 3).bind fun r5 =>
      (ldI σ3 r5 i2).bind fun x6 =>
      bd (f_X6_store σ3 a0 i1 0 z4 ((x6 : Int32).toInt64)) fun x7 σ8 =>
      (isB x7).bind fun _ => some (x7, σ8, 0, 0)
      )) fun k4 =>
    if i3 = 0 then (
      (gR σ3 6 a0 2).bind fun r9 =>
      (ldI σ3 r9 i2).bind fun x10 =>
      k4 x10
      ) else
    (gR σ3 6 a0 2).bind fun r11 =>
    (ldI σ3 r11 i2).bind fun x12 =>
    k4 (-x12)
    )
noncomputable def f_X6_sum (σ : St) (a0 : Nat) (i1 : Int32) (i2 : Int32) (i3 : Int32) (i4 : Int32) : Rs Int32 :=
  ob σ 6 a0 (
    (f_X6_is σ i1).bind fun x1 =>
    if x1 = 0 then (
      (isB 0).bind fun _ => some (0, σ, 0, 0)
      ) else
    (f_X6_is σ i2).bind fun x2 =>
    if x2 = 0 then (
      (isB 0).bind fun _ => some (0, σ, 0, 0)
      ) else
    (f_X6_is σ i3).bind fun x3 =>
    if x3 = 0 then (
      (isB 0).bind fun _ => some (0, σ, 0, 0)
      ) else
    (gR σ 6 a0 3).bind fun r4 =>
    (ldI σ r4 i2).bind fun x5 =>
    (gR σ 6 a0 3).bind fun r6 =>
    (ldI σ r6 i3).bind fun x7 =>
    jn (fun (z8 : Int32) => (
      (gR σ 6 a0 3).bind fun r9 =>
      (ldI σ r9 i2).bind fun x10 =>
      lt (((z8 : Int32).toInt64) - ((x10 : Int32).toInt64)) fun l11 =>
      (gR σ 6 a0 3).bind fun r12 =>
      (ldI σ r12 i3).bind fun x13 =>
      lt (((z8 : Int32).toInt64) - ((x13 : Int32).toInt64)) fun l14 =>
      (gR σ 6 a0 1).bind fun r15 =>
      (ldI σ r15 i2).bind fun x16 =>
      jn (fun (z17 : Unit) => (
        (gR σ 6 a0 1).bind fun r18 =>
        (ldI σ r18 i3).bind fun x19 =>
        jn (fun (z20 : Unit) => (
          bd (f_X6_load σ a0 0 i2) fun _ σ21 =>
          bd (f_X6_load σ21 a0 1 i3) fun _ σ22 =>
          (gR σ22 6 a0 5).bind fun r23 =>
          (ldI σ22 r23 0).bind fun x24 =>
          jn (fun (z25 : St) => (
            (gR z25 6 a0 5).bind fun r26 =>
            (ldI z25 r26 1).bind fun x27 =>
            jn (fun (z28 : St) => (
              (gR z28 6 a0 2).bind fun r29 =>
              (ldI z28 r29 i2).bind fun x30 =>
              (gR z28 6 a0 2).bind fun r31 =>
              (ldI z28 r31 i3).bind fun x32 =>
              lt (i4 * x32) fun x33 =>
              if (x30 * x33) < 0 then (
                (f_X6_compareRows z28 a0 0 1).bind fun x34 =>
                if x34 < 0 then (
                  bd (f_X6_less z28 a0 1 0) fun _ σ35 =>
                  bd (f_X6_store σ35 a0 i1 1 x33 ((z8 : Int32).toInt64)) fun x36 σ37 =>
                  (isB x36).bind fun _ => some (x36, σ37, 0, 0)
                  ) else
                bd (f_X6_less z28 a0 0 1) fun _ σ38 =>
                bd (f_X6_store σ38 a0 i1 0 x30 ((z8 : Int32).toInt64)) fun x39 σ40 =>
                (isB x39).bind fun _ => some (x39, σ40, 0, 0)
                ) else
              bd (f_X6_plus z28 a0 0 1) fun _ σ41 =>
              jn (fun (z42 : Int32) => (
                bd (f_X6_store σ41 a0 i1 0 z42 ((z8 : Int32).toInt64)) fun x43 σ44 =>
                (isB x43).bind fun _ => some (x43, σ44, 0, 0)
                )) fun k42 =>
              if x30 = 0 then (
                k42 x33
                ) else
              k42 x30
              )) fun k28 =>
            if x27 ≤ 0 then (
              k28 z25
              ) else
            bd (f_X6_raise z25 a0 1 ((l14 : Int64).toInt32)) fun _ σ45 =>
            k28 σ45
            )) fun k25 =>
          if x24 ≤ 0 then (
            k25 σ22
            ) else
          bd (f_X6_raise σ22 a0 0 ((l11 : Int64).toInt32)) fun _ σ46 =>
          k25 σ46
          )) fun k20 =>
        if x19 ≤ 0 then (
          k20 ()
          ) else
        (gR σ 6 a0 1).bind fun r47 =>
        (ldI σ r47 i3).bind fun x48 =>
        if (((x48 : Int32).toInt64) + l14) ≤ 4100 then (
          k20 ()
          ) else
        (isB 0).bind fun _ => some (0, σ, 0, 0)
        )) fun k17 =>
      if x16 ≤ 0 then (
        k17 ()
        ) else
      (gR σ 6 a0 1).bind fun r49 =>
      (ldI σ r49 i2).bind fun x50 =>
      if 4100 < (((x50 : Int32).toInt64) + l11) then (
        (isB 0).bind fun _ => some (0, σ, 0, 0)
        ) else
      k17 ()
      )) fun k8 =>
    if x5 ≤ x7 then (
      (gR σ 6 a0 3).bind fun r51 =>
      (ldI σ r51 i3).bind fun x52 =>
      k8 x52
      ) else
    (gR σ 6 a0 3).bind fun r53 =>
    (ldI σ r53 i2).bind fun x54 =>
    k8 x54
    )
noncomputable def f_X6_add (σ : St) (a0 : Nat) (i1 : Int32) (i2 : Int32) (i3 : Int32) : Rs Int32 :=
  ob σ 6 a0 (
    bd (f_X6_sum σ a0 i1 i2 i3 1) fun x1 σ2 =>
    (isB x1).bind fun _ => some (x1, σ2, 0, 0)
    )
noncomputable def f_X6_take (σ : St) (a0 : Nat) (i1 : Int32) (i2 : Int32) (i3 : Int32) : Rs Int32 :=
  ob σ 6 a0 (
    bd (f_X6_sum σ a0 i1 i2 i3 (-1)) fun x1 σ2 =>
    (isB x1).bind fun _ => some (x1, σ2, 0, 0)
    )
noncomputable def f_X6_times (σ : St) (a0 : Nat) (i1 : Int32) (i2 : Int32) (i3 : Int32) : Rs Int32 :=
  ob σ 6 a0 (
    (f_X6_is σ i1).bind fun x1 =>
    if x1 = 0 then (
      (isB 0).bind fun _ => some (0, σ, 0, 0)
      ) else
    (f_X6_is σ i2).bind fun x2 =>
    if x2 = 0 then (
      (isB 0).bind fun _ => some (0, σ, 0, 0)
      ) else
    (f_X6_is σ i3).bind fun x3 =>
    if x3 = 0 then (
      (isB 0).bind fun _ => some (0, σ, 0, 0)
      ) else
    bd (f_X6_load σ a0 0 i2) fun _ σ4 =>
    bd (f_X6_load σ4 a0 1 i3) fun _ σ5 =>
    bd (f_X6_product σ5 a0) fun _ σ6 =>
    (gR σ6 6 a0 2).bind fun r7 =>
    (ldI σ6 r7 i2).bind fun x8 =>
    (gR σ6 6 a0 2).bind fun r9 =>
    (ldI σ6 r9 i3).bind fun x10 =>
    (gR σ6 6 a0 3).bind fun r11 =>
    (ldI σ6 r11 i2).bind fun x12 =>
    (gR σ6 6 a0 3).bind fun r13 =>
    (ldI σ6 r13 i3).bind fun x14 =>
    bd (f_X6_store σ6 a0 i1 2 (x8 * x10) (((x12 : Int32).toInt64) + ((x14 : Int32).toInt64))) fun x15 σ16 =>
    (isB x15).bind fun _ => some (x15, σ16, 0, 0)
    )
noncomputable def b_X6_power_L145 (rec : St → Nat → Int32 → Int32 → Int32 → Int64 → Int32 → Int32 → Int32 → Rs (Unit)) (σ : St) (a0 : Nat) (i1 : Int32) (i2 : Int32) (i3 : Int32) (j4 : Int64) (i6 : Int32) (i7 : Int32) (i8 : Int32) : Rs (Unit) :=
  (gR σ 6 a0 5).bind fun r20 =>
  (ldI σ r20 2).bind fun x21 =>
  if x21 ≤ i8 then (
    some ((), σ, 0, 0)
    ) else
  (gR σ 6 a0 4).bind fun r22 =>
  (gR σ 6 a0 4).bind fun r23 =>
  (ldI σ r23 (34000 + i8)).bind fun x24 =>
  (stI σ r22 i8 x24).bind fun σ25 =>
  lt (i8 + 1) fun x26 =>
  rec σ25 a0 i1 i2 i3 j4 i6 i7 x26
noncomputable def f_X6_power_L145 : Nat → St → Nat → Int32 → Int32 → Int32 → Int64 → Int32 → Int32 → Int32 → Rs (Unit)
  | 0, _, _, _, _, _, _, _, _, _ => none
  | n + 1, σ, a0, i1, i2, i3, j4, i6, i7, i8 => b_X6_power_L145 (f_X6_power_L145 n) σ a0 i1 i2 i3 j4 i6 i7 i8
noncomputable def b_X6_power_L113 (rec : St → Nat → Int32 → Int32 → Int32 → Int64 → Int32 → Int32 → Rs ((Unit) ⊕ (Unit))) (σ : St) (a0 : Nat) (i1 : Int32) (i2 : Int32) (i3 : Int32) (j4 : Int64) (i6 : Int32) (i7 : Int32) : Rs ((Unit) ⊕ (Unit)) :=
  if i3 ≤ i7 then (
    some (.inr (), σ, 0, 0)
    ) else
  if i6 = 0 then (
    bd (f_X6_product σ a0) fun _ σ17 =>
    (gR σ17 6 a0 5).bind fun r18 =>
    (ldI σ17 r18 2).bind fun x19 =>
    if x19 ≤ 4096 then (
      bd (f_X6_power_L145 FU σ17 a0 i1 i2 i3 j4 i6 i7 0) fun y27 σ28 =>
      (gR σ28 6 a0 5).bind fun r29 =>
      (gR σ28 6 a0 5).bind fun r30 =>
      (ldI σ28 r30 2).bind fun x31 =>
      (stI σ28 r29 0 x31).bind fun σ32 =>
      lt (i7 + 1) fun x33 =>
      rec σ32 a0 i1 i2 i3 j4 i6 x33
      ) else
    some (.inl (), σ17, 0, 0)
    ) else
  some (.inr (), σ, 0, 0)
noncomputable def f_X6_power_L113 : Nat → St → Nat → Int32 → Int32 → Int32 → Int64 → Int32 → Int32 → Rs ((Unit) ⊕ (Unit))
  | 0, _, _, _, _, _, _, _, _ => none
  | n + 1, σ, a0, i1, i2, i3, j4, i6, i7 => b_X6_power_L113 (f_X6_power_L113 n) σ a0 i1 i2 i3 j4 i6 i7
noncomputable def f_X6_power (σ : St) (a0 : Nat) (i1 : Int32) (i2 : Int32) (i3 : Int32) : Rs Int32 :=
  ob σ 6 a0 (
    (f_X6_is σ i1).bind fun x1 =>
    if x1 = 0 then (
      (isB 0).bind fun _ => some (0, σ, 0, 0)
      ) else
    (f_X6_is σ i2).bind fun x2 =>
    if x2 = 0 then (
      (isB 0).bind fun _ => some (0, σ, 0, 0)
      ) else
    if 0 ≤ i3 then (
      (gR σ 6 a0 3).bind fun r3 =>
      (ldI σ r3 i2).bind fun x4 =>
      lt (((x4 : Int32).toInt64) * ((i3 : Int32).toInt64)) fun l5 =>
      bd (f_X6_load σ a0 1 i2) fun _ σ6 =>
      (gR σ6 6 a0 5).bind fun r7 =>
      (stI σ6 r7 0 1).bind fun σ8 =>
      (gR σ8 6 a0 4).bind fun r9 =>
      (stI σ8 r9 0 1).bind fun σ10 =>
      (gR σ10 6 a0 5).bind fun r11 =>
      (ldI σ10 r11 1).bind fun x12 =>
      jn (fun (z13 : Int32) => (
        (gR σ10 6 a0 5).bind fun r14 =>
        (ldI σ10 r14 1).bind fun x15 =>
        jn (fun (z16 : St) => (
          bd (f_X6_power_L113 FU z16 a0 i1 i2 i3 l5 z13 0) fun y34 σ35 =>
          match y34 with
          | .inl z36 => (
            (isB 0).bind fun _ => some (0, σ35, 0, 0)
            )
          | .inr z37 => (
            (rmI i3 2).bind fun x38 =>
            jn (fun (z39 : Int32) => (
              bd (f_X6_store σ35 a0 i1 0 z39 l5) fun x40 σ41 =>
              (isB x40).bind fun _ => some (x40, σ41, 0, 0)
              )) fun k39 =>
            if x38 = 0 then (
              k39 1
              ) else
            (gR σ35 6 a0 2).bind fun r42 =>
            (ldI σ35 r42 i2).bind fun x43 =>
            k39 x43
            )
          )) fun k16 =>
        if x15 = 0 then (
          if i3 ≤ 0 then (
            k16 σ10
            ) else
          (gR σ10 6 a0 5).bind fun r44 =>
          (stI σ10 r44 0 0).bind fun σ45 =>
          k16 σ45
          ) else
        k16 σ10
        )) fun k13 =>
      jn (fun (z46 : Unit) => (
        k13 1
        )) fun k46 =>
      if x12 = 0 then (
        k46 ()
        ) else
      (gR σ10 6 a0 5).bind fun r47 =>
      (ldI σ10 r47 1).bind fun x48 =>
      jn (fun (z49 : Unit) => (
        k13 0
        )) fun k49 =>
      if x48 = 1 then (
        (gR σ10 6 a0 4).bind fun r50 =>
        (ldI σ10 r50 17000).bind fun x51 =>
        if x51 = 1 then (
          k46 ()
          ) else
        k49 ()
        ) else
      k49 ()
      ) else
    (isB 0).bind fun _ => some (0, σ, 0, 0)
    )
noncomputable def f_X6_divide (σ : St) (a0 : Nat) (i1 : Int32) (i2 : Int32) (i3 : Int32) (i4 : Int32) (i5 : Int32) : Rs Int32 :=
  ob σ 6 a0 (
    (f_X6_is σ i1).bind fun x1 =>
    if x1 = 0 then (
      (isB 0).bind fun _ => some (0, σ, 0, 0)
      ) else
    (f_X6_is σ i2).bind fun x2 =>
    if x2 = 0 then (
      (isB 0).bind fun _ => some (0, σ, 0, 0)
      ) else
    (f_X6_is σ i3).bind fun x3 =>
    if x3 = 0 then (
      (isB 0).bind fun _ => some (0, σ, 0, 0)
      ) else
    (f_X6_isRounding σ i5).bind fun x4 =>
    if x4 = 0 then (
      (isB 0).bind fun _ => some (0, σ, 0, 0)
      ) else
    (gR σ 6 a0 1).bind fun r5 =>
    (ldI σ r5 i3).bind fun x6 =>
    if x6 = 0 then (
      (isB 0).bind fun _ => some (0, σ, 0, 0)
      ) else
    (gR σ 6 a0 2).bind fun r7 =>
    (ldI σ r7 i2).bind fun x8 =>
    (gR σ 6 a0 2).bind fun r9 =>
    (ldI σ r9 i3).bind fun x10 =>
    lt (x8 * x10) fun x11 =>
    (gR σ 6 a0 3).bind fun r12 =>
    (ldI σ r12 i2).bind fun x13 =>
    (gR σ 6 a0 3).bind fun r14 =>
    (ldI σ r14 i3).bind fun x15 =>
    lt ((((i4 : Int32).toInt64) - ((x13 : Int32).toInt64)) + ((x15 : Int32).toInt64)) fun l16 =>
    bd (f_X6_load σ a0 0 i2) fun _ σ17 =>
    bd (f_X6_load σ17 a0 1 i3) fun _ σ18 =>
    (gR σ18 6 a0 1).bind fun r19 =>
    (ldI σ18 r19 i2).bind fun x20 =>
    (gR σ18 6 a0 1).bind fun r21 =>
    (ldI σ18 r21 i3).bind fun x22 =>
    lt ((((x20 : Int32).toInt64) + l16) - ((x22 : Int32).toInt64)) fun l23 =>
    (pF σ18 6 a0 6 (.int 0)).bind fun σ24 =>
    (gR σ24 6 a0 5).bind fun r25 =>
    (ldI σ24 r25 0).bind fun x26 =>
    if x26 = 0 then (
      bd (f_X6_store σ24 a0 i1 0 0 ((i4 : Int32).toInt64)) fun x37 σ38 =>
      (isB x37).bind fun _ => some (x37, σ38, 0, 0)
      ) else
    if l23 ≤ 4096 then (
      jn (fun (z27 : St) => (
        bd (f_X6_finish z27 a0 i1 2 x11 ((i4 : Int32).toInt64) i5) fun x28 σ29 =>
        (isB x28).bind fun _ => some (x28, σ29, 0, 0)
        )) fun k27 =>
      if (-1) ≤ l23 then (
        jn (fun (z30 : St) => (
          bd (f_X6_quotient z30 a0) fun _ σ31 =>
          k27 σ31
          )) fun k30 =>
        if l16 < 0 then (
          bd (f_X6_raise σ24 a0 1 (((-l16) : Int64).toInt32)) fun _ σ32 =>
          k30 σ32
          ) else
        bd (f_X6_raise σ24 a0 0 ((l16 : Int64).toInt32)) fun _ σ33 =>
        k30 σ33
        ) else
      (gR σ24 6 a0 5).bind fun r34 =>
      (stI σ24 r34 2 0).bind fun σ35 =>
      (pF σ35 6 a0 6 (.int 1)).bind fun σ36 =>
      k27 σ36
      ) else
    (isB 0).bind fun _ => some (0, σ24, 0, 0)
    )
noncomputable def b_X6_exact_L7 (rec : St → Nat → Int32 → Int32 → Int64 → Int32 → Rs (Int32)) (σ : St) (a0 : Nat) (i1 : Int32) (i2 : Int32) (j3 : Int64) (i5 : Int32) : Rs (Int32) :=
  (gR σ 6 a0 5).bind fun r2 =>
  (ldI σ r2 3).bind fun x3 =>
  if x3 ≤ 0 then (
    some (i5, σ, 0, 0)
    ) else
  if 8200 ≤ i5 then (
    some (i5, σ, 0, 0)
    ) else
  (gR σ 6 a0 5).bind fun r4 =>
  (ldI σ r4 2).bind fun x5 =>
  if 4096 < x5 then (
    some (i5, σ, 0, 0)
    ) else
  bd (f_X6_step σ a0 0) fun x6 σ7 =>
  bd (f_X6_raise σ7 a0 2 1) fun _ σ8 =>
  (gR σ8 6 a0 5).bind fun r9 =>
  (ldI σ8 r9 2).bind fun x10 =>
  jn (fun (z11 : St) => (
    (gR z11 6 a0 5).bind fun r12 =>
    (ldI z11 r12 2).bind fun x13 =>
    jn (fun (z14 : St) => (
      lt (i5 + 1) fun x15 =>
      rec z14 a0 i1 i2 j3 x15
      )) fun k14 =>
    if x13 ≤ 0 then (
      k14 z11
      ) else
    (gR z11 6 a0 4).bind fun r16 =>
    (stI z11 r16 34000 x6).bind fun σ17 =>
    k14 σ17
    )) fun k11 =>
  if x10 = 0 then (
    if x6 ≤ 0 then (
      k11 σ8
      ) else
    (gR σ8 6 a0 5).bind fun r18 =>
    (stI σ8 r18 2 1).bind fun σ19 =>
    k11 σ19
    ) else
  k11 σ8
noncomputable def f_X6_exact_L7 : Nat → St → Nat → Int32 → Int32 → Int64 → Int32 → Rs (Int32)
  | 0, _, _, _, _, _, _ => none
  | n + 1, σ, a0, i1, i2, j3, i5 => b_X6_exact_L7 (f_X6_exact_L7 n) σ a0 i1 i2 j3 i5
noncomputable def f_X6_exact (σ : St) (a0 : Nat) (i1 : Int32) (i2 : Int32) (j3 : Int64) : Rs Int32 :=
  ob σ 6 a0 (
    bd (f_X6_quotient σ a0) fun _ σ1 =>
    bd (f_X6_exact_L7 FU σ1 a0 i1 i2 j3 0) fun y20 σ21 =>
    (gR σ21 6 a0 5).bind fun r22 =>
    (ldI σ21 r22 3).bind fun x23 =>
    if x23 = 0 then (
      bd (f_X6_store σ21 a0 i1 2 i2 (j3 + ((y20 : Int32).toInt64))) fun x24 σ25 =>
      if x24 = 0 then (
        (isB 0).bind fun _ => some (0, σ25, 0, 0)
        ) else
      (isB 1).bind fun _ => some (1, σ25, 0, 0)
      ) else
    (isB 0).bind fun _ => some (0, σ21, 0, 0)
    )
noncomputable def f_X6_settle (σ : St) (a0 : Nat) (i1 : Int32) (i2 : Int32) (j3 : Int64) (j5 : Int64) (i7 : Int32) : Rs Int32 :=
  ob σ 6 a0 (
    (f_X6_zeros σ a0 2).bind fun x1 =>
    bd (f_X6_lower σ a0 2 ((x1 : Int32).toInt64)) fun _ σ2 =>
    lt (j3 - ((x1 : Int32).toInt64)) fun l3 =>
    jn (fun (z4 : Int64) => (
      (gR σ2 6 a0 5).bind fun r5 =>
      (ldI σ2 r5 2).bind fun x6 =>
      jn (fun (z7 : Int64) => (
        bd (f_X6_raise σ2 a0 2 ((z7 - l3 : Int64).toInt32)) fun _ σ8 =>
        bd (f_X6_store σ8 a0 i1 2 i2 z7) fun x9 σ10 =>
        (isB x9).bind fun _ => some (x9, σ10, 0, 0)
        )) fun k7 =>
      if z4 ≤ ((l3 + ((i7 : Int32).toInt64)) - ((x6 : Int32).toInt64)) then (
        k7 z4
        ) else
      (gR σ2 6 a0 5).bind fun r11 =>
      (ldI σ2 r11 2).bind fun x12 =>
      k7 ((l3 + ((i7 : Int32).toInt64)) - ((x12 : Int32).toInt64))
      )) fun k4 =>
    if j5 ≤ l3 then (
      k4 l3
      ) else
    k4 j5
    )
noncomputable def f_X6_ratio (σ : St) (a0 : Nat) (i1 : Int32) (i2 : Int32) (i3 : Int32) (i4 : Int32) (i5 : Int32) : Rs Int32 :=
  ob σ 6 a0 (
    (f_X6_is σ i1).bind fun x1 =>
    if x1 = 0 then (
      (isB 0).bind fun _ => some (0, σ, 0, 0)
      ) else
    (f_X6_is σ i2).bind fun x2 =>
    if x2 = 0 then (
      (isB 0).bind fun _ => some (0, σ, 0, 0)
      ) else
    (f_X6_is σ i3).bind fun x3 =>
    if x3 = 0 then (
      (isB 0).bind fun _ => some (0, σ, 0, 0)
      ) else
    (f_X6_isPrecision σ i4).bind fun x4 =>
    if x4 = 0 then (
      (isB 0).bind fun _ => some (0, σ, 0, 0)
      ) else
    (f_X6_isRounding σ i5).bind fun x5 =>
    if x5 = 0 then (
      (isB 0).bind fun _ => some (0, σ, 0, 0)
      ) else
    (gR σ 6 a0 1).bind fun r6 =>
    (ldI σ r6 i3).bind fun x7 =>
    if x7 = 0 then (
      (isB 0).bind fun _ => some (0, σ, 0, 0)
      ) else
    (gR σ 6 a0 2).bind fun r8 =>
    (ldI σ r8 i2).bind fun x9 =>
    (gR σ 6 a0 2).bind fun r10 =>
    (ldI σ r10 i3).bind fun x11 =>
    lt (x9 * x11) fun x12 =>
    (gR σ 6 a0 3).bind fun r13 =>
    (ldI σ r13 i2).bind fun x14 =>
    (gR σ 6 a0 3).bind fun r15 =>
    (ldI σ r15 i3).bind fun x16 =>
    lt (((x14 : Int32).toInt64) - ((x16 : Int32).toInt64)) fun l17 =>
    bd (f_X6_load σ a0 0 i2) fun _ σ18 =>
    bd (f_X6_load σ18 a0 1 i3) fun _ σ19 =>
    (gR σ19 6 a0 5).bind fun r20 =>
    (ldI σ19 r20 0).bind fun x21 =>
    if x21 = 0 then (
      bd (f_X6_store σ19 a0 i1 0 0 l17) fun x53 σ54 =>
      (isB x53).bind fun _ => some (x53, σ54, 0, 0)
      ) else
    if i4 = 0 then (
      bd (f_X6_exact σ19 a0 i1 x12 l17) fun x51 σ52 =>
      (isB x51).bind fun _ => some (x51, σ52, 0, 0)
      ) else
    (gR σ19 6 a0 1).bind fun r22 =>
    (ldI σ19 r22 i3).bind fun x23 =>
    (gR σ19 6 a0 1).bind fun r24 =>
    (ldI σ19 r24 i2).bind fun x25 =>
    lt ((i4 + x23) - x25) fun x26 =>
    jn (fun (z27 : St) => (
      bd (f_X6_quotient z27 a0) fun _ σ28 =>
      lt (((x26 : Int32).toInt64) + l17) fun l29 =>
      (gR σ28 6 a0 5).bind fun r30 =>
      (ldI σ28 r30 2).bind fun x31 =>
      jn (fun (z32 : Int64 × St) => (
        (gI z32.2 6 a0 6).bind fun x33 =>
        if x33 ≤ 0 then (
          bd (f_X6_settle z32.2 a0 i1 x12 z32.1 l17 i4) fun x34 σ35 =>
          (isB x34).bind fun _ => some (x34, σ35, 0, 0)
          ) else
        bd (f_X6_finishTo z32.2 a0 i1 2 x12 z32.1 i5 i4) fun x36 σ37 =>
        (isB x36).bind fun _ => some (x36, σ37, 0, 0)
        )) fun k32 =>
      if x31 ≤ i4 then (
        k32 (l29, σ28)
        ) else
      (gR σ28 6 a0 4).bind fun r38 =>
      (ldI σ28 r38 34000).bind fun x39 =>
      (gI σ28 6 a0 6).bind fun x40 =>
      jn (fun (z41 : Int32) => (
        bd (f_X6_lower σ28 a0 2 1) fun _ σ42 =>
        jn (fun (z43 : Int32) => (
          (pF σ42 6 a0 6 (.int z43)).bind fun σ44 =>
          lt (l29 - 1) fun l45 =>
          k32 (l45, σ44)
          )) fun k43 =>
        jn (fun (z46 : Unit) => (
          k43 3
          )) fun k46 =>
        if 5 < x39 then (
          k46 ()
          ) else
        jn (fun (z47 : Unit) => (
          if x39 = 5 then (
            k43 2
            ) else
          jn (fun (z48 : Unit) => (
            k43 1
            )) fun k48 =>
          if 0 < x39 then (
            k48 ()
            ) else
          if z41 = 0 then (
            k43 0
            ) else
          k48 ()
          )) fun k47 =>
        if x39 = 5 then (
          if z41 = 0 then (
            k47 ()
            ) else
          k46 ()
          ) else
        k47 ()
        )) fun k41 =>
      if x40 ≤ 0 then (
        k41 0
        ) else
      k41 1
      )) fun k27 =>
    if x26 < 0 then (
      bd (f_X6_raise σ19 a0 1 (-x26)) fun _ σ49 =>
      k27 σ49
      ) else
    bd (f_X6_raise σ19 a0 0 x26) fun _ σ50 =>
    k27 σ50
    )
noncomputable def b_X6_remains_L67 (rec : St → Nat → Int32 → Int32 → Int32 → Int64 → Int32 → Int32 → Int32 → Int64 → Int32 → Int32 → Rs (Unit)) (σ : St) (a0 : Nat) (i1 : Int32) (i2 : Int32) (i3 : Int32) (j5 : Int64) (i7 : Int32) (i8 : Int32) (i9 : Int32) (j10 : Int64) (i12 : Int32) (i13 : Int32) : Rs (Unit) :=
  if i12 ≤ i13 then (
    some ((), σ, 0, 0)
    ) else
  (gR σ 6 a0 4).bind fun r8 =>
  (gR σ 6 a0 4).bind fun r9 =>
  (ldI σ r9 (34000 + i13)).bind fun x10 =>
  (stI σ r8 (0 + i13) x10).bind fun σ11 =>
  lt (i13 + 1) fun x12 =>
  rec σ11 a0 i1 i2 i3 j5 i7 i8 i9 j10 i12 x12
noncomputable def f_X6_remains_L67 : Nat → St → Nat → Int32 → Int32 → Int32 → Int64 → Int32 → Int32 → Int32 → Int64 → Int32 → Int32 → Rs (Unit)
  | 0, _, _, _, _, _, _, _, _, _, _, _, _ => none
  | n + 1, σ, a0, i1, i2, i3, j5, i7, i8, i9, j10, i12, i13 => b_X6_remains_L67 (f_X6_remains_L67 n) σ a0 i1 i2 i3 j5 i7 i8 i9 j10 i12 i13
noncomputable def b_X6_remains_L122 (rec : St → Nat → Int32 → Int32 → Int32 → Int64 → Int32 → Int32 → Int32 → Int64 → Int32 → Int32 → Int32 → Rs (Unit)) (σ : St) (a0 : Nat) (i1 : Int32) (i2 : Int32) (i3 : Int32) (j5 : Int64) (i7 : Int32) (i8 : Int32) (i9 : Int32) (j10 : Int64) (i12 : Int32) (i13 : Int32) (i14 : Int32) : Rs (Unit) :=
  if i13 ≤ i14 then (
    some ((), σ, 0, 0)
    ) else
  (gR σ 6 a0 4).bind fun r20 =>
  (gR σ 6 a0 4).bind fun r21 =>
  (ldI σ r21 (34000 + i14)).bind fun x22 =>
  (stI σ r20 (17000 + i14) x22).bind fun σ23 =>
  lt (i14 + 1) fun x24 =>
  rec σ23 a0 i1 i2 i3 j5 i7 i8 i9 j10 i12 i13 x24
noncomputable def f_X6_remains_L122 : Nat → St → Nat → Int32 → Int32 → Int32 → Int64 → Int32 → Int32 → Int32 → Int64 → Int32 → Int32 → Int32 → Rs (Unit)
  | 0, _, _, _, _, _, _, _, _, _, _, _, _, _ => none
  | n + 1, σ, a0, i1, i2, i3, j5, i7, i8, i9, j10, i12, i13, i14 => b_X6_remains_L122 (f_X6_remains_L122 n) σ a0 i1 i2 i3 j5 i7 i8 i9 j10 i12 i13 i14
noncomputable def b_X6_remains_L167 (rec : St → Nat → Int32 → Int32 → Int32 → Int64 → Int32 → Int32 → Int32 → Int64 → Int32 → Int32 → Rs (Unit)) (σ : St) (a0 : Nat) (i1 : Int32) (i2 : Int32) (i3 : Int32) (j5 : Int64) (i7 : Int32) (i8 : Int32) (i9 : Int32) (j10 : Int64) (i12 : Int32) (i14 : Int32) : Rs (Unit) :=
  if i12 ≤ i14 then (
    some ((), σ, 0, 0)
    ) else
  (gR σ 6 a0 4).bind fun r29 =>
  (gR σ 6 a0 4).bind fun r30 =>
  (ldI σ r30 (0 + i14)).bind fun x31 =>
  (stI σ r29 (34000 + i14) x31).bind fun σ32 =>
  lt (i14 + 1) fun x33 =>
  rec σ32 a0 i1 i2 i3 j5 i7 i8 i9 j10 i12 x33
noncomputable def f_X6_remains_L167 : Nat → St → Nat → Int32 → Int32 → Int32 → Int64 → Int32 → Int32 → Int32 → Int64 → Int32 → Int32 → Rs (Unit)
  | 0, _, _, _, _, _, _, _, _, _, _, _, _ => none
  | n + 1, σ, a0, i1, i2, i3, j5, i7, i8, i9, j10, i12, i14 => b_X6_remains_L167 (f_X6_remains_L167 n) σ a0 i1 i2 i3 j5 i7 i8 i9 j10 i12 i14
noncomputable def f_X6_remains (σ : St) (a0 : Nat) (i1 : Int32) (i2 : Int32) (i3 : Int32) (i4 : Int32) (j5 : Int64) (i7 : Int32) (i8 : Int32) (i9 : Int32) : Rs Int32 :=
  ob σ 6 a0 (
    (gR σ 6 a0 5).bind fun r1 =>
    (ldI σ r1 2).bind fun x2 =>
    if 4096 < x2 then (
      (isB 0).bind fun _ => some (0, σ, 0, 0)
      ) else
    if j5 < (-2147483648) then (
      (isB 0).bind fun _ => some (0, σ, 0, 0)
      ) else
    if j5 ≤ 2147483647 then (
      (gR σ 6 a0 3).bind fun r3 =>
      (ldI σ r3 i3).bind fun x4 =>
      lt (((x4 : Int32).toInt64) + ((i7 : Int32).toInt64)) fun l5 =>
      if l5 ≤ 2147483647 then (
        (gR σ 6 a0 5).bind fun r6 =>
        (ldI σ r6 2).bind fun x7 =>
        bd (f_X6_remains_L67 FU σ a0 i1 i2 i3 j5 i7 i8 i9 l5 x7 0) fun y13 σ14 =>
        (gR σ14 6 a0 5).bind fun r15 =>
        (stI σ14 r15 0 x7).bind fun σ16 =>
        bd (f_X6_product σ16 a0) fun _ σ17 =>
        (gR σ17 6 a0 5).bind fun r18 =>
        (ldI σ17 r18 2).bind fun x19 =>
        bd (f_X6_remains_L122 FU σ17 a0 i1 i2 i3 j5 i7 i8 i9 l5 x7 x19 0) fun y25 σ26 =>
        (gR σ26 6 a0 5).bind fun r27 =>
        (stI σ26 r27 1 x19).bind fun σ28 =>
        bd (f_X6_remains_L167 FU σ28 a0 i1 i2 i3 j5 i7 i8 i9 l5 x7 0) fun y34 σ35 =>
        (gR σ35 6 a0 5).bind fun r36 =>
        (stI σ35 r36 2 x7).bind fun σ37 =>
        bd (f_X6_load σ37 a0 0 i3) fun _ σ38 =>
        bd (f_X6_raise σ38 a0 0 i7) fun _ σ39 =>
        bd (f_X6_less σ39 a0 0 1) fun _ σ40 =>
        (gR σ40 6 a0 5).bind fun r41 =>
        (ldI σ40 r41 0).bind fun x42 =>
        if x42 ≤ 4096 then (
          bd (f_X6_store σ40 a0 i2 0 i9 l5) fun x43 σ44 =>
          bd (f_X6_store σ44 a0 i1 2 i8 j5) fun x45 σ46 =>
          if x45 = 0 then (
            (isB 0).bind fun _ => some (0, σ46, 0, 0)
            ) else
          if x43 = 0 then (
            (isB 0).bind fun _ => some (0, σ46, 0, 0)
            ) else
          (isB 1).bind fun _ => some (1, σ46, 0, 0)
          ) else
        (isB 0).bind fun _ => some (0, σ40, 0, 0)
        ) else
      (isB 0).bind fun _ => some (0, σ, 0, 0)
      ) else
    (isB 0).bind fun _ => some (0, σ, 0, 0)
    )
noncomputable def b_X6_whole_L203 (rec : St → Nat → Int32 → Int32 → Int32 → Int32 → Int32 → Int32 → Int64 → Int32 → Rs (Int32)) (σ : St) (a0 : Nat) (i1 : Int32) (i2 : Int32) (i3 : Int32) (i4 : Int32) (i5 : Int32) (i6 : Int32) (j7 : Int64) (i12 : Int32) : Rs (Int32) :=
  (gR σ 6 a0 5).bind fun r25 =>
  (ldI σ r25 3).bind fun x26 =>
  if x26 ≤ 0 then (
    some (i12, σ, 0, 0)
    ) else
  if (-j7) ≤ ((i12 : Int32).toInt64) then (
    some (i12, σ, 0, 0)
    ) else
  if 12500 ≤ i12 then (
    some (i12, σ, 0, 0)
    ) else
  bd (f_X6_step σ a0 0) fun x27 σ28 =>
  bd (f_X6_raise σ28 a0 2 1) fun _ σ29 =>
  (gR σ29 6 a0 5).bind fun r30 =>
  (ldI σ29 r30 2).bind fun x31 =>
  jn (fun (z32 : St) => (
    (gR z32 6 a0 5).bind fun r33 =>
    (ldI z32 r33 2).bind fun x34 =>
    jn (fun (z35 : St) => (
      lt (i12 + 1) fun x36 =>
      rec z35 a0 i1 i2 i3 i4 i5 i6 j7 x36
      )) fun k35 =>
    if x34 ≤ 0 then (
      k35 z32
      ) else
    (gR z32 6 a0 4).bind fun r37 =>
    (stI z32 r37 34000 x27).bind fun σ38 =>
    k35 σ38
    )) fun k32 =>
  if x31 = 0 then (
    if x27 ≤ 0 then (
      k32 σ29
      ) else
    (gR σ29 6 a0 5).bind fun r39 =>
    (stI σ29 r39 2 1).bind fun σ40 =>
    k32 σ40
    ) else
  k32 σ29
noncomputable def f_X6_whole_L203 : Nat → St → Nat → Int32 → Int32 → Int32 → Int32 → Int32 → Int32 → Int64 → Int32 → Rs (Int32)
  | 0, _, _, _, _, _, _, _, _, _, _ => none
  | n + 1, σ, a0, i1, i2, i3, i4, i5, i6, j7, i12 => b_X6_whole_L203 (f_X6_whole_L203 n) σ a0 i1 i2 i3 i4 i5 i6 j7 i12
noncomputable def f_X6_whole (σ : St) (a0 : Nat) (i1 : Int32) (i2 : Int32) (i3 : Int32) (i4 : Int32) : Rs Int32 :=
  ob σ 6 a0 (
    (f_X6_is σ i1).bind fun x1 =>
    if x1 = 0 then (
      (isB 0).bind fun _ => some (0, σ, 0, 0)
      ) else
    (f_X6_is σ i2).bind fun x2 =>
    if x2 = 0 then (
      (isB 0).bind fun _ => some (0, σ, 0, 0)
      ) else
    (f_X6_is σ i3).bind fun x3 =>
    if x3 = 0 then (
      (isB 0).bind fun _ => some (0, σ, 0, 0)
      ) else
    (f_X6_is σ i4).bind fun x4 =>
    if x4 = 0 then (
      (isB 0).bind fun _ => some (0, σ, 0, 0)
      ) else
    if i1 = i2 then (
      (isB 0).bind fun _ => some (0, σ, 0, 0)
      ) else
    (gR σ 6 a0 1).bind fun r5 =>
    (ldI σ r5 i4).bind fun x6 =>
    if x6 = 0 then (
      (isB 0).bind fun _ => some (0, σ, 0, 0)
      ) else
    (gR σ 6 a0 2).bind fun r7 =>
    (ldI σ r7 i3).bind fun x8 =>
    (gR σ 6 a0 2).bind fun r9 =>
    (ldI σ r9 i4).bind fun x10 =>
    lt (x8 * x10) fun x11 =>
    (gR σ 6 a0 2).bind fun r12 =>
    (ldI σ r12 i3).bind fun x13 =>
    (gR σ 6 a0 3).bind fun r14 =>
    (ldI σ r14 i3).bind fun x15 =>
    (gR σ 6 a0 3).bind fun r16 =>
    (ldI σ r16 i4).bind fun x17 =>
    lt (((x15 : Int32).toInt64) - ((x17 : Int32).toInt64)) fun l18 =>
    bd (f_X6_load σ a0 0 i3) fun _ σ19 =>
    bd (f_X6_load σ19 a0 1 i4) fun _ σ20 =>
    jn (fun (z21 : Int64 × Int32 × St) => (
      bd (f_X6_remains z21.2.2 a0 i1 i2 i3 i4 z21.1 z21.2.1 x11 x13) fun x22 σ23 =>
      (isB x22).bind fun _ => some (x22, σ23, 0, 0)
      )) fun k21 =>
    if l18 ≤ 0 then (
      bd (f_X6_quotient σ20 a0) fun _ σ24 =>
      bd (f_X6_whole_L203 FU σ24 a0 i1 i2 i3 i4 x11 x13 l18 0) fun y41 σ42 =>
      (gR σ42 6 a0 5).bind fun r43 =>
      (ldI σ42 r43 3).bind fun x44 =>
      jn (fun (z45 : Unit) => (
        (f_X6_zeros σ42 a0 2).bind fun x46 =>
        (gR σ42 6 a0 5).bind fun r47 =>
        (ldI σ42 r47 2).bind fun x48 =>
        jn (fun (z49 : Int32) => (
          bd (f_X6_lower σ42 a0 2 ((z49 : Int32).toInt64)) fun _ σ50 =>
          lt (y41 - z49) fun x51 =>
          lt (l18 + ((x51 : Int32).toInt64)) fun l52 =>
          k21 (l52, x51, σ50)
          )) fun k49 =>
        jn (fun (z53 : Unit) => (
          k49 y41
          )) fun k53 =>
        if x48 = 0 then (
          k53 ()
          ) else
        if x46 ≤ y41 then (
          k49 x46
          ) else
        k53 ()
        )) fun k45 =>
      if x44 ≤ 0 then (
        k45 ()
        ) else
      if (-l18) ≤ ((y41 : Int32).toInt64) then (
        k45 ()
        ) else
      (isB 0).bind fun _ => some (0, σ42, 0, 0)
      ) else
    (gR σ20 6 a0 1).bind fun r54 =>
    (ldI σ20 r54 i3).bind fun x55 =>
    (gR σ20 6 a0 1).bind fun r56 =>
    (ldI σ20 r56 i4).bind fun x57 =>
    if (((x57 : Int32).toInt64) + l18) ≤ ((x55 : Int32).toInt64) then (
      bd (f_X6_raise σ20 a0 1 ((l18 : Int64).toInt32)) fun _ σ58 =>
      bd (f_X6_quotient σ58 a0) fun _ σ59 =>
      bd (f_X6_load σ59 a0 1 i4) fun _ σ60 =>
      (gR σ60 6 a0 5).bind fun r61 =>
      (ldI σ60 r61 2).bind fun x62 =>
      if (((x62 : Int32).toInt64) + l18) ≤ 4096 then (
        bd (f_X6_raise σ60 a0 2 ((l18 : Int64).toInt32)) fun _ σ63 =>
        k21 (l18, 0, σ63)
        ) else
      (isB 0).bind fun _ => some (0, σ60, 0, 0)
      ) else
    (gR σ20 6 a0 5).bind fun r64 =>
    (stI σ20 r64 2 0).bind fun σ65 =>
    k21 (l18, 0, σ65)
    )
noncomputable def f_X6_half (σ : St) (j0 : Int64) : Option Int64 :=
  if 0 ≤ j0 then (
    (dvL j0 2).bind fun l1 =>
    some l1
    ) else
  (dvL (1 - j0) 2).bind fun l2 =>
  some (-l2)
noncomputable def f_X6_bring (σ : St) (a0 : Nat) (i1 : Int32) : Rs Unit :=
  ob σ 6 a0 (
    bd (f_X6_raise σ a0 3 1) fun _ σ1 =>
    (gR σ1 6 a0 5).bind fun r2 =>
    (ldI σ1 r2 3).bind fun x3 =>
    jn (fun (z4 : St) => (
      (gR z4 6 a0 5).bind fun r5 =>
      (ldI z4 r5 3).bind fun x6 =>
      if x6 ≤ 0 then (
        some ((), z4, 0, 0)
        ) else
      (gR z4 6 a0 4).bind fun r7 =>
      (stI z4 r7 51000 i1).bind fun σ8 =>
      some ((), σ8, 0, 0)
      )) fun k4 =>
    if x3 = 0 then (
      if i1 ≤ 0 then (
        k4 σ1
        ) else
      (gR σ1 6 a0 5).bind fun r9 =>
      (stI σ1 r9 3 1).bind fun σ10 =>
      k4 σ10
      ) else
    k4 σ1
    )
noncomputable def b_X6_extract_L93 (rec : St → Nat → Int32 → Int32 → Rs (Unit)) (σ : St) (a0 : Nat) (i1 : Int32) (i2 : Int32) : Rs (Unit) :=
  (gR σ 6 a0 5).bind fun r20 =>
  (ldI σ r20 2).bind fun x21 =>
  if x21 ≤ i2 then (
    some ((), σ, 0, 0)
    ) else
  (gR σ 6 a0 4).bind fun r22 =>
  (gR σ 6 a0 4).bind fun r23 =>
  (ldI σ r23 (34000 + i2)).bind fun x24 =>
  (stI σ r22 (17000 + i2) x24).bind fun σ25 =>
  lt (i2 + 1) fun x26 =>
  rec σ25 a0 i1 x26
noncomputable def f_X6_extract_L93 : Nat → St → Nat → Int32 → Int32 → Rs (Unit)
  | 0, _, _, _, _ => none
  | n + 1, σ, a0, i1, i2 => b_X6_extract_L93 (f_X6_extract_L93 n) σ a0 i1 i2
noncomputable def b_X6_extract_L147 (rec : St → Nat → Int32 → Int32 → Rs (Int32)) (σ : St) (a0 : Nat) (i1 : Int32) (i2 : Int32) : Rs (Int32) :=
  (f_X6_compareRows σ a0 3 1).bind fun x32 =>
  if x32 < 0 then (
    some (i2, σ, 0, 0)
    ) else
  bd (f_X6_less σ a0 3 1) fun _ σ33 =>
  bd (f_X6_one σ33 a0 1) fun _ σ34 =>
  bd (f_X6_one σ34 a0 1) fun _ σ35 =>
  lt (i2 + 1) fun x36 =>
  rec σ35 a0 i1 x36
noncomputable def f_X6_extract_L147 : Nat → St → Nat → Int32 → Int32 → Rs (Int32)
  | 0, _, _, _, _ => none
  | n + 1, σ, a0, i1, i2 => b_X6_extract_L147 (f_X6_extract_L147 n) σ a0 i1 i2
noncomputable def b_X6_extract_L27 (rec : St → Nat → Int32 → Rs (Unit)) (σ : St) (a0 : Nat) (i1 : Int32) : Rs (Unit) :=
  if i1 < 0 then (
    some ((), σ, 0, 0)
    ) else
  (gR σ 6 a0 5).bind fun r9 =>
  (ldI σ r9 0).bind fun x10 =>
  jn (fun (z11 : Int32) => (
    bd (f_X6_bring σ a0 z11) fun _ σ12 =>
    (gR σ12 6 a0 4).bind fun r13 =>
    (ldI σ12 r13 (0 + (2 * i1))).bind fun x14 =>
    bd (f_X6_bring σ12 a0 x14) fun _ σ15 =>
    (gR σ15 6 a0 5).bind fun r16 =>
    (gR σ15 6 a0 5).bind fun r17 =>
    (ldI σ15 r17 2).bind fun x18 =>
    (stI σ15 r16 1 x18).bind fun σ19 =>
    bd (f_X6_extract_L93 FU σ19 a0 i1 0) fun y27 σ28 =>
    bd (f_X6_plus σ28 a0 1 2) fun _ σ29 =>
    bd (f_X6_raise σ29 a0 1 1) fun _ σ30 =>
    bd (f_X6_one σ30 a0 1) fun _ σ31 =>
    bd (f_X6_extract_L147 FU σ31 a0 i1 0) fun y37 σ38 =>
    bd (f_X6_raise σ38 a0 2 1) fun _ σ39 =>
    (gR σ39 6 a0 5).bind fun r40 =>
    (ldI σ39 r40 2).bind fun x41 =>
    jn (fun (z42 : St) => (
      (gR z42 6 a0 5).bind fun r43 =>
      (ldI z42 r43 2).bind fun x44 =>
      jn (fun (z45 : St) => (
        lt (i1 + (-1)) fun x46 =>
        rec z45 a0 x46
        )) fun k45 =>
      if x44 ≤ 0 then (
        k45 z42
        ) else
      (gR z42 6 a0 4).bind fun r47 =>
      (stI z42 r47 34000 y37).bind fun σ48 =>
      k45 σ48
      )) fun k42 =>
    if x41 = 0 then (
      if y37 ≤ 0 then (
        k42 σ39
        ) else
      (gR σ39 6 a0 5).bind fun r49 =>
      (stI σ39 r49 2 1).bind fun σ50 =>
      k42 σ50
      ) else
    k42 σ39
    )) fun k11 =>
  if x10 ≤ ((2 * i1) + 1) then (
    k11 0
    ) else
  (gR σ 6 a0 4).bind fun r51 =>
  (ldI σ r51 ((0 + (2 * i1)) + 1)).bind fun x52 =>
  k11 x52
noncomputable def f_X6_extract_L27 : Nat → St → Nat → Int32 → Rs (Unit)
  | 0, _, _, _ => none
  | n + 1, σ, a0, i1 => b_X6_extract_L27 (f_X6_extract_L27 n) σ a0 i1
noncomputable def f_X6_extract (σ : St) (a0 : Nat) : Rs Unit :=
  ob σ 6 a0 (
    (gR σ 6 a0 5).bind fun r1 =>
    (stI σ r1 2 0).bind fun σ2 =>
    (gR σ2 6 a0 5).bind fun r3 =>
    (stI σ2 r3 3 0).bind fun σ4 =>
    (gR σ4 6 a0 5).bind fun r5 =>
    (ldI σ4 r5 0).bind fun x6 =>
    (dvI (x6 + 1) 2).bind fun x7 =>
    lt (x7 - 1) fun x8 =>
    bd (f_X6_extract_L27 FU σ4 a0 x8) fun y53 σ54 =>
    some ((), σ54, 0, 0)
    )
noncomputable def f_X6_root (σ : St) (a0 : Nat) (i1 : Int32) (i2 : Int32) (i3 : Int32) (i4 : Int32) : Rs Int32 :=
  ob σ 6 a0 (
    (f_X6_is σ i1).bind fun x1 =>
    if x1 = 0 then (
      (isB 0).bind fun _ => some (0, σ, 0, 0)
      ) else
    (f_X6_is σ i2).bind fun x2 =>
    if x2 = 0 then (
      (isB 0).bind fun _ => some (0, σ, 0, 0)
      ) else
    (f_X6_isPrecision σ i3).bind fun x3 =>
    if x3 = 0 then (
      (isB 0).bind fun _ => some (0, σ, 0, 0)
      ) else
    (f_X6_isRounding σ i4).bind fun x4 =>
    if x4 = 0 then (
      (isB 0).bind fun _ => some (0, σ, 0, 0)
      ) else
    if i3 = 0 then (
      (isB 0).bind fun _ => some (0, σ, 0, 0)
      ) else
    (gR σ 6 a0 2).bind fun r5 =>
    (ldI σ r5 i2).bind fun x6 =>
    if 0 ≤ x6 then (
      (gR σ 6 a0 3).bind fun r7 =>
      (ldI σ r7 i2).bind fun x8 =>
      (dvI x8 2).bind fun x9 =>
      bd (f_X6_load σ a0 0 i2) fun _ σ10 =>
      (gR σ10 6 a0 5).bind fun r11 =>
      (ldI σ10 r11 0).bind fun x12 =>
      if x12 = 0 then (
        bd (f_X6_store σ10 a0 i1 0 0 ((x9 : Int32).toInt64)) fun x46 σ47 =>
        (isB x46).bind fun _ => some (x46, σ47, 0, 0)
        ) else
      (gR σ10 6 a0 1).bind fun r13 =>
      (ldI σ10 r13 i2).bind fun x14 =>
      (gR σ10 6 a0 3).bind fun r15 =>
      (ldI σ10 r15 i2).bind fun x16 =>
      (f_X6_half σ10 ((((x14 : Int32).toInt64) - 1) - ((x16 : Int32).toInt64))).bind fun l17 =>
      lt (((i3 : Int32).toInt64) - l17) fun l18 =>
      (gR σ10 6 a0 3).bind fun r19 =>
      (ldI σ10 r19 i2).bind fun x20 =>
      lt ((2 * l18) - ((x20 : Int32).toInt64)) fun l21 =>
      jn (fun (z22 : Int32 × St) => (
        bd (f_X6_extract z22.2 a0) fun _ σ23 =>
        jn (fun (z24 : Int32) => (
          (gR σ23 6 a0 4).bind fun r25 =>
          (ldI σ23 r25 34000).bind fun x26 =>
          bd (f_X6_lower σ23 a0 2 1) fun _ σ27 =>
          jn (fun (z28 : Int32) => (
            (pF σ27 6 a0 6 (.int z28)).bind fun σ29 =>
            lt (l18 - 1) fun l30 =>
            (gI σ29 6 a0 6).bind fun x31 =>
            if x31 ≤ 0 then (
              bd (f_X6_settle σ29 a0 i1 1 l30 ((x9 : Int32).toInt64) i3) fun x32 σ33 =>
              (isB x32).bind fun _ => some (x32, σ33, 0, 0)
              ) else
            bd (f_X6_finishTo σ29 a0 i1 2 1 l30 i4 i3) fun x34 σ35 =>
            (isB x34).bind fun _ => some (x34, σ35, 0, 0)
            )) fun k28 =>
          jn (fun (z36 : Unit) => (
            k28 3
            )) fun k36 =>
          if 5 < x26 then (
            k36 ()
            ) else
          jn (fun (z37 : Unit) => (
            if x26 = 5 then (
              k28 2
              ) else
            jn (fun (z38 : Unit) => (
              k28 1
              )) fun k38 =>
            if 0 < x26 then (
              k38 ()
              ) else
            if z24 = 0 then (
              k28 0
              ) else
            k38 ()
            )) fun k37 =>
          if x26 = 5 then (
            if z24 = 0 then (
              k37 ()
              ) else
            k36 ()
            ) else
          k37 ()
          )) fun k24 =>
        jn (fun (z39 : Unit) => (
          k24 1
          )) fun k39 =>
        if z22.1 = 0 then (
          (gR σ23 6 a0 5).bind fun r40 =>
          (ldI σ23 r40 3).bind fun x41 =>
          if x41 ≤ 0 then (
            k24 0
            ) else
          k39 ()
          ) else
        k39 ()
        )) fun k22 =>
      if l21 < 0 then (
        bd (f_X6_lower σ10 a0 0 (-l21)) fun _ σ42 =>
        (gI σ42 6 a0 6).bind fun x43 =>
        jn (fun (z44 : Int32) => (
          k22 (z44, σ42)
          )) fun k44 =>
        if x43 ≤ 0 then (
          k44 0
          ) else
        k44 1
        ) else
      bd (f_X6_raise σ10 a0 0 ((l21 : Int64).toInt32)) fun _ σ45 =>
      k22 (0, σ45)
      ) else
    (isB 0).bind fun _ => some (0, σ, 0, 0)
    )
noncomputable def f_X6_rescale (σ : St) (a0 : Nat) (i1 : Int32) (i2 : Int32) (i3 : Int32) (i4 : Int32) : Rs Int32 :=
  ob σ 6 a0 (
    (f_X6_is σ i1).bind fun x1 =>
    if x1 = 0 then (
      (isB 0).bind fun _ => some (0, σ, 0, 0)
      ) else
    (f_X6_is σ i2).bind fun x2 =>
    if x2 = 0 then (
      (isB 0).bind fun _ => some (0, σ, 0, 0)
      ) else
    (f_X6_isRounding σ i4).bind fun x3 =>
    if x3 = 0 then (
      (isB 0).bind fun _ => some (0, σ, 0, 0)
      ) else
    bd (f_X6_load σ a0 0 i2) fun _ σ4 =>
    (gR σ4 6 a0 3).bind fun r5 =>
    (ldI σ4 r5 i2).bind fun x6 =>
    lt (((i3 : Int32).toInt64) - ((x6 : Int32).toInt64)) fun l7 =>
    (pF σ4 6 a0 6 (.int 0)).bind fun σ8 =>
    (gR σ8 6 a0 5).bind fun r9 =>
    (ldI σ8 r9 0).bind fun x10 =>
    jn (fun (z11 : Unit) => (
      jn (fun (z12 : St) => (
        (gR z12 6 a0 2).bind fun r13 =>
        (ldI z12 r13 i2).bind fun x14 =>
        bd (f_X6_finish z12 a0 i1 0 x14 ((i3 : Int32).toInt64) i4) fun x15 σ16 =>
        (isB x15).bind fun _ => some (x15, σ16, 0, 0)
        )) fun k12 =>
      jn (fun (z17 : Unit) => (
        bd (f_X6_lower σ8 a0 0 (-l7)) fun _ σ18 =>
        k12 σ18
        )) fun k17 =>
      if l7 ≤ 0 then (
        k17 ()
        ) else
      (gR σ8 6 a0 5).bind fun r19 =>
      (ldI σ8 r19 0).bind fun x20 =>
      if x20 ≤ 0 then (
        k17 ()
        ) else
      bd (f_X6_raise σ8 a0 0 ((l7 : Int64).toInt32)) fun _ σ21 =>
      k12 σ21
      )) fun k11 =>
    if x10 ≤ 0 then (
      k11 ()
      ) else
    (gR σ8 6 a0 5).bind fun r22 =>
    (ldI σ8 r22 0).bind fun x23 =>
    if (((x23 : Int32).toInt64) + l7) ≤ 4096 then (
      k11 ()
      ) else
    (isB 0).bind fun _ => some (0, σ8, 0, 0)
    )
noncomputable def f_X6_round (σ : St) (a0 : Nat) (i1 : Int32) (i2 : Int32) (i3 : Int32) (i4 : Int32) : Rs Int32 :=
  ob σ 6 a0 (
    (f_X6_is σ i1).bind fun x1 =>
    if x1 = 0 then (
      (isB 0).bind fun _ => some (0, σ, 0, 0)
      ) else
    (f_X6_is σ i2).bind fun x2 =>
    if x2 = 0 then (
      (isB 0).bind fun _ => some (0, σ, 0, 0)
      ) else
    (f_X6_isPrecision σ i3).bind fun x3 =>
    if x3 = 0 then (
      (isB 0).bind fun _ => some (0, σ, 0, 0)
      ) else
    (f_X6_isRounding σ i4).bind fun x4 =>
    if x4 = 0 then (
      (isB 0).bind fun _ => some (0, σ, 0, 0)
      ) else
    bd (f_X6_load σ a0 0 i2) fun _ σ5 =>
    jn (fun (z6 : Unit) => (
      (gR σ5 6 a0 2).bind fun r7 =>
      (ldI σ5 r7 i2).bind fun x8 =>
      (gR σ5 6 a0 3).bind fun r9 =>
      (ldI σ5 r9 i2).bind fun x10 =>
      bd (f_X6_store σ5 a0 i1 0 x8 ((x10 : Int32).toInt64)) fun x11 σ12 =>
      (isB x11).bind fun _ => some (x11, σ12, 0, 0)
      )) fun k6 =>
    if i3 = 0 then (
      k6 ()
      ) else
    (gR σ5 6 a0 5).bind fun r13 =>
    (ldI σ5 r13 0).bind fun x14 =>
    if i3 < x14 then (
      (gR σ5 6 a0 5).bind fun r15 =>
      (ldI σ5 r15 0).bind fun x16 =>
      lt (x16 - i3) fun x17 =>
      bd (f_X6_lower σ5 a0 0 ((x17 : Int32).toInt64)) fun _ σ18 =>
      (gR σ18 6 a0 2).bind fun r19 =>
      (ldI σ18 r19 i2).bind fun x20 =>
      (gR σ18 6 a0 3).bind fun r21 =>
      (ldI σ18 r21 i2).bind fun x22 =>
      bd (f_X6_finishTo σ18 a0 i1 0 x20 (((x22 : Int32).toInt64) - ((x17 : Int32).toInt64)) i4 i3) fun x23 σ24 =>
      (isB x23).bind fun _ => some (x23, σ24, 0, 0)
      ) else
    k6 ()
    )
noncomputable def f_X6_strip (σ : St) (a0 : Nat) (i1 : Int32) (i2 : Int32) : Rs Int32 :=
  ob σ 6 a0 (
    (f_X6_is σ i1).bind fun x1 =>
    if x1 = 0 then (
      (isB 0).bind fun _ => some (0, σ, 0, 0)
      ) else
    (f_X6_is σ i2).bind fun x2 =>
    if x2 = 0 then (
      (isB 0).bind fun _ => some (0, σ, 0, 0)
      ) else
    bd (f_X6_load σ a0 0 i2) fun _ σ3 =>
    (f_X6_zeros σ3 a0 0).bind fun x4 =>
    bd (f_X6_lower σ3 a0 0 ((x4 : Int32).toInt64)) fun _ σ5 =>
    (gR σ5 6 a0 2).bind fun r6 =>
    (ldI σ5 r6 i2).bind fun x7 =>
    (gR σ5 6 a0 5).bind fun r8 =>
    (ldI σ5 r8 0).bind fun x9 =>
    jn (fun (z10 : Int64) => (
      bd (f_X6_store σ5 a0 i1 0 x7 z10) fun x11 σ12 =>
      (isB x11).bind fun _ => some (x11, σ12, 0, 0)
      )) fun k10 =>
    if x9 = 0 then (
      k10 0
      ) else
    (gR σ5 6 a0 3).bind fun r13 =>
    (ldI σ5 r13 i2).bind fun x14 =>
    k10 (((x14 : Int32).toInt64) - ((x4 : Int32).toInt64))
    )
noncomputable def f_X6_move (σ : St) (a0 : Nat) (i1 : Int32) (i2 : Int32) (i3 : Int32) : Rs Int32 :=
  ob σ 6 a0 (
    (f_X6_is σ i1).bind fun x1 =>
    if x1 = 0 then (
      (isB 0).bind fun _ => some (0, σ, 0, 0)
      ) else
    (f_X6_is σ i2).bind fun x2 =>
    if x2 = 0 then (
      (isB 0).bind fun _ => some (0, σ, 0, 0)
      ) else
    bd (f_X6_load σ a0 0 i2) fun _ σ3 =>
    (gR σ3 6 a0 2).bind fun r4 =>
    (ldI σ3 r4 i2).bind fun x5 =>
    (gR σ3 6 a0 3).bind fun r6 =>
    (ldI σ3 r6 i2).bind fun x7 =>
    bd (f_X6_store σ3 a0 i1 0 x5 (((x7 : Int32).toInt64) - ((i3 : Int32).toInt64))) fun x8 σ9 =>
    (isB x8).bind fun _ => some (x8, σ9, 0, 0)
    )
noncomputable def b_X6_compare_L125 (rec : St → Nat → Int32 → Int32 → Int32 → Int32 → Option (Int32)) (σ : St) (a0 : Nat) (i1 : Int32) (i2 : Int32) (i7 : Int32) (i8 : Int32) : Option (Int32) :=
  if i7 = 0 then (
    (gR σ 6 a0 1).bind fun r21 =>
    (ldI σ r21 i1).bind fun x22 =>
    jn (fun (z23 : Unit) => (
      (gR σ 6 a0 1).bind fun r24 =>
      (ldI σ r24 i1).bind fun x25 =>
      jn (fun (z26 : Int32) => (
        (gR σ 6 a0 1).bind fun r27 =>
        (ldI σ r27 i2).bind fun x28 =>
        jn (fun (z29 : Int32) => (
          jn (fun (z30 : Int32) => (
            lt (i8 + 1) fun x31 =>
            rec σ a0 i1 i2 z30 x31
            )) fun k30 =>
          if z29 ≤ z26 then (
            if z26 ≤ z29 then (
              k30 0
              ) else
            k30 1
            ) else
          k30 (-1)
          )) fun k29 =>
        if x28 < i8 then (
          k29 0
          ) else
        (gR σ 6 a0 0).bind fun r32 =>
        (gR σ 6 a0 1).bind fun r33 =>
        (ldI σ r33 i2).bind fun x34 =>
        (ldI σ r32 (((4096 * i2) + x34) - i8)).bind fun x35 =>
        k29 x35
        )) fun k26 =>
      if x25 < i8 then (
        k26 0
        ) else
      (gR σ 6 a0 0).bind fun r36 =>
      (gR σ 6 a0 1).bind fun r37 =>
      (ldI σ r37 i1).bind fun x38 =>
      (ldI σ r36 (((4096 * i1) + x38) - i8)).bind fun x39 =>
      k26 x39
      )) fun k23 =>
    if i8 ≤ x22 then (
      k23 ()
      ) else
    (gR σ 6 a0 1).bind fun r40 =>
    (ldI σ r40 i2).bind fun x41 =>
    if x41 < i8 then (
      some i7
      ) else
    k23 ()
    ) else
  some i7
noncomputable def f_X6_compare_L125 : Nat → St → Nat → Int32 → Int32 → Int32 → Int32 → Option (Int32)
  | 0, _, _, _, _, _, _ => none
  | n + 1, σ, a0, i1, i2, i7, i8 => b_X6_compare_L125 (f_X6_compare_L125 n) σ a0 i1 i2 i7 i8
noncomputable def f_X6_compare (σ : St) (a0 : Nat) (i1 : Int32) (i2 : Int32) : Option Int32 :=
  ob σ 6 a0 (
    (f_X6_is σ i1).bind fun x1 =>
    jn (fun (z2 : Unit) => (
      some (-2)
      )) fun k2 =>
    if x1 = 0 then (
      k2 ()
      ) else
    (f_X6_is σ i2).bind fun x3 =>
    if x3 = 0 then (
      k2 ()
      ) else
    (gR σ 6 a0 2).bind fun r4 =>
    (ldI σ r4 i1).bind fun x5 =>
    (gR σ 6 a0 2).bind fun r6 =>
    (ldI σ r6 i2).bind fun x7 =>
    if x5 = x7 then (
      (gR σ 6 a0 2).bind fun r8 =>
      (ldI σ r8 i1).bind fun x9 =>
      if x9 = 0 then (
        some 0
        ) else
      (gR σ 6 a0 1).bind fun r10 =>
      (ldI σ r10 i1).bind fun x11 =>
      (gR σ 6 a0 3).bind fun r12 =>
      (ldI σ r12 i1).bind fun x13 =>
      lt (((x11 : Int32).toInt64) - ((x13 : Int32).toInt64)) fun l14 =>
      (gR σ 6 a0 1).bind fun r15 =>
      (ldI σ r15 i2).bind fun x16 =>
      (gR σ 6 a0 3).bind fun r17 =>
      (ldI σ r17 i2).bind fun x18 =>
      lt (((x16 : Int32).toInt64) - ((x18 : Int32).toInt64)) fun l19 =>
      jn (fun (z20 : Int32) => (
        (f_X6_compare_L125 FU σ a0 i1 i2 z20 1).bind fun y42 =>
        (gR σ 6 a0 2).bind fun r43 =>
        (ldI σ r43 i1).bind fun x44 =>
        some (x44 * y42)
        )) fun k20 =>
      if l19 ≤ l14 then (
        if l14 ≤ l19 then (
          k20 0
          ) else
        k20 1
        ) else
      k20 (-1)
      ) else
    (gR σ 6 a0 2).bind fun r45 =>
    (ldI σ r45 i1).bind fun x46 =>
    (gR σ 6 a0 2).bind fun r47 =>
    (ldI σ r47 i2).bind fun x48 =>
    if x48 ≤ x46 then (
      some 1
      ) else
    some (-1)
    )
noncomputable def f_X6_sign (σ : St) (a0 : Nat) (i1 : Int32) : Option Int32 :=
  ob σ 6 a0 (
    (f_X6_is σ i1).bind fun x1 =>
    if x1 = 0 then (
      some (-2)
      ) else
    (gR σ 6 a0 2).bind fun r2 =>
    (ldI σ r2 i1).bind fun x3 =>
    some x3
    )
noncomputable def f_X6_digitsOf (σ : St) (a0 : Nat) (i1 : Int32) : Option Int32 :=
  ob σ 6 a0 (
    (gR σ 6 a0 1).bind fun r1 =>
    (ldI σ r1 i1).bind fun x2 =>
    if x2 = 0 then (
      some 1
      ) else
    (gR σ 6 a0 1).bind fun r3 =>
    (ldI σ r3 i1).bind fun x4 =>
    some x4
    )
noncomputable def f_X6_precision (σ : St) (a0 : Nat) (i1 : Int32) : Option Int32 :=
  ob σ 6 a0 (
    (f_X6_is σ i1).bind fun x1 =>
    if x1 = 0 then (
      some (-1)
      ) else
    (f_X6_digitsOf σ a0 i1).bind fun x2 =>
    some x2
    )
noncomputable def f_X6_scale (σ : St) (a0 : Nat) (i1 : Int32) : Option Int32 :=
  ob σ 6 a0 (
    (f_X6_is σ i1).bind fun x1 =>
    if x1 = 0 then (
      some 0
      ) else
    (gR σ 6 a0 3).bind fun r2 =>
    (ldI σ r2 i1).bind fun x3 =>
    some x3
    )
noncomputable def f_X6_digit (σ : St) (a0 : Nat) (i1 : Int32) (i2 : Int32) : Option Int32 :=
  ob σ 6 a0 (
    (f_X6_is σ i1).bind fun x1 =>
    if x1 = 0 then (
      some (-1)
      ) else
    if i2 < 0 then (
      some (-1)
      ) else
    (f_X6_digitsOf σ a0 i1).bind fun x2 =>
    if i2 < x2 then (
      (gR σ 6 a0 1).bind fun r3 =>
      (ldI σ r3 i1).bind fun x4 =>
      if x4 = 0 then (
        some 0
        ) else
      (gR σ 6 a0 0).bind fun r5 =>
      (ldI σ r5 ((4096 * i1) + i2)).bind fun x6 =>
      some x6
      ) else
    some (-1)
    )
noncomputable def b_X6_type_L8 (rec : St → Nat → Int64 → Int32 → Int32 → Int32 → Option (Int32 × Int32)) (σ : St) (a0 : Nat) (j1 : Int64) (i3 : Int32) (i4 : Int32) (i5 : Int32) : Option (Int32 × Int32) :=
  if 8 ≤ i5 then (
    some (i3, i4)
    ) else
  lt ((j1 >>> ((8 * i5 : Int32).toInt64 &&& 63)) &&& 255) fun l1 =>
  jn (fun (z2 : Int32) => (
    lt (i3 + z2) fun x3 =>
    jn (fun (z4 : Int32) => (
      lt (i5 + 1) fun x5 =>
      rec σ a0 j1 x3 z4 x5
      )) fun k4 =>
    jn (fun (z6 : Unit) => (
      k4 0
      )) fun k6 =>
    if i4 = 0 then (
      k6 ()
      ) else
    if 127 ≤ l1 then (
      k6 ()
      ) else
    k4 1
    )) fun k2 =>
  if l1 = 0 then (
    k2 0
    ) else
  k2 1
noncomputable def f_X6_type_L8 : Nat → St → Nat → Int64 → Int32 → Int32 → Int32 → Option (Int32 × Int32)
  | 0, _, _, _, _, _, _ => none
  | n + 1, σ, a0, j1, i3, i4, i5 => b_X6_type_L8 (f_X6_type_L8 n) σ a0 j1 i3 i4 i5
noncomputable def b_X6_type_L93 (rec : St → Nat → Int64 → Int32 → Rs (Unit)) (σ : St) (a0 : Nat) (j1 : Int64) (i5 : Int32) : Rs (Unit) :=
  if i5 < 0 then (
    some ((), σ, 0, 0)
    ) else
  lt (((j1 >>> ((8 * i5 : Int32).toInt64 &&& 63)) &&& 255 : Int64).toInt32) fun x9 =>
  jn (fun (z10 : St) => (
    lt (i5 + (-1)) fun x11 =>
    rec z10 a0 j1 x11
    )) fun k10 =>
  if x9 = 0 then (
    k10 σ
    ) else
  (gR σ 6 a0 8).bind fun r12 =>
  (gI σ 6 a0 7).bind fun x13 =>
  (stI σ r12 x13 x9).bind fun σ14 =>
  (gI σ14 6 a0 7).bind fun x15 =>
  (pF σ14 6 a0 7 (.int (x15 + 1))).bind fun σ16 =>
  k10 σ16
noncomputable def f_X6_type_L93 : Nat → St → Nat → Int64 → Int32 → Rs (Unit)
  | 0, _, _, _, _ => none
  | n + 1, σ, a0, j1, i5 => b_X6_type_L93 (f_X6_type_L93 n) σ a0 j1 i5
noncomputable def f_X6_type (σ : St) (a0 : Nat) (j1 : Int64) : Rs Int32 :=
  ob σ 6 a0 (
    (f_X6_type_L8 FU σ a0 j1 0 1 0).bind fun y7 =>
    if y7.2 = 0 then (
      (isB 0).bind fun _ => some (0, σ, 0, 0)
      ) else
    (gI σ 6 a0 7).bind fun x8 =>
    if (x8 + y7.1) ≤ 6000 then (
      bd (f_X6_type_L93 FU σ a0 j1 7) fun y17 σ18 =>
      (isB 1).bind fun _ => some (1, σ18, 0, 0)
      ) else
    (isB 0).bind fun _ => some (0, σ, 0, 0)
    )
noncomputable def f_X6_isDigit (σ : St) (i0 : Int32) : Option Int32 :=
  if i0 < 48 then (
    (isB 0).bind fun _ => some 0
    ) else
  if 57 < i0 then (
    (isB 0).bind fun _ => some 0
    ) else
  (isB 1).bind fun _ => some 1
noncomputable def b_X6_read_L63 (rec : St → Nat → Int32 → Int32 → Int32 → Int32 → Int32 → Int32 → Option (Int32 × Int32)) (σ : St) (a0 : Nat) (i1 : Int32) (i2 : Int32) (i3 : Int32) (i4 : Int32) (i5 : Int32) (i6 : Int32) : Option (Int32 × Int32) :=
  if i2 ≤ i3 then (
    some (i3, i6)
    ) else
  (gR σ 6 a0 8).bind fun r5 =>
  (ldI σ r5 i3).bind fun x6 =>
  (f_X6_isDigit σ x6).bind fun x7 =>
  jn (fun (z8 : Unit) => (
    (gR σ 6 a0 8).bind fun r9 =>
    (ldI σ r9 i3).bind fun x10 =>
    jn (fun (z11 : Int32) => (
      lt (i3 + 1) fun x12 =>
      rec σ a0 i1 i2 x12 i4 i5 z11
      )) fun k11 =>
    if x10 = 46 then (
      k11 i3
      ) else
    k11 i6
    )) fun k8 =>
  if x7 = 0 then (
    (gR σ 6 a0 8).bind fun r13 =>
    (ldI σ r13 i3).bind fun x14 =>
    if x14 = 46 then (
      if 0 ≤ i6 then (
        some (i3, i6)
        ) else
      k8 ()
      ) else
    some (i3, i6)
    ) else
  k8 ()
noncomputable def f_X6_read_L63 : Nat → St → Nat → Int32 → Int32 → Int32 → Int32 → Int32 → Int32 → Option (Int32 × Int32)
  | 0, _, _, _, _, _, _, _, _ => none
  | n + 1, σ, a0, i1, i2, i3, i4, i5, i6 => b_X6_read_L63 (f_X6_read_L63 n) σ a0 i1 i2 i3 i4 i5 i6
noncomputable def b_X6_read_L355 (rec : St → Nat → Int32 → Int32 → Int32 → Int32 → Int64 → Int32 → Int32 → Rs (Int32)) (σ : St) (a0 : Nat) (i1 : Int32) (i4 : Int32) (i5 : Int32) (i6 : Int32) (j9 : Int64) (i11 : Int32) (i12 : Int32) : Rs (Int32) :=
  if i12 < i5 then (
    some (i11, σ, 0, 0)
    ) else
  jn (fun (z22 : Int32 × St) => (
    lt (i12 + (-1)) fun x23 =>
    rec z22.2 a0 i1 i4 i5 i6 j9 z22.1 x23
    )) fun k22 =>
  if i12 = i6 then (
    k22 (i11, σ)
    ) else
  (gR σ 6 a0 4).bind fun r24 =>
  (gR σ 6 a0 8).bind fun r25 =>
  (ldI σ r25 i12).bind fun x26 =>
  (stI σ r24 i11 (x26 - 48)).bind fun σ27 =>
  lt (i11 + 1) fun x28 =>
  k22 (x28, σ27)
noncomputable def f_X6_read_L355 : Nat → St → Nat → Int32 → Int32 → Int32 → Int32 → Int64 → Int32 → Int32 → Rs (Int32)
  | 0, _, _, _, _, _, _, _, _, _ => none
  | n + 1, σ, a0, i1, i4, i5, i6, j9, i11, i12 => b_X6_read_L355 (f_X6_read_L355 n) σ a0 i1 i4 i5 i6 j9 i11 i12
noncomputable def b_X6_read_L255 (rec : St → Nat → Int32 → Int32 → Int32 → Int32 → Int32 → Int32 → Int32 → Int64 → Int32 → Int64 → Option (Int32 × Int64)) (σ : St) (a0 : Nat) (i1 : Int32) (i2 : Int32) (i3 : Int32) (i4 : Int32) (i5 : Int32) (i6 : Int32) (i7 : Int32) (j9 : Int64) (i11 : Int32) (j12 : Int64) : Option (Int32 × Int64) :=
  if i2 ≤ i3 then (
    some (i3, j12)
    ) else
  (gR σ 6 a0 8).bind fun r41 =>
  (ldI σ r41 i3).bind fun x42 =>
  (f_X6_isDigit σ x42).bind fun x43 =>
  if x43 = 0 then (
    some (i3, j12)
    ) else
  jn (fun (z44 : Int64) => (
    lt (i3 + 1) fun x45 =>
    rec σ a0 i1 i2 x45 i4 i5 i6 i7 j9 i11 z44
    )) fun k44 =>
  if j12 ≤ 100000000000 then (
    (gR σ 6 a0 8).bind fun r46 =>
    (ldI σ r46 i3).bind fun x47 =>
    k44 (((10 * j12) + ((x47 : Int32).toInt64)) - 48)
    ) else
  k44 j12
noncomputable def f_X6_read_L255 : Nat → St → Nat → Int32 → Int32 → Int32 → Int32 → Int32 → Int32 → Int32 → Int64 → Int32 → Int64 → Option (Int32 × Int64)
  | 0, _, _, _, _, _, _, _, _, _, _, _, _ => none
  | n + 1, σ, a0, i1, i2, i3, i4, i5, i6, i7, j9, i11, j12 => b_X6_read_L255 (f_X6_read_L255 n) σ a0 i1 i2 i3 i4 i5 i6 i7 j9 i11 j12
noncomputable def f_X6_read (σ : St) (a0 : Nat) (i1 : Int32) : Rs Int32 :=
  ob σ 6 a0 (
    (gI σ 6 a0 7).bind fun x1 =>
    (pF σ 6 a0 7 (.int 0)).bind fun σ2 =>
    jn (fun (z3 : Int32) => (
      jn (fun (z4 : Int32) => (
        (f_X6_read_L63 FU σ2 a0 i1 x1 z4 z3 z4 (-1)).bind fun y15 =>
        jn (fun (z16 : Int32) => (
          lt ((y15.1 - z4) - z16) fun x17 =>
          jn (fun (z18 : Int64) => (
            if x17 = 0 then (
              (isB 0).bind fun _ => some (0, σ2, 0, 0)
              ) else
            jn (fun (z19 : Int32 × Int64) => (
              if z19.1 < x1 then (
                (isB 0).bind fun _ => some (0, σ2, 0, 0)
                ) else
              (f_X6_is σ2 i1).bind fun x20 =>
              if x20 = 0 then (
                (isB 0).bind fun _ => some (0, σ2, 0, 0)
                ) else
              lt (y15.1 - 1) fun x21 =>
              bd (f_X6_read_L355 FU σ2 a0 i1 z3 z4 y15.2 z19.2 0 x21) fun y29 σ30 =>
              bd (f_X6_trim σ30 a0 0 y29) fun _ σ31 =>
              jn (fun (z32 : Int32) => (
                bd (f_X6_store σ31 a0 i1 0 z32 z19.2) fun x33 σ34 =>
                (isB x33).bind fun _ => some (x33, σ34, 0, 0)
                )) fun k32 =>
              if z3 = 0 then (
                k32 1
                ) else
              k32 (-1)
              )) fun k19 =>
            if x1 ≤ y15.1 then (
              k19 (y15.1, z18)
              ) else
            (gR σ2 6 a0 8).bind fun r35 =>
            (ldI σ2 r35 y15.1).bind fun x36 =>
            jn (fun (z37 : Unit) => (
              lt (y15.1 + 1) fun x38 =>
              jn (fun (z39 : Int32) => (
                jn (fun (z40 : Int32) => (
                  if z40 = x1 then (
                    (isB 0).bind fun _ => some (0, σ2, 0, 0)
                    ) else
                  (f_X6_read_L255 FU σ2 a0 i1 x1 z40 z3 z4 y15.2 y15.1 z18 z39 0).bind fun y48 =>
                  jn (fun (z49 : Int64) => (
                    k19 (y48.1, z49)
                    )) fun k49 =>
                  if z39 = 0 then (
                    k49 (z18 - y48.2)
                    ) else
                  k49 (z18 + y48.2)
                  )) fun k40 =>
                jn (fun (z50 : Unit) => (
                  lt (x38 + 1) fun x51 =>
                  k40 x51
                  )) fun k50 =>
                if z39 = 0 then (
                  if x1 ≤ x38 then (
                    k40 x38
                    ) else
                  (gR σ2 6 a0 8).bind fun r52 =>
                  (ldI σ2 r52 x38).bind fun x53 =>
                  if x53 = 43 then (
                    k50 ()
                    ) else
                  k40 x38
                  ) else
                k50 ()
                )) fun k39 =>
              jn (fun (z54 : Unit) => (
                k39 0
                )) fun k54 =>
              if x1 ≤ x38 then (
                k54 ()
                ) else
              (gR σ2 6 a0 8).bind fun r55 =>
              (ldI σ2 r55 x38).bind fun x56 =>
              if x56 = 45 then (
                k39 1
                ) else
              k54 ()
              )) fun k37 =>
            if x36 = 101 then (
              k37 ()
              ) else
            (gR σ2 6 a0 8).bind fun r57 =>
            (ldI σ2 r57 y15.1).bind fun x58 =>
            if x58 = 69 then (
              k37 ()
              ) else
            k19 (y15.1, z18)
            )) fun k18 =>
          if 0 ≤ y15.2 then (
            k18 (((y15.1 - y15.2) - 1 : Int32).toInt64)
            ) else
          k18 0
          )) fun k16 =>
        if 0 ≤ y15.2 then (
          k16 1
          ) else
        k16 0
        )) fun k4 =>
      jn (fun (z59 : Unit) => (
        lt (0 + 1) fun x60 =>
        k4 x60
        )) fun k59 =>
      if z3 = 0 then (
        if x1 ≤ 0 then (
          k4 0
          ) else
        (gR σ2 6 a0 8).bind fun r61 =>
        (ldI σ2 r61 0).bind fun x62 =>
        if x62 = 43 then (
          k59 ()
          ) else
        k4 0
        ) else
      k59 ()
      )) fun k3 =>
    jn (fun (z63 : Unit) => (
      k3 0
      )) fun k63 =>
    if x1 ≤ 0 then (
      k63 ()
      ) else
    (gR σ2 6 a0 8).bind fun r64 =>
    (ldI σ2 r64 0).bind fun x65 =>
    if x65 = 45 then (
      k3 1
      ) else
    k63 ()
    )
noncomputable def f_X6_mark (σ : St) (a0 : Nat) (i1 : Int32) : Rs Int32 :=
  ob σ 6 a0 (
    (gI σ 6 a0 9).bind fun x1 =>
    jn (fun (z2 : St) => (
      (gI z2 6 a0 9).bind fun x3 =>
      (pF z2 6 a0 9 (.int (x3 + 1))).bind fun σ4 =>
      (gI σ4 6 a0 9).bind fun x5 =>
      if 6000 < x5 then (
        (isB 0).bind fun _ => some (0, σ4, 0, 0)
        ) else
      (isB 1).bind fun _ => some (1, σ4, 0, 0)
      )) fun k2 =>
    if 6000 ≤ x1 then (
      k2 σ
      ) else
    (gR σ 6 a0 10).bind fun r6 =>
    (gI σ 6 a0 9).bind fun x7 =>
    (stI σ r6 x7 i1).bind fun σ8 =>
    k2 σ8
    )
noncomputable def b_X6_putNumber_L2 (rec : St → Nat → Int64 → Int64 → Option (Int64)) (σ : St) (a0 : Nat) (j1 : Int64) (j3 : Int64) : Option (Int64) :=
  (dvL j1 j3).bind fun l1 =>
  if l1 ≤ 9 then (
    some j3
    ) else
  lt (10 * j3) fun l2 =>
  rec σ a0 j1 l2
noncomputable def f_X6_putNumber_L2 : Nat → St → Nat → Int64 → Int64 → Option (Int64)
  | 0, _, _, _, _ => none
  | n + 1, σ, a0, j1, j3 => b_X6_putNumber_L2 (f_X6_putNumber_L2 n) σ a0 j1 j3
noncomputable def b_X6_putNumber_L21 (rec : St → Nat → Int64 → Int64 → Rs (Unit)) (σ : St) (a0 : Nat) (j1 : Int64) (j3 : Int64) : Rs (Unit) :=
  if j3 ≤ 0 then (
    some ((), σ, 0, 0)
    ) else
  (dvL j1 j3).bind fun l4 =>
  (rmL l4 10).bind fun l5 =>
  bd (f_X6_mark σ a0 (48 + ((l5 : Int64).toInt32))) fun x6 σ7 =>
  (dvL j3 10).bind fun l8 =>
  rec σ7 a0 j1 l8
noncomputable def f_X6_putNumber_L21 : Nat → St → Nat → Int64 → Int64 → Rs (Unit)
  | 0, _, _, _, _ => none
  | n + 1, σ, a0, j1, j3 => b_X6_putNumber_L21 (f_X6_putNumber_L21 n) σ a0 j1 j3
noncomputable def f_X6_putNumber (σ : St) (a0 : Nat) (j1 : Int64) : Rs Unit :=
  ob σ 6 a0 (
    (f_X6_putNumber_L2 FU σ a0 j1 1).bind fun y3 =>
    bd (f_X6_putNumber_L21 FU σ a0 j1 y3) fun y9 σ10 =>
    some ((), σ10, 0, 0)
    )
noncomputable def f_X6_putExponent (σ : St) (a0 : Nat) (j1 : Int64) : Rs Unit :=
  ob σ 6 a0 (
    if j1 = 0 then (
      some ((), σ, 0, 0)
      ) else
    bd (f_X6_mark σ a0 69) fun x1 σ2 =>
    jn (fun (z3 : Int32) => (
      bd (f_X6_mark σ2 a0 z3) fun x4 σ5 =>
      jn (fun (z6 : Int64) => (
        bd (f_X6_putNumber σ5 a0 z6) fun _ σ7 =>
        some ((), σ7, 0, 0)
        )) fun k6 =>
      if 0 ≤ j1 then (
        k6 j1
        ) else
      k6 (-j1)
      )) fun k3 =>
    if 0 ≤ j1 then (
      k3 43
      ) else
    k3 45
    )
noncomputable def f_X6_front (σ : St) (a0 : Nat) (i1 : Int32) (i2 : Int32) : Option Int32 :=
  ob σ 6 a0 (
    (gR σ 6 a0 1).bind fun r1 =>
    (ldI σ r1 i1).bind fun x2 =>
    jn (fun (z3 : Int32) => (
      some (48 + z3)
      )) fun k3 =>
    if x2 ≤ i2 then (
      k3 0
      ) else
    (gR σ 6 a0 0).bind fun r4 =>
    (gR σ 6 a0 1).bind fun r5 =>
    (ldI σ r5 i1).bind fun x6 =>
    (ldI σ r4 ((((4096 * i1) + x6) - 1) - i2)).bind fun x7 =>
    k3 x7
    )
noncomputable def f_X6_plainSize (σ : St) (a0 : Nat) (i1 : Int32) : Option Int64 :=
  ob σ 6 a0 (
    (f_X6_digitsOf σ a0 i1).bind fun x1 =>
    (gR σ 6 a0 3).bind fun r2 =>
    (ldI σ r2 i1).bind fun x3 =>
    jn (fun (z4 : Int64) => (
      (gR σ 6 a0 2).bind fun r5 =>
      (ldI σ r5 i1).bind fun x6 =>
      if 0 ≤ x6 then (
        some z4
        ) else
      some (z4 + 1)
      )) fun k4 =>
    if x3 ≤ 0 then (
      jn (fun (z7 : Unit) => (
        k4 ((x1 : Int32).toInt64)
        )) fun k7 =>
      if 0 ≤ x3 then (
        k7 ()
        ) else
      (gR σ 6 a0 1).bind fun r8 =>
      (ldI σ r8 i1).bind fun x9 =>
      if x9 ≤ 0 then (
        k7 ()
        ) else
      k4 (((x1 : Int32).toInt64) - ((x3 : Int32).toInt64))
      ) else
    if x1 ≤ x3 then (
      k4 (((x3 : Int32).toInt64) + 2)
      ) else
    k4 (((x1 : Int32).toInt64) + 1)
    )
noncomputable def b_X6_plain_L101 (rec : St → Nat → Int32 → Int32 → Int32 → Int32 → Rs (Unit)) (σ : St) (a0 : Nat) (i1 : Int32) (i2 : Int32) (i3 : Int32) (i5 : Int32) : Rs (Unit) :=
  if i2 ≤ i5 then (
    some ((), σ, 0, 0)
    ) else
  (f_X6_front σ a0 i1 i5).bind fun x4 =>
  bd (f_X6_mark σ a0 x4) fun x5 σ6 =>
  lt (i5 + 1) fun x7 =>
  rec σ6 a0 i1 i2 i3 x7
noncomputable def f_X6_plain_L101 : Nat → St → Nat → Int32 → Int32 → Int32 → Int32 → Rs (Unit)
  | 0, _, _, _, _, _, _ => none
  | n + 1, σ, a0, i1, i2, i3, i5 => b_X6_plain_L101 (f_X6_plain_L101 n) σ a0 i1 i2 i3 i5
noncomputable def b_X6_plain_L129 (rec : St → Nat → Int32 → Int32 → Int32 → Rs (Unit)) (σ : St) (a0 : Nat) (i1 : Int32) (i3 : Int32) (i5 : Int32) : Rs (Unit) :=
  if (-i3) ≤ i5 then (
    some ((), σ, 0, 0)
    ) else
  (gR σ 6 a0 1).bind fun r10 =>
  (ldI σ r10 i1).bind fun x11 =>
  if x11 ≤ 0 then (
    some ((), σ, 0, 0)
    ) else
  bd (f_X6_mark σ a0 48) fun x12 σ13 =>
  lt (i5 + 1) fun x14 =>
  rec σ13 a0 i1 i3 x14
noncomputable def f_X6_plain_L129 : Nat → St → Nat → Int32 → Int32 → Int32 → Rs (Unit)
  | 0, _, _, _, _, _ => none
  | n + 1, σ, a0, i1, i3, i5 => b_X6_plain_L129 (f_X6_plain_L129 n) σ a0 i1 i3 i5
noncomputable def b_X6_plain_L34 (rec : St → Nat → Int32 → Int32 → Int32 → Rs (Unit)) (σ : St) (a0 : Nat) (i1 : Int32) (i3 : Int32) (i5 : Int32) : Rs (Unit) :=
  if i5 < 0 then (
    some ((), σ, 0, 0)
    ) else
  (gR σ 6 a0 1).bind fun r18 =>
  (ldI σ r18 i1).bind fun x19 =>
  jn (fun (z20 : Int32) => (
    bd (f_X6_mark σ a0 z20) fun x21 σ22 =>
    jn (fun (z23 : St) => (
      lt (i5 + (-1)) fun x24 =>
      rec z23 a0 i1 i3 x24
      )) fun k23 =>
    if i5 = i3 then (
      bd (f_X6_mark σ22 a0 46) fun x25 σ26 =>
      k23 σ26
      ) else
    k23 σ22
    )) fun k20 =>
  if x19 ≤ i5 then (
    k20 48
    ) else
  (gR σ 6 a0 0).bind fun r27 =>
  (ldI σ r27 ((4096 * i1) + i5)).bind fun x28 =>
  k20 (48 + x28)
noncomputable def f_X6_plain_L34 : Nat → St → Nat → Int32 → Int32 → Int32 → Rs (Unit)
  | 0, _, _, _, _, _ => none
  | n + 1, σ, a0, i1, i3, i5 => b_X6_plain_L34 (f_X6_plain_L34 n) σ a0 i1 i3 i5
noncomputable def f_X6_plain (σ : St) (a0 : Nat) (i1 : Int32) : Rs Unit :=
  ob σ 6 a0 (
    (f_X6_digitsOf σ a0 i1).bind fun x1 =>
    (gR σ 6 a0 3).bind fun r2 =>
    (ldI σ r2 i1).bind fun x3 =>
    if x3 ≤ 0 then (
      bd (f_X6_plain_L101 FU σ a0 i1 x1 x3 0) fun y8 σ9 =>
      bd (f_X6_plain_L129 FU σ9 a0 i1 x3 0) fun y15 σ16 =>
      some ((), σ16, 0, 0)
      ) else
    jn (fun (z17 : Int32) => (
      bd (f_X6_plain_L34 FU σ a0 i1 x3 z17) fun y29 σ30 =>
      some ((), σ30, 0, 0)
      )) fun k17 =>
    if x1 ≤ x3 then (
      k17 x3
      ) else
    k17 (x1 - 1)
    )
noncomputable def b_X6_write_L234 (rec : St → Nat → Int32 → Int32 → Int32 → Int64 → Int64 → Option (Int64)) (σ : St) (a0 : Nat) (i1 : Int32) (i2 : Int32) (i3 : Int32) (j4 : Int64) (j8 : Int64) : Option (Int64) :=
  if i2 = 1 then (
    (rmL j8 3).bind fun l15 =>
    if l15 = 0 then (
      some j8
      ) else
    lt (j8 - 1) fun l16 =>
    rec σ a0 i1 i2 i3 j4 l16
    ) else
  some j8
noncomputable def f_X6_write_L234 : Nat → St → Nat → Int32 → Int32 → Int32 → Int64 → Int64 → Option (Int64)
  | 0, _, _, _, _, _, _, _ => none
  | n + 1, σ, a0, i1, i2, i3, j4, j8 => b_X6_write_L234 (f_X6_write_L234 n) σ a0 i1 i2 i3 j4 j8
noncomputable def b_X6_write_L272 (rec : St → Nat → Int32 → Int32 → Int64 → Int32 → Int32 → Rs (Unit)) (σ : St) (a0 : Nat) (i1 : Int32) (i3 : Int32) (j8 : Int64) (i10 : Int32) (i11 : Int32) : Rs (Unit) :=
  jn (fun (z19 : Unit) => (
    jn (fun (z20 : St) => (
      (f_X6_front z20 a0 i1 i11).bind fun x21 =>
      bd (f_X6_mark z20 a0 x21) fun x22 σ23 =>
      lt (i11 + 1) fun x24 =>
      rec σ23 a0 i1 i3 j8 i10 x24
      )) fun k20 =>
    if i11 = i10 then (
      bd (f_X6_mark σ a0 46) fun x25 σ26 =>
      k20 σ26
      ) else
    k20 σ
    )) fun k19 =>
  if i11 < i10 then (
    k19 ()
    ) else
  if i3 ≤ i11 then (
    some ((), σ, 0, 0)
    ) else
  k19 ()
noncomputable def f_X6_write_L272 : Nat → St → Nat → Int32 → Int32 → Int64 → Int32 → Int32 → Rs (Unit)
  | 0, _, _, _, _, _, _, _ => none
  | n + 1, σ, a0, i1, i3, j8, i10, i11 => b_X6_write_L272 (f_X6_write_L272 n) σ a0 i1 i3 j8 i10 i11
noncomputable def b_X6_write_L148 (rec : St → Nat → Int64 → Int64 → Option (Int64)) (σ : St) (a0 : Nat) (j4 : Int64) (j8 : Int64) : Option (Int64) :=
  (rmL j8 3).bind fun l32 =>
  if l32 = 0 then (
    some j8
    ) else
  lt (j8 + 1) fun l33 =>
  rec σ a0 j4 l33
noncomputable def f_X6_write_L148 : Nat → St → Nat → Int64 → Int64 → Option (Int64)
  | 0, _, _, _, _ => none
  | n + 1, σ, a0, j4, j8 => b_X6_write_L148 (f_X6_write_L148 n) σ a0 j4 j8
noncomputable def b_X6_write_L196 (rec : St → Nat → Int64 → Int64 → Rs (Unit)) (σ : St) (a0 : Nat) (j8 : Int64) (j10 : Int64) : Rs (Unit) :=
  if j8 ≤ j10 then (
    some ((), σ, 0, 0)
    ) else
  bd (f_X6_mark σ a0 48) fun x38 σ39 =>
  lt (j10 + 1) fun l40 =>
  rec σ39 a0 j8 l40
noncomputable def f_X6_write_L196 : Nat → St → Nat → Int64 → Int64 → Rs (Unit)
  | 0, _, _, _, _ => none
  | n + 1, σ, a0, j8, j10 => b_X6_write_L196 (f_X6_write_L196 n) σ a0 j8 j10
noncomputable def f_X6_write (σ : St) (a0 : Nat) (i1 : Int32) (i2 : Int32) : Rs Int32 :=
  ob σ 6 a0 (
    (f_X6_is σ i1).bind fun x1 =>
    if x1 = 0 then (
      some ((-1), σ, 0, 0)
      ) else
    if i2 < 0 then (
      some ((-1), σ, 0, 0)
      ) else
    if i2 ≤ 2 then (
      (f_X6_digitsOf σ a0 i1).bind fun x2 =>
      (gR σ 6 a0 3).bind fun r3 =>
      (ldI σ r3 i1).bind fun x4 =>
      lt ((((x2 : Int32).toInt64) - 1) - ((x4 : Int32).toInt64)) fun l5 =>
      jn (fun (z6 : Int32) => (
        jn (fun (z7 : Unit) => (
          (pF σ 6 a0 9 (.int 0)).bind fun σ8 =>
          (gR σ8 6 a0 2).bind fun r9 =>
          (ldI σ8 r9 i1).bind fun x10 =>
          jn (fun (z11 : Int32 × St) => (
            jn (fun (z12 : St) => (
              (gI z12 6 a0 9).bind fun x13 =>
              some (x13, z12, 0, 0)
              )) fun k12 =>
            if z6 = 0 then (
              jn (fun (z14 : Unit) => (
                (f_X6_write_L234 FU z11.2 a0 i1 i2 x2 l5 l5).bind fun y17 =>
                lt (1 + ((l5 - y17 : Int64).toInt32)) fun x18 =>
                bd (f_X6_write_L272 FU z11.2 a0 i1 x2 y17 x18 0) fun y27 σ28 =>
                bd (f_X6_putExponent σ28 a0 y17) fun _ σ29 =>
                k12 σ29
                )) fun k14 =>
              if i2 = 1 then (
                (gR z11.2 6 a0 1).bind fun r30 =>
                (ldI z11.2 r30 i1).bind fun x31 =>
                if x31 = 0 then (
                  (f_X6_write_L148 FU z11.2 a0 l5 l5).bind fun y34 =>
                  bd (f_X6_mark z11.2 a0 48) fun x35 σ36 =>
                  jn (fun (z37 : St) => (
                    bd (f_X6_write_L196 FU z37 a0 y34 l5) fun y41 σ42 =>
                    bd (f_X6_putExponent σ42 a0 y34) fun _ σ43 =>
                    k12 σ43
                    )) fun k37 =>
                  if y34 ≤ l5 then (
                    k37 σ36
                    ) else
                  bd (f_X6_mark σ36 a0 46) fun x44 σ45 =>
                  k37 σ45
                  ) else
                k14 ()
                ) else
              k14 ()
              ) else
            bd (f_X6_plain z11.2 a0 i1) fun _ σ46 =>
            k12 σ46
            )) fun k11 =>
          jn (fun (z47 : St) => (
            k11 (1, z47)
            )) fun k47 =>
          if 0 ≤ x10 then (
            k47 σ8
            ) else
          bd (f_X6_mark σ8 a0 45) fun x48 σ49 =>
          if x48 = 0 then (
            k11 (0, σ49)
            ) else
          k47 σ49
          )) fun k7 =>
        if z6 = 0 then (
          k7 ()
          ) else
        (f_X6_plainSize σ a0 i1).bind fun l50 =>
        if l50 ≤ 6000 then (
          k7 ()
          ) else
        some ((-1), σ, 0, 0)
        )) fun k6 =>
      jn (fun (z51 : Unit) => (
        k6 1
        )) fun k51 =>
      if i2 = 2 then (
        k51 ()
        ) else
      (gR σ 6 a0 3).bind fun r52 =>
      (ldI σ r52 i1).bind fun x53 =>
      jn (fun (z54 : Unit) => (
        k6 0
        )) fun k54 =>
      if x53 < 0 then (
        k54 ()
        ) else
      if l5 < (-6) then (
        k54 ()
        ) else
      k51 ()
      ) else
    some ((-1), σ, 0, 0)
    )
noncomputable def f_X6_characterAt (σ : St) (a0 : Nat) (i1 : Int32) : Option Int32 :=
  ob σ 6 a0 (
    if i1 < 0 then (
      some (-1)
      ) else
    (gI σ 6 a0 9).bind fun x1 =>
    if i1 < x1 then (
      (gR σ 6 a0 10).bind fun r2 =>
      (ldI σ r2 i1).bind fun x3 =>
      some x3
      ) else
    some (-1)
    )
noncomputable def b_L_law_L18 (rec : St → Nat → Nat → Nat → Int32 → Rs (Unit)) (σ : St) (a0 : Nat) (a1 : Nat) (a2 : Nat) (i3 : Int32) : Rs (Unit) :=
  (aLn σ a0).bind fun x7 =>
  if (x7 - 6) < i3 then (
    some ((), σ, 0, 0)
    ) else
  (ldI σ a0 i3).bind fun x8 =>
  lt (x8 &&& 31) fun x9 =>
  jn (fun (z10 : St) => (
    lt (i3 + 6) fun x11 =>
    rec z10 a0 a1 a2 x11
    )) fun k10 =>
  if x9 = 0 then (
    (ldI σ a0 (i3 + 1)).bind fun x12 =>
    (ldI σ a0 (i3 + 2)).bind fun x13 =>
    (ldI σ a0 (i3 + 3)).bind fun x14 =>
    (ldI σ a0 (i3 + 4)).bind fun x15 =>
    bd (f_X5_put σ a1 x12 ((((x13 : Int32).toInt64) <<< ((32 : Int32).toInt64 &&& 63)) ||| (((x14 : Int32).toInt64) &&& 4294967295)) x15) fun x16 σ17 =>
    (ldI σ17 a0 (i3 + 1)).bind fun x18 =>
    (ldI σ17 a0 (i3 + 2)).bind fun x19 =>
    (ldI σ17 a0 (i3 + 3)).bind fun x20 =>
    (ldI σ17 a0 (i3 + 4)).bind fun x21 =>
    bd (f_X6_put σ17 a2 x18 ((((x19 : Int32).toInt64) <<< ((32 : Int32).toInt64 &&& 63)) ||| (((x20 : Int32).toInt64) &&& 4294967295)) x21) fun x22 σ23 =>
    if x16 = x22 then (
      k10 σ23
      ) else
    none
    ) else
  if x9 = 1 then (
    (ldI σ a0 (i3 + 1)).bind fun x24 =>
    (ldI σ a0 (i3 + 2)).bind fun x25 =>
    (ldI σ a0 (i3 + 3)).bind fun x26 =>
    jn (fun (z27 : Int32) => (
      bd (f_X5_copy σ a1 x24 x25 z27) fun x28 σ29 =>
      (ldI σ29 a0 (i3 + 1)).bind fun x30 =>
      (ldI σ29 a0 (i3 + 2)).bind fun x31 =>
      (ldI σ29 a0 (i3 + 3)).bind fun x32 =>
      jn (fun (z33 : Int32) => (
        bd (f_X6_copy σ29 a2 x30 x31 z33) fun x34 σ35 =>
        if x28 = x34 then (
          k10 σ35
          ) else
        none
        )) fun k33 =>
      if x32 = 0 then (
        k33 0
        ) else
      k33 1
      )) fun k27 =>
    if x26 = 0 then (
      k27 0
      ) else
    k27 1
    ) else
  if x9 = 2 then (
    (ldI σ a0 (i3 + 1)).bind fun x36 =>
    (ldI σ a0 (i3 + 2)).bind fun x37 =>
    (ldI σ a0 (i3 + 3)).bind fun x38 =>
    bd (f_X5_add σ a1 x36 x37 x38) fun x39 σ40 =>
    (ldI σ40 a0 (i3 + 1)).bind fun x41 =>
    (ldI σ40 a0 (i3 + 2)).bind fun x42 =>
    (ldI σ40 a0 (i3 + 3)).bind fun x43 =>
    bd (f_X6_add σ40 a2 x41 x42 x43) fun x44 σ45 =>
    if x39 = x44 then (
      k10 σ45
      ) else
    none
    ) else
  if x9 = 3 then (
    (ldI σ a0 (i3 + 1)).bind fun x46 =>
    (ldI σ a0 (i3 + 2)).bind fun x47 =>
    (ldI σ a0 (i3 + 3)).bind fun x48 =>
    bd (f_X5_take σ a1 x46 x47 x48) fun x49 σ50 =>
    (ldI σ50 a0 (i3 + 1)).bind fun x51 =>
    (ldI σ50 a0 (i3 + 2)).bind fun x52 =>
    (ldI σ50 a0 (i3 + 3)).bind fun x53 =>
    bd (f_X6_take σ50 a2 x51 x52 x53) fun x54 σ55 =>
    if x49 = x54 then (
      k10 σ55
      ) else
    none
    ) else
  if x9 = 4 then (
    (ldI σ a0 (i3 + 1)).bind fun x56 =>
    (ldI σ a0 (i3 + 2)).bind fun x57 =>
    (ldI σ a0 (i3 + 3)).bind fun x58 =>
    bd (f_X5_times σ a1 x56 x57 x58) fun x59 σ60 =>
    (ldI σ60 a0 (i3 + 1)).bind fun x61 =>
    (ldI σ60 a0 (i3 + 2)).bind fun x62 =>
    (ldI σ60 a0 (i3 + 3)).bind fun x63 =>
    bd (f_X6_times σ60 a2 x61 x62 x63) fun x64 σ65 =>
    if x59 = x64 then (
      k10 σ65
      ) else
    none
    ) else
  if x9 = 5 then (
    (ldI σ a0 (i3 + 1)).bind fun x66 =>
    (ldI σ a0 (i3 + 2)).bind fun x67 =>
    (ldI σ a0 (i3 + 3)).bind fun x68 =>
    bd (f_X5_power σ a1 x66 x67 x68) fun x69 σ70 =>
    (ldI σ70 a0 (i3 + 1)).bind fun x71 =>
    (ldI σ70 a0 (i3 + 2)).bind fun x72 =>
    (ldI σ70 a0 (i3 + 3)).bind fun x73 =>
    bd (f_X6_power σ70 a2 x71 x72 x73) fun x74 σ75 =>
    if x69 = x74 then (
      k10 σ75
      ) else
    none
    ) else
  if x9 = 6 then (
    (ldI σ a0 (i3 + 1)).bind fun x76 =>
    (ldI σ a0 (i3 + 2)).bind fun x77 =>
    (ldI σ a0 (i3 + 3)).bind fun x78 =>
    (ldI σ a0 (i3 + 4)).bind fun x79 =>
    (ldI σ a0 (i3 + 5)).bind fun x80 =>
    bd (f_X5_divide σ a1 x76 x77 x78 x79 x80) fun x81 σ82 =>
    (ldI σ82 a0 (i3 + 1)).bind fun x83 =>
    (ldI σ82 a0 (i3 + 2)).bind fun x84 =>
    (ldI σ82 a0 (i3 + 3)).bind fun x85 =>
    (ldI σ82 a0 (i3 + 4)).bind fun x86 =>
    (ldI σ82 a0 (i3 + 5)).bind fun x87 =>
    bd (f_X6_divide σ82 a2 x83 x84 x85 x86 x87) fun x88 σ89 =>
    if x81 = x88 then (
      k10 σ89
      ) else
    none
    ) else
  if x9 = 7 then (
    (ldI σ a0 (i3 + 1)).bind fun x90 =>
    (ldI σ a0 (i3 + 2)).bind fun x91 =>
    (ldI σ a0 (i3 + 3)).bind fun x92 =>
    (ldI σ a0 (i3 + 4)).bind fun x93 =>
    (ldI σ a0 (i3 + 5)).bind fun x94 =>
    bd (f_X5_ratio σ a1 x90 x91 x92 x93 x94) fun x95 σ96 =>
    (ldI σ96 a0 (i3 + 1)).bind fun x97 =>
    (ldI σ96 a0 (i3 + 2)).bind fun x98 =>
    (ldI σ96 a0 (i3 + 3)).bind fun x99 =>
    (ldI σ96 a0 (i3 + 4)).bind fun x100 =>
    (ldI σ96 a0 (i3 + 5)).bind fun x101 =>
    bd (f_X6_ratio σ96 a2 x97 x98 x99 x100 x101) fun x102 σ103 =>
    if x95 = x102 then (
      k10 σ103
      ) else
    none
    ) else
  if x9 = 8 then (
    (ldI σ a0 (i3 + 1)).bind fun x104 =>
    (ldI σ a0 (i3 + 2)).bind fun x105 =>
    (ldI σ a0 (i3 + 3)).bind fun x106 =>
    (ldI σ a0 (i3 + 4)).bind fun x107 =>
    bd (f_X5_whole σ a1 x104 x105 x106 x107) fun x108 σ109 =>
    (ldI σ109 a0 (i3 + 1)).bind fun x110 =>
    (ldI σ109 a0 (i3 + 2)).bind fun x111 =>
    (ldI σ109 a0 (i3 + 3)).bind fun x112 =>
    (ldI σ109 a0 (i3 + 4)).bind fun x113 =>
    bd (f_X6_whole σ109 a2 x110 x111 x112 x113) fun x114 σ115 =>
    if x108 = x114 then (
      k10 σ115
      ) else
    none
    ) else
  if x9 = 9 then (
    (ldI σ a0 (i3 + 1)).bind fun x116 =>
    (ldI σ a0 (i3 + 2)).bind fun x117 =>
    (ldI σ a0 (i3 + 3)).bind fun x118 =>
    (ldI σ a0 (i3 + 4)).bind fun x119 =>
    bd (f_X5_root σ a1 x116 x117 x118 x119) fun x120 σ121 =>
    (ldI σ121 a0 (i3 + 1)).bind fun x122 =>
    (ldI σ121 a0 (i3 + 2)).bind fun x123 =>
    (ldI σ121 a0 (i3 + 3)).bind fun x124 =>
    (ldI σ121 a0 (i3 + 4)).bind fun x125 =>
    bd (f_X6_root σ121 a2 x122 x123 x124 x125) fun x126 σ127 =>
    if x120 = x126 then (
      k10 σ127
      ) else
    none
    ) else
  if x9 = 10 then (
    (ldI σ a0 (i3 + 1)).bind fun x128 =>
    (ldI σ a0 (i3 + 2)).bind fun x129 =>
    (ldI σ a0 (i3 + 3)).bind fun x130 =>
    (ldI σ a0 (i3 + 4)).bind fun x131 =>
    bd (f_X5_rescale σ a1 x128 x129 x130 x131) fun x132 σ133 =>
    (ldI σ133 a0 (i3 + 1)).bind fun x134 =>
    (ldI σ133 a0 (i3 + 2)).bind fun x135 =>
    (ldI σ133 a0 (i3 + 3)).bind fun x136 =>
    (ldI σ133 a0 (i3 + 4)).bind fun x137 =>
    bd (f_X6_rescale σ133 a2 x134 x135 x136 x137) fun x138 σ139 =>
    if x132 = x138 then (
      k10 σ139
      ) else
    none
    ) else
  if x9 = 11 then (
    (ldI σ a0 (i3 + 1)).bind fun x140 =>
    (ldI σ a0 (i3 + 2)).bind fun x141 =>
    (ldI σ a0 (i3 + 3)).bind fun x142 =>
    (ldI σ a0 (i3 + 4)).bind fun x143 =>
    bd (f_X5_round σ a1 x140 x141 x142 x143) fun x144 σ145 =>
    (ldI σ145 a0 (i3 + 1)).bind fun x146 =>
    (ldI σ145 a0 (i3 + 2)).bind fun x147 =>
    (ldI σ145 a0 (i3 + 3)).bind fun x148 =>
    (ldI σ145 a0 (i3 + 4)).bind fun x149 =>
    bd (f_X6_round σ145 a2 x146 x147 x148 x149) fun x150 σ151 =>
    if x144 = x150 then (
      k10 σ151
      ) else
    none
    ) else
  if x9 = 12 then (
    (ldI σ a0 (i3 + 1)).bind fun x152 =>
    (ldI σ a0 (i3 + 2)).bind fun x153 =>
    bd (f_X5_strip σ a1 x152 x153) fun x154 σ155 =>
    (ldI σ155 a0 (i3 + 1)).bind fun x156 =>
    (ldI σ155 a0 (i3 + 2)).bind fun x157 =>
    bd (f_X6_strip σ155 a2 x156 x157) fun x158 σ159 =>
    if x154 = x158 then (
      k10 σ159
      ) else
    none
    ) else
  if x9 = 13 then (
    (ldI σ a0 (i3 + 1)).bind fun x160 =>
    (ldI σ a0 (i3 + 2)).bind fun x161 =>
    (ldI σ a0 (i3 + 3)).bind fun x162 =>
    bd (f_X5_move σ a1 x160 x161 x162) fun x163 σ164 =>
    (ldI σ164 a0 (i3 + 1)).bind fun x165 =>
    (ldI σ164 a0 (i3 + 2)).bind fun x166 =>
    (ldI σ164 a0 (i3 + 3)).bind fun x167 =>
    bd (f_X6_move σ164 a2 x165 x166 x167) fun x168 σ169 =>
    if x163 = x168 then (
      k10 σ169
      ) else
    none
    ) else
  if x9 = 14 then (
    (ldI σ a0 (i3 + 1)).bind fun x170 =>
    (ldI σ a0 (i3 + 2)).bind fun x171 =>
    bd (f_X5_compare σ a1 x170 x171) fun x172 σ173 =>
    (ldI σ173 a0 (i3 + 1)).bind fun x174 =>
    (ldI σ173 a0 (i3 + 2)).bind fun x175 =>
    (f_X6_compare σ173 a2 x174 x175).bind fun x176 =>
    if x172 = x176 then (
      k10 σ173
      ) else
    none
    ) else
  if x9 = 15 then (
    (ldI σ a0 (i3 + 1)).bind fun x177 =>
    (f_X5_sign σ a1 x177).bind fun x178 =>
    (ldI σ a0 (i3 + 1)).bind fun x179 =>
    (f_X6_sign σ a2 x179).bind fun x180 =>
    if x178 = x180 then (
      k10 σ
      ) else
    none
    ) else
  if x9 = 16 then (
    (ldI σ a0 (i3 + 1)).bind fun x181 =>
    (f_X5_precision σ a1 x181).bind fun x182 =>
    (ldI σ a0 (i3 + 1)).bind fun x183 =>
    (f_X6_precision σ a2 x183).bind fun x184 =>
    if x182 = x184 then (
      k10 σ
      ) else
    none
    ) else
  if x9 = 17 then (
    (ldI σ a0 (i3 + 1)).bind fun x185 =>
    (f_X5_scale σ a1 x185).bind fun x186 =>
    (ldI σ a0 (i3 + 1)).bind fun x187 =>
    (f_X6_scale σ a2 x187).bind fun x188 =>
    if x186 = x188 then (
      k10 σ
      ) else
    none
    ) else
  if x9 = 18 then (
    (ldI σ a0 (i3 + 1)).bind fun x189 =>
    (ldI σ a0 (i3 + 2)).bind fun x190 =>
    (f_X5_digit σ a1 x189 x190).bind fun x191 =>
    (ldI σ a0 (i3 + 1)).bind fun x192 =>
    (ldI σ a0 (i3 + 2)).bind fun x193 =>
    (f_X6_digit σ a2 x192 x193).bind fun x194 =>
    if x191 = x194 then (
      k10 σ
      ) else
    none
    ) else
  if x9 = 19 then (
    (ldI σ a0 (i3 + 1)).bind fun x195 =>
    (ldI σ a0 (i3 + 2)).bind fun x196 =>
    bd (f_X5_type σ a1 ((((x195 : Int32).toInt64) <<< ((32 : Int32).toInt64 &&& 63)) ||| (((x196 : Int32).toInt64) &&& 4294967295))) fun x197 σ198 =>
    (ldI σ198 a0 (i3 + 1)).bind fun x199 =>
    (ldI σ198 a0 (i3 + 2)).bind fun x200 =>
    bd (f_X6_type σ198 a2 ((((x199 : Int32).toInt64) <<< ((32 : Int32).toInt64 &&& 63)) ||| (((x200 : Int32).toInt64) &&& 4294967295))) fun x201 σ202 =>
    if x197 = x201 then (
      k10 σ202
      ) else
    none
    ) else
  if x9 = 20 then (
    (ldI σ a0 (i3 + 1)).bind fun x203 =>
    bd (f_X5_read σ a1 x203) fun x204 σ205 =>
    (ldI σ205 a0 (i3 + 1)).bind fun x206 =>
    bd (f_X6_read σ205 a2 x206) fun x207 σ208 =>
    if x204 = x207 then (
      k10 σ208
      ) else
    none
    ) else
  if x9 = 21 then (
    (ldI σ a0 (i3 + 1)).bind fun x209 =>
    (ldI σ a0 (i3 + 2)).bind fun x210 =>
    bd (f_X5_write σ a1 x209 x210) fun x211 σ212 =>
    (ldI σ212 a0 (i3 + 1)).bind fun x213 =>
    (ldI σ212 a0 (i3 + 2)).bind fun x214 =>
    bd (f_X6_write σ212 a2 x213 x214) fun x215 σ216 =>
    if x211 = x215 then (
      k10 σ216
      ) else
    none
    ) else
  if x9 = 22 then (
    (ldI σ a0 (i3 + 1)).bind fun x217 =>
    (f_X5_characterAt σ a1 x217).bind fun x218 =>
    (ldI σ a0 (i3 + 1)).bind fun x219 =>
    (f_X6_characterAt σ a2 x219).bind fun x220 =>
    if x218 = x220 then (
      k10 σ
      ) else
    none
    ) else
  k10 σ
noncomputable def f_L_law_L18 : Nat → St → Nat → Nat → Nat → Int32 → Rs (Unit)
  | 0, _, _, _, _, _ => none
  | n + 1, σ, a0, a1, a2, i3 => b_L_law_L18 (f_L_law_L18 n) σ a0 a1 a2 i3
noncomputable def f_L_law (σ : St) (a0 : Nat) : Rs Int32 :=
  nw σ (.inr (.inl (5, [.null, .null, .null, .null, .null, .null, .null, .null]))) 8 fun r1 σ2 =>
  bd (f_X5_init σ2 r1) fun _ σ3 =>
  nw σ3 (.inr (.inl (6, [.null, .null, .null, .null, .null, .null, .int 0, .int 0, .null, .int 0, .null]))) 11 fun r4 σ5 =>
  bd (f_X6_init σ5 r4) fun _ σ6 =>
  bd (f_L_law_L18 FU σ6 a0 r1 r4 0) fun y221 σ222 =>
  (isB 1).bind fun _ => some (1, σ222, 0, 0)
