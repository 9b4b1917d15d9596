def f_X6_length  (m : Sg)  : Option (Int32 × Sg) :=
  some (m.1 10 2, m)
set_option maxRecDepth 4000 in
theorem c_X6_length {g : Cf} {m mm : Sg} {r : Int32} (hm : f_X6_length  m  = some (r, mm)) : Cl g 0 yX6_length cX6_length 1 (some .int) [.ref (g.ad 10)] m (some (.int r)) mm := by
  refine cl_of (by decide) (Nat.le_of_ble_eq_true rfl) (vs := [some (.ref (g.ad 10))]) rfl rfl ?_
  show GX g 0 RX6 cX6_length 1 (some .int) (some (.int r)) mm 0 _ [] m
  unfold f_X6_length at hm
  refine g_aloadn_0 dX6_length_0 ?_
  refine g_geti fo_6_2 pn_10 pc_10 rfl dX6_length_1 ?_
  exact g_iret hm dX6_length_4
def f_X6_codeAt  (m : Sg) (a1 : Int32) : Option (Int32 × Sg) :=
  (if a1 < 0 then some (0, m) else
  (if 240 ≤ a1 then some (0, m) else
  if inr a1 240 = true then some (m.1 12 a1.toNatClampNeg, m) else none))
set_option maxRecDepth 4000 in
theorem c_X6_codeAt {g : Cf} {m mm : Sg} {r : Int32} {a1 : Int32} (hm : f_X6_codeAt  m a1 = some (r, mm)) : Cl g 0 yX6_codeAt cX6_codeAt 2 (some .int) [.ref (g.ad 10), .int a1] m (some (.int r)) mm := by
  refine cl_of (by decide) (Nat.le_of_ble_eq_true rfl) (vs := [some (.ref (g.ad 10)), some (.int a1)]) rfl rfl ?_
  show GX g 0 RX6 cX6_codeAt 2 (some .int) (some (.int r)) mm 0 _ [] m
  unfold f_X6_codeAt at hm
  refine g_iloadn_1 dX6_codeAt_0 ?_
  refine g_if_lt 22 hm dX6_codeAt_1 (by decide) (fun hm => ?_) (fun hm => ?_)
  · refine g_iconst 0 dX6_codeAt_22 rfl ?_
    exact g_iret hm dX6_codeAt_23
  · refine g_iloadn_1 dX6_codeAt_4 ?_
    refine g_aloadn_0 dX6_codeAt_5 ?_
    refine g_getr (q := 12) fo_6_1 pn_10 pc_10 rfl rfl dX6_codeAt_6 ?_
    refine g_alen (ty := .int) 240 ar_12.1 ar_12.2 rfl rfl dX6_codeAt_9 ?_
    refine g_icmp_ge 22 hm dX6_codeAt_10 (by decide) (fun hm => ?_) (fun hm => ?_)
    · refine g_iconst 0 dX6_codeAt_22 rfl ?_
      exact g_iret hm dX6_codeAt_23
    · refine g_aloadn_0 dX6_codeAt_13 ?_
      refine g_getr (q := 12) fo_6_1 pn_10 pc_10 rfl rfl dX6_codeAt_14 ?_
      refine g_iloadn_1 dX6_codeAt_17 ?_
      refine g_iaload hm ar_12.1 ar_12.2 dX6_codeAt_18 (fun hm => ?_)
      refine g_goto 23 dX6_codeAt_19 (by decide) ?_
      exact g_iret hm dX6_codeAt_23
def f_X6_write  (m : Sg) (a1 : Int32) : Option (Sg) :=
  (if 240 ≤ (m.1 10 2) then some m else
  if inr (m.1 10 2) 240 = true then bnd (wr m 12 (m.1 10 2).toNatClampNeg a1) (fun m1 => bnd (wr m1 10 2 ((m1.1 10 2) + 1)) (fun m2 => some m2)) else none)
set_option maxRecDepth 4000 in
theorem c_X6_write {g : Cf} {m mm : Sg} {a1 : Int32} (hm : f_X6_write  m a1 = some mm) : Cl g 0 yX6_write cX6_write 2 none [.ref (g.ad 10), .int a1] m none mm := by
  refine cl_of (by decide) (Nat.le_of_ble_eq_true rfl) (vs := [some (.ref (g.ad 10)), some (.int a1)]) rfl rfl ?_
  show GX g 0 RX6 cX6_write 2 none none mm 0 _ [] m
  unfold f_X6_write at hm
  refine g_aloadn_0 dX6_write_0 ?_
  refine g_geti fo_6_2 pn_10 pc_10 rfl dX6_write_1 ?_
  refine g_aloadn_0 dX6_write_4 ?_
  refine g_getr (q := 12) fo_6_1 pn_10 pc_10 rfl rfl dX6_write_5 ?_
  refine g_alen (ty := .int) 240 ar_12.1 ar_12.2 rfl rfl dX6_write_8 ?_
  refine g_icmp_ge 32 hm dX6_write_9 (by decide) (fun hm => ?_) (fun hm => ?_)
  · exact g_vret hm dX6_write_32
  · refine g_aloadn_0 dX6_write_12 ?_
    refine g_getr (q := 12) fo_6_1 pn_10 pc_10 rfl rfl dX6_write_13 ?_
    refine g_aloadn_0 dX6_write_16 ?_
    refine g_geti fo_6_2 pn_10 pc_10 rfl dX6_write_17 ?_
    refine g_iloadn_1 dX6_write_20 ?_
    refine g_iastore hm ar_12.1 ar_12.2 dX6_write_21 (fun m1 hm => ?_)
    refine g_aloadn_0 dX6_write_22 ?_
    refine g_dup dX6_write_23 rfl ?_
    refine g_geti fo_6_2 pn_10 pc_10 rfl dX6_write_24 ?_
    refine g_iconst 1 dX6_write_27 rfl ?_
    refine g_iadd dX6_write_28 ?_
    refine g_put hm fo_6_2 fp_6_2 pn_10 pc_10 rfl dX6_write_29 (fun m2 hm => ?_)
    exact g_vret hm dX6_write_32
def f_X6_writeSign  (m : Sg) (a1 : Int32) : Option (Sg) :=
  calv (f_X6_write m (10000 + a1)) (fun m1 => some m1)
set_option maxRecDepth 4000 in
theorem c_X6_writeSign {g : Cf} {m mm : Sg} {a1 : Int32} (hm : f_X6_writeSign  m a1 = some mm) : Cl g 1 yX6_writeSign cX6_writeSign 2 none [.ref (g.ad 10), .int a1] m none mm := by
  refine cl_of (by decide) (Nat.le_of_ble_eq_true rfl) (vs := [some (.ref (g.ad 10)), some (.int a1)]) rfl rfl ?_
  show GX g 1 RX6 cX6_writeSign 2 none none mm 0 _ [] m
  unfold f_X6_writeSign at hm
  refine g_aloadn_0 dX6_writeSign_0 ?_
  refine g_sipush 10000 dX6_writeSign_1 rfl ?_
  refine g_iloadn_1 dX6_writeSign_4 ?_
  refine g_iadd dX6_writeSign_5 ?_
  refine g_v1V hm (fun _ h => c_X6_write h) pn_10 (pc_10 _ _) rfl ce_X6_write lk_X6_45 rfl rfl dX6_writeSign_6 (fun m1 hm => ?_)
  exact g_vret hm dX6_writeSign_9
def f_X6_goesDeeper  (m : Sg) (a1 : Int32) : Option (Int32 × Sg) :=
  (if a1 < 6 then calv (f_X2_step 11 m) (fun m1 => some (1, m1)) else
  calv (f_X2_fail 11 m) (fun m2 => some (0, m2)))
set_option maxRecDepth 4000 in
theorem c_X6_goesDeeper {g : Cf} {m mm : Sg} {r : Int32} {a1 : Int32} (hm : f_X6_goesDeeper  m a1 = some (r, mm)) : Cl g 2 yX6_goesDeeper cX6_goesDeeper 2 (some .boolean) [.ref (g.ad 10), .int a1] m (some (.int r)) mm := by
  refine cl_of (by decide) (Nat.le_of_ble_eq_true rfl) (vs := [some (.ref (g.ad 10)), some (.int a1)]) rfl rfl ?_
  show GX g 2 RX6 cX6_goesDeeper 2 (some .boolean) (some (.int r)) mm 0 _ [] m
  unfold f_X6_goesDeeper at hm
  refine g_iloadn_1 dX6_goesDeeper_0 ?_
  refine g_bipush 6 dX6_goesDeeper_1 rfl ?_
  refine g_icmp_lt 15 hm dX6_goesDeeper_3 (by decide) (fun hm => ?_) (fun hm => ?_)
  · refine g_aloadn_0 dX6_goesDeeper_15 ?_
    refine g_getr (q := 11) fo_6_0 pn_10 pc_10 rfl rfl dX6_goesDeeper_16 ?_
    refine g_v0V hm (fun _ h => c_X2_step cur_11 h) pn_11 (pc_11 _ _) rfl ce_X2_step lk_X6_80 rfl rfl dX6_goesDeeper_19 (fun m1 hm => ?_)
    refine g_iconst 1 dX6_goesDeeper_22 rfl ?_
    exact g_zretc hm rfl dX6_goesDeeper_23
  · refine g_aloadn_0 dX6_goesDeeper_6 ?_
    refine g_getr (q := 11) fo_6_0 pn_10 pc_10 rfl rfl dX6_goesDeeper_7 ?_
    refine g_v0V hm (fun _ h => c_X2_fail cur_11 h) pn_11 (pc_11 _ _) rfl ce_X2_fail lk_X6_83 rfl rfl dX6_goesDeeper_10 (fun m2 hm => ?_)
    refine g_iconst 0 dX6_goesDeeper_13 rfl ?_
    exact g_zretc hm rfl dX6_goesDeeper_14
def f_X6_isEither  (m : Sg) (a1 : Int32) (a2 : Int32) : Option (Int32 × Sg) :=
  cal (f_X2_peek 11 m) (fun x2 m1 => bnd (fun (m3 : Sg) => some (1, m3)) (fun (k4 : Sg → Option (Int32 × Sg)) =>
  (if x2 = a1 then k4 m1 else
  (if x2 = a2 then k4 m1 else
  some (0, m1)))))
set_option maxRecDepth 4000 in
theorem c_X6_isEither {g : Cf} {m mm : Sg} {r : Int32} {a1 : Int32} {a2 : Int32} (hm : f_X6_isEither  m a1 a2 = some (r, mm)) : Cl g 2 yX6_isEither cX6_isEither 4 (some .boolean) [.ref (g.ad 10), .int a1, .int a2] m (some (.int r)) mm := by
  refine cl_of (by decide) (Nat.le_of_ble_eq_true rfl) (vs := [some (.ref (g.ad 10)), some (.int a1), some (.int a2), none]) rfl rfl ?_
  show GX g 2 RX6 cX6_isEither 4 (some .boolean) (some (.int r)) mm 0 _ [] m
  unfold f_X6_isEither at hm
  refine g_aloadn_0 dX6_isEither_0 ?_
  refine g_getr (q := 11) fo_6_0 pn_10 pc_10 rfl rfl dX6_isEither_1 ?_
  refine g_v0 hm (fun _ _ h => c_X2_peek cur_11 h) pn_11 (pc_11 _ _) rfl ce_X2_peek lk_X6_69 rfl rfl dX6_isEither_4 (fun x2 m1 hm => ?_)
  refine g_istoren_3 dX6_isEither_7 rfl ?_
  refine g_iloadn_3 dX6_isEither_8 ?_
  refine g_iloadn_1 dX6_isEither_9 ?_
  refine g_jn (J := fun (s : Sg) => GX g 2 RX6 cX6_isEither 4 (some .boolean) (some (.int r)) mm 18 [none, none, none, none] [] s) hm ?_ ?_
  · intro m3 hm
    refine g_iconst 1 dX6_isEither_18 rfl ?_
    refine g_goto 23 dX6_isEither_19 (by decide) ?_
    exact g_zretc hm rfl dX6_isEither_23
  · intro k4 hk4 hm
    refine g_icmp_eq 18 hm dX6_isEither_10 (by decide) (fun hm => ?_) (fun hm => ?_)
    · refine g_weak (vs' := [none, none, none, none]) trivial ?_
      exact hk4 _ hm
    · refine g_iloadn_3 dX6_isEither_13 ?_
      refine g_iloadn_2 dX6_isEither_14 ?_
      refine g_icmp_ne 22 hm dX6_isEither_15 (by decide) (fun hm => ?_) (fun hm => ?_)
      · refine g_iconst 0 dX6_isEither_22 rfl ?_
        exact g_zretc hm rfl dX6_isEither_23
      · refine g_weak (vs' := [none, none, none, none]) trivial ?_
        exact hk4 _ hm
def RH6 (g : Cf) (d : Nat) (R : Nat → Sg → Int32 → Int32 → Option (Int32 × Sg)) : Prop :=
  (∀ {m m1 : Sg} {a b : Int32} {r : Int32}, R 0 m a b = some (r, m1) → Cl g d yX6_readCondition cX6_readCondition 4 (some .boolean) [.ref (g.ad 10), .int a, .int b] m (some (.int r)) m1) ∧
  (∀ {m m1 : Sg} {a b : Int32} {r : Int32}, R 1 m a b = some (r, m1) → Cl g d yX6_readTruth cX6_readTruth 4 (some .boolean) [.ref (g.ad 10), .int a, .int b] m (some (.int r)) m1) ∧
  (∀ {m m1 : Sg} {a b : Int32} {r : Int32}, R 2 m a b = some (r, m1) → Cl g d yX6_readUnit cX6_readUnit 5 (some .boolean) [.ref (g.ad 10), .int a, .int b] m (some (.int r)) m1) ∧
  (∀ {m m1 : Sg} {a b : Int32}, rv (R 3 m a b) = some m1 → Cl g d yX6_readInnerUnit cX6_readInnerUnit 3 none [.ref (g.ad 10), .int a, .int b] m none m1) ∧
  (∀ {m m1 : Sg} {a : Int32}, rv (R 4 m a 0) = some m1 → Cl g d yX6_readSum cX6_readSum 4 none [.ref (g.ad 10), .int a] m none m1) ∧
  (∀ {m m1 : Sg} {a : Int32}, rv (R 5 m a 0) = some m1 → Cl g d yX6_readTerm cX6_readTerm 4 none [.ref (g.ad 10), .int a] m none m1) ∧
  (∀ {m m1 : Sg} {a : Int32}, rv (R 6 m a 0) = some m1 → Cl g d yX6_readAtom cX6_readAtom 3 none [.ref (g.ad 10), .int a] m none m1)
def f_X6_readCondition_L13 (R : Nat → Sg → Int32 → Int32 → Option (Int32 × Sg)) (a1 : Int32) : (Sg × Int32) → Option (((Sg)) ⊕ (Sg × Int32)) := fun s => match s with
  | (m3, x4) => 
  (if 240 ≤ x4 then some (.inl m3) else
  cal (f_X2_takes 11 m3 124) (fun x9 m8 => (if x9 = 0 then some (.inl m8) else
  cal (R 1 m8 a1 0) (fun x11 m10 => calv (f_X6_writeSign m10 124) (fun m12 => bnd (x4 + 1) (fun x13 => some (.inr (m12, x13))))))))
def f_X6_readCondition (R : Nat → Sg → Int32 → Int32 → Option (Int32 × Sg))  (m : Sg) (a1 : Int32) (a2 : Int32) : Option (Int32 × Sg) :=
  cal (R 1 m a1 a2) (fun x2 m1 => (if x2 = 0 then some (0, m1) else
  lpk (f_X6_readCondition_L13 R a1) (m1, 0) (fun m5 => some (1, m5))))
set_option maxRecDepth 4000 in
theorem c_X6_readCondition {g : Cf} {m mm : Sg} {r : Int32} {a1 : Int32} {a2 : Int32} {R : Nat → Sg → Int32 → Int32 → Option (Int32 × Sg)} {d : Nat} (hb : 9 ≤ d) (hR : RH6 g d R) (HX : XOK g) (hm : f_X6_readCondition R  m a1 a2 = some (r, mm)) : Cl g (d + 1) yX6_readCondition cX6_readCondition 4 (some .boolean) [.ref (g.ad 10), .int a1, .int a2] m (some (.int r)) mm := by
  refine cl_of (by decide) (Nat.le_of_ble_eq_true rfl) (vs := [some (.ref (g.ad 10)), some (.int a1), some (.int a2), none]) rfl rfl ?_
  show GX g (d + 1) RX6 cX6_readCondition 4 (some .boolean) (some (.int r)) mm 0 _ [] m
  unfold f_X6_readCondition at hm
  refine g_aloadn_0 dX6_readCondition_0 ?_
  refine g_iloadn_1 dX6_readCondition_1 ?_
  refine g_iloadn_2 dX6_readCondition_2 ?_
  refine g_v2 hm (fun _ _ h => hR.2.1 h) pn_10 (pc_10 _ _) rfl ce_X6_readTruth lk_X6_63 bl_self rfl dX6_readCondition_3 (fun x2 m1 hm => ?_)
  refine g_if_ne 11 hm dX6_readCondition_6 (by decide) (fun hm => ?_) (fun hm => ?_)
  · refine g_iconst 0 dX6_readCondition_11 rfl ?_
    refine g_istoren_3 dX6_readCondition_12 rfl ?_
    refine g_weak (vs' := [some (.ref (g.ad 10)), some (.int a1), none, some (.int 0)]) ⟨rfl, ⟨rfl, ⟨rfl, trivial⟩⟩⟩ ?_
    refine g_lp (I := fun (s : Sg × Int32) => GX g (d + 1) RX6 cX6_readCondition 4 (some .boolean) (some (.int r)) mm 13 [some (.ref (g.ad 10)), some (.int a1), none, some (.int (s.2))] [] s.1) (E := fun (s : Sg) => GX g (d + 1) RX6 cX6_readCondition 4 (some .boolean) (some (.int r)) mm 51 [none, none, none, none] [] s) hm ?_ ?_
    · rintro m5 hm
      (try dsimp only at hm)
      (try dsimp only)
      refine g_iconst 1 dX6_readCondition_51 rfl ?_
      exact g_zretc hm rfl dX6_readCondition_52
    · rintro ⟨m3, x4⟩ o hm hx7 hi6
      (try dsimp only [f_X6_readCondition_L13] at hm)
      (try dsimp only)
      refine g_iloadn_3 dX6_readCondition_13 ?_
      refine g_sipush 240 dX6_readCondition_14 rfl ?_
      refine g_icmp_ge 51 hm dX6_readCondition_17 (by decide) (fun hm => ?_) (fun hm => ?_)
      · refine g_weak (vs' := [none, none, none, none]) trivial ?_
        cases hm
        exact hx7 _ rfl
      · refine g_aloadn_0 dX6_readCondition_20 ?_
        refine g_getr (q := 11) fo_6_0 pn_10 pc_10 rfl rfl dX6_readCondition_21 ?_
        refine g_bipush 124 dX6_readCondition_24 rfl ?_
        refine g_v1 hm (fun _ _ h => c_X2_takes cur_11 h) pn_11 (pc_11 _ _) rfl ce_X2_takes lk_X6_34 (bl_of (by omega)) rfl dX6_readCondition_26 (fun x9 m8 hm => ?_)
        refine g_if_eq 51 hm dX6_readCondition_29 (by decide) (fun hm => ?_) (fun hm => ?_)
        · refine g_weak (vs' := [none, none, none, none]) trivial ?_
          cases hm
          exact hx7 _ rfl
        · refine g_aloadn_0 dX6_readCondition_32 ?_
          refine g_iloadn_1 dX6_readCondition_33 ?_
          refine g_iconst 0 dX6_readCondition_34 rfl ?_
          refine g_v2 hm (fun _ _ h => hR.2.1 h) pn_10 (pc_10 _ _) rfl ce_X6_readTruth lk_X6_63 bl_self rfl dX6_readCondition_35 (fun x11 m10 hm => ?_)
          refine g_pop dX6_readCondition_38 rfl ?_
          refine g_aloadn_0 dX6_readCondition_39 ?_
          refine g_bipush 124 dX6_readCondition_40 rfl ?_
          refine g_v1V hm (fun _ h => c_X6_writeSign h) pn_10 (pc_10 _ _) rfl ce_X6_writeSign lk_X6_57 (bl_of (by omega)) rfl dX6_readCondition_42 (fun m12 hm => ?_)
          refine g_iinc_3 1 hm dX6_readCondition_45 rfl rfl (fun x13 hm => ?_)
          refine g_goto 13 dX6_readCondition_48 (by decide) ?_
          cases hm
          exact hi6 _ rfl
  · refine g_iconst 0 dX6_readCondition_9 rfl ?_
    exact g_zretc hm rfl dX6_readCondition_10
def f_X6_readTruth_L13 (R : Nat → Sg → Int32 → Int32 → Option (Int32 × Sg)) (a1 : Int32) : (Sg × Int32) → Option (((Sg)) ⊕ (Sg × Int32)) := fun s => match s with
  | (m3, x4) => 
  (if 240 ≤ x4 then some (.inl m3) else
  cal (f_X2_takes 11 m3 38) (fun x9 m8 => (if x9 = 0 then some (.inl m8) else
  cal (R 2 m8 a1 0) (fun x11 m10 => calv (f_X6_writeSign m10 38) (fun m12 => bnd (x4 + 1) (fun x13 => some (.inr (m12, x13))))))))
def f_X6_readTruth (R : Nat → Sg → Int32 → Int32 → Option (Int32 × Sg))  (m : Sg) (a1 : Int32) (a2 : Int32) : Option (Int32 × Sg) :=
  cal (R 2 m a1 a2) (fun x2 m1 => (if x2 = 0 then some (0, m1) else
  lpk (f_X6_readTruth_L13 R a1) (m1, 0) (fun m5 => some (1, m5))))
set_option maxRecDepth 4000 in
theorem c_X6_readTruth {g : Cf} {m mm : Sg} {r : Int32} {a1 : Int32} {a2 : Int32} {R : Nat → Sg → Int32 → Int32 → Option (Int32 × Sg)} {d : Nat} (hb : 9 ≤ d) (hR : RH6 g d R) (HX : XOK g) (hm : f_X6_readTruth R  m a1 a2 = some (r, mm)) : Cl g (d + 1) yX6_readTruth cX6_readTruth 4 (some .boolean) [.ref (g.ad 10), .int a1, .int a2] m (some (.int r)) mm := by
  refine cl_of (by decide) (Nat.le_of_ble_eq_true rfl) (vs := [some (.ref (g.ad 10)), some (.int a1), some (.int a2), none]) rfl rfl ?_
  show GX g (d + 1) RX6 cX6_readTruth 4 (some .boolean) (some (.int r)) mm 0 _ [] m
  unfold f_X6_readTruth at hm
  refine g_aloadn_0 dX6_readTruth_0 ?_
  refine g_iloadn_1 dX6_readTruth_1 ?_
  refine g_iloadn_2 dX6_readTruth_2 ?_
  refine g_v2 hm (fun _ _ h => hR.2.2.1 h) pn_10 (pc_10 _ _) rfl ce_X6_readUnit lk_X6_66 bl_self rfl dX6_readTruth_3 (fun x2 m1 hm => ?_)
  refine g_if_ne 11 hm dX6_readTruth_6 (by decide) (fun hm => ?_) (fun hm => ?_)
  · refine g_iconst 0 dX6_readTruth_11 rfl ?_
    refine g_istoren_3 dX6_readTruth_12 rfl ?_
    refine g_weak (vs' := [some (.ref (g.ad 10)), some (.int a1), none, some (.int 0)]) ⟨rfl, ⟨rfl, ⟨rfl, trivial⟩⟩⟩ ?_
    refine g_lp (I := fun (s : Sg × Int32) => GX g (d + 1) RX6 cX6_readTruth 4 (some .boolean) (some (.int r)) mm 13 [some (.ref (g.ad 10)), some (.int a1), none, some (.int (s.2))] [] s.1) (E := fun (s : Sg) => GX g (d + 1) RX6 cX6_readTruth 4 (some .boolean) (some (.int r)) mm 51 [none, none, none, none] [] s) hm ?_ ?_
    · rintro m5 hm
      (try dsimp only at hm)
      (try dsimp only)
      refine g_iconst 1 dX6_readTruth_51 rfl ?_
      exact g_zretc hm rfl dX6_readTruth_52
    · rintro ⟨m3, x4⟩ o hm hx7 hi6
      (try dsimp only [f_X6_readTruth_L13] at hm)
      (try dsimp only)
      refine g_iloadn_3 dX6_readTruth_13 ?_
      refine g_sipush 240 dX6_readTruth_14 rfl ?_
      refine g_icmp_ge 51 hm dX6_readTruth_17 (by decide) (fun hm => ?_) (fun hm => ?_)
      · refine g_weak (vs' := [none, none, none, none]) trivial ?_
        cases hm
        exact hx7 _ rfl
      · refine g_aloadn_0 dX6_readTruth_20 ?_
        refine g_getr (q := 11) fo_6_0 pn_10 pc_10 rfl rfl dX6_readTruth_21 ?_
        refine g_bipush 38 dX6_readTruth_24 rfl ?_
        refine g_v1 hm (fun _ _ h => c_X2_takes cur_11 h) pn_11 (pc_11 _ _) rfl ce_X2_takes lk_X6_34 (bl_of (by omega)) rfl dX6_readTruth_26 (fun x9 m8 hm => ?_)
        refine g_if_eq 51 hm dX6_readTruth_29 (by decide) (fun hm => ?_) (fun hm => ?_)
        · refine g_weak (vs' := [none, none, none, none]) trivial ?_
          cases hm
          exact hx7 _ rfl
        · refine g_aloadn_0 dX6_readTruth_32 ?_
          refine g_iloadn_1 dX6_readTruth_33 ?_
          refine g_iconst 0 dX6_readTruth_34 rfl ?_
          refine g_v2 hm (fun _ _ h => hR.2.2.1 h) pn_10 (pc_10 _ _) rfl ce_X6_readUnit lk_X6_66 bl_self rfl dX6_readTruth_35 (fun x11 m10 hm => ?_)
          refine g_pop dX6_readTruth_38 rfl ?_
          refine g_aloadn_0 dX6_readTruth_39 ?_
          refine g_bipush 38 dX6_readTruth_40 rfl ?_
          refine g_v1V hm (fun _ h => c_X6_writeSign h) pn_10 (pc_10 _ _) rfl ce_X6_writeSign lk_X6_57 (bl_of (by omega)) rfl dX6_readTruth_42 (fun m12 hm => ?_)
          refine g_iinc_3 1 hm dX6_readTruth_45 rfl rfl (fun x13 hm => ?_)
          refine g_goto 13 dX6_readTruth_48 (by decide) ?_
          cases hm
          exact hi6 _ rfl
  · refine g_iconst 0 dX6_readTruth_9 rfl ?_
    exact g_zretc hm rfl dX6_readTruth_10
def f_X6_readUnit (R : Nat → Sg → Int32 → Int32 → Option (Int32 × Sg))  (m : Sg) (a1 : Int32) (a2 : Int32) : Option (Int32 × Sg) :=
  cal (f_X2_peek 11 m) (fun x2 m1 => bnd (fun (m3 : Sg) => cal (f_X6_goesDeeper m3 a1) (fun x6 m5 => (if x6 = 0 then some (1, m5) else
  calv (rv (R 3 m5 (a1 + 1) x2)) (fun m7 => some (1, m7))))) (fun (k4 : Sg → Option (Int32 × Sg)) =>
  (if x2 = 33 then k4 m1 else
  (if x2 = 40 then k4 m1 else
  calv (rv (R 4 m1 a1 0)) (fun m8 => cal (f_X2_peek 11 m8) (fun x10 m9 => bnd (fun (m11 : Sg) => calv (f_X2_step 11 m11) (fun m13 => calv (rv (R 4 m13 a1 0)) (fun m14 => calv (f_X6_writeSign m14 x10) (fun m15 => some (1, m15))))) (fun (k12 : Sg → Option (Int32 × Sg)) =>
  (if x10 = 61 then k12 m9 else
  (if x10 = 60 then k12 m9 else
  (if x10 = 62 then k12 m9 else
  (if a2 = 0 then calv (f_X2_fail 11 m9) (fun m16 => some (0, m16)) else
  some (0, m9))))))))))))
set_option maxRecDepth 4000 in
theorem c_X6_readUnit {g : Cf} {m mm : Sg} {r : Int32} {a1 : Int32} {a2 : Int32} {R : Nat → Sg → Int32 → Int32 → Option (Int32 × Sg)} {d : Nat} (hb : 9 ≤ d) (hR : RH6 g d R) (HX : XOK g) (hm : f_X6_readUnit R  m a1 a2 = some (r, mm)) : Cl g (d + 1) yX6_readUnit cX6_readUnit 5 (some .boolean) [.ref (g.ad 10), .int a1, .int a2] m (some (.int r)) mm := by
  refine cl_of (by decide) (Nat.le_of_ble_eq_true rfl) (vs := [some (.ref (g.ad 10)), some (.int a1), some (.int a2), none, none]) rfl rfl ?_
  show GX g (d + 1) RX6 cX6_readUnit 5 (some .boolean) (some (.int r)) mm 0 _ [] m
  unfold f_X6_readUnit at hm
  refine g_aloadn_0 dX6_readUnit_0 ?_
  refine g_getr (q := 11) fo_6_0 pn_10 pc_10 rfl rfl dX6_readUnit_1 ?_
  refine g_v0 hm (fun _ _ h => c_X2_peek cur_11 h) pn_11 (pc_11 _ _) rfl ce_X2_peek lk_X6_69 (bl_of (by omega)) rfl dX6_readUnit_4 (fun x2 m1 hm => ?_)
  refine g_istoren_3 dX6_readUnit_7 rfl ?_
  refine g_iloadn_3 dX6_readUnit_8 ?_
  refine g_bipush 33 dX6_readUnit_9 rfl ?_
  refine g_jn (J := fun (s : Sg) => GX g (d + 1) RX6 cX6_readUnit 5 (some .boolean) (some (.int r)) mm 20 [some (.ref (g.ad 10)), some (.int a1), none, some (.int x2), none] [] s) hm ?_ ?_
  · intro m3 hm
    refine g_aloadn_0 dX6_readUnit_20 ?_
    refine g_iloadn_1 dX6_readUnit_21 ?_
    refine g_v1 hm (fun _ _ h => c_X6_goesDeeper h) pn_10 (pc_10 _ _) rfl ce_X6_goesDeeper lk_X6_72 (bl_of (by omega)) rfl dX6_readUnit_22 (fun x6 m5 hm => ?_)
    refine g_if_eq 36 hm dX6_readUnit_25 (by decide) (fun hm => ?_) (fun hm => ?_)
    · refine g_iconst 1 dX6_readUnit_36 rfl ?_
      exact g_zretc hm rfl dX6_readUnit_37
    · refine g_aloadn_0 dX6_readUnit_28 ?_
      refine g_iloadn_1 dX6_readUnit_29 ?_
      refine g_iconst 1 dX6_readUnit_30 rfl ?_
      refine g_iadd dX6_readUnit_31 ?_
      refine g_iloadn_3 dX6_readUnit_32 ?_
      refine g_v2V hm (fun _ h => hR.2.2.2.1 h) pn_10 (pc_10 _ _) rfl ce_X6_readInnerUnit lk_X6_76 bl_self rfl dX6_readUnit_33 (fun m7 hm => ?_)
      refine g_iconst 1 dX6_readUnit_36 rfl ?_
      exact g_zretc hm rfl dX6_readUnit_37
  · intro k4 hk4 hm
    refine g_icmp_eq 20 hm dX6_readUnit_11 (by decide) (fun hm => ?_) (fun hm => ?_)
    · refine g_weak (vs' := [some (.ref (g.ad 10)), some (.int a1), none, some (.int x2), none]) ⟨rfl, ⟨rfl, ⟨rfl, trivial⟩⟩⟩ ?_
      exact hk4 _ hm
    · refine g_iloadn_3 dX6_readUnit_14 ?_
      refine g_bipush 40 dX6_readUnit_15 rfl ?_
      refine g_icmp_ne 38 hm dX6_readUnit_17 (by decide) (fun hm => ?_) (fun hm => ?_)
      · refine g_aloadn_0 dX6_readUnit_38 ?_
        refine g_iloadn_1 dX6_readUnit_39 ?_
        refine g_v1V hm (fun _ h => hR.2.2.2.2.1 h) pn_10 (pc_10 _ _) rfl ce_X6_readSum lk_X6_60 bl_self rfl dX6_readUnit_40 (fun m8 hm => ?_)
        refine g_aloadn_0 dX6_readUnit_43 ?_
        refine g_getr (q := 11) fo_6_0 pn_10 pc_10 rfl rfl dX6_readUnit_44 ?_
        refine g_v0 hm (fun _ _ h => c_X2_peek cur_11 h) pn_11 (pc_11 _ _) rfl ce_X2_peek lk_X6_69 (bl_of (by omega)) rfl dX6_readUnit_47 (fun x10 m9 hm => ?_)
        refine g_istore_4 dX6_readUnit_50 rfl ?_
        refine g_iload_4 dX6_readUnit_52 ?_
        refine g_bipush 61 dX6_readUnit_54 rfl ?_
        refine g_jn (J := fun (s : Sg) => GX g (d + 1) RX6 cX6_readUnit 5 (some .boolean) (some (.int r)) mm 73 [some (.ref (g.ad 10)), some (.int a1), none, none, some (.int x10)] [] s) hm ?_ ?_
        · intro m11 hm
          refine g_aloadn_0 dX6_readUnit_73 ?_
          refine g_getr (q := 11) fo_6_0 pn_10 pc_10 rfl rfl dX6_readUnit_74 ?_
          refine g_v0V hm (fun _ h => c_X2_step cur_11 h) pn_11 (pc_11 _ _) rfl ce_X2_step lk_X6_80 (bl_of (by omega)) rfl dX6_readUnit_77 (fun m13 hm => ?_)
          refine g_aloadn_0 dX6_readUnit_80 ?_
          refine g_iloadn_1 dX6_readUnit_81 ?_
          refine g_v1V hm (fun _ h => hR.2.2.2.2.1 h) pn_10 (pc_10 _ _) rfl ce_X6_readSum lk_X6_60 bl_self rfl dX6_readUnit_82 (fun m14 hm => ?_)
          refine g_aloadn_0 dX6_readUnit_85 ?_
          refine g_iload_4 dX6_readUnit_86 ?_
          refine g_v1V hm (fun _ h => c_X6_writeSign h) pn_10 (pc_10 _ _) rfl ce_X6_writeSign lk_X6_57 (bl_of (by omega)) rfl dX6_readUnit_88 (fun m15 hm => ?_)
          refine g_iconst 1 dX6_readUnit_91 rfl ?_
          exact g_zretc hm rfl dX6_readUnit_92
        · intro k12 hk12 hm
          refine g_icmp_eq 73 hm dX6_readUnit_56 (by decide) (fun hm => ?_) (fun hm => ?_)
          · refine g_weak (vs' := [some (.ref (g.ad 10)), some (.int a1), none, none, some (.int x10)]) ⟨rfl, ⟨rfl, ⟨rfl, trivial⟩⟩⟩ ?_
            exact hk12 _ hm
          · refine g_iload_4 dX6_readUnit_59 ?_
            refine g_bipush 60 dX6_readUnit_61 rfl ?_
            refine g_icmp_eq 73 hm dX6_readUnit_63 (by decide) (fun hm => ?_) (fun hm => ?_)
            · refine g_weak (vs' := [some (.ref (g.ad 10)), some (.int a1), none, none, some (.int x10)]) ⟨rfl, ⟨rfl, ⟨rfl, trivial⟩⟩⟩ ?_
              exact hk12 _ hm
            · refine g_iload_4 dX6_readUnit_66 ?_
              refine g_bipush 62 dX6_readUnit_68 rfl ?_
              refine g_icmp_ne 93 hm dX6_readUnit_70 (by decide) (fun hm => ?_) (fun hm => ?_)
              · refine g_iloadn_2 dX6_readUnit_93 ?_
                refine g_if_ne 104 hm dX6_readUnit_94 (by decide) (fun hm => ?_) (fun hm => ?_)
                · refine g_iconst 0 dX6_readUnit_104 rfl ?_
                  exact g_zretc hm rfl dX6_readUnit_105
                · refine g_aloadn_0 dX6_readUnit_97 ?_
                  refine g_getr (q := 11) fo_6_0 pn_10 pc_10 rfl rfl dX6_readUnit_98 ?_
                  refine g_v0V hm (fun _ h => c_X2_fail cur_11 h) pn_11 (pc_11 _ _) rfl ce_X2_fail lk_X6_83 (bl_of (by omega)) rfl dX6_readUnit_101 (fun m16 hm => ?_)
                  refine g_iconst 0 dX6_readUnit_104 rfl ?_
                  exact g_zretc hm rfl dX6_readUnit_105
              · refine g_weak (vs' := [some (.ref (g.ad 10)), some (.int a1), none, none, some (.int x10)]) ⟨rfl, ⟨rfl, ⟨rfl, trivial⟩⟩⟩ ?_
                exact hk12 _ hm
      · refine g_weak (vs' := [some (.ref (g.ad 10)), some (.int a1), none, some (.int x2), none]) ⟨rfl, ⟨rfl, ⟨rfl, trivial⟩⟩⟩ ?_
        exact hk4 _ hm
def f_X6_readInnerUnit (R : Nat → Sg → Int32 → Int32 → Option (Int32 × Sg))  (m : Sg) (a1 : Int32) (a2 : Int32) : Option (Sg) :=
  (if a2 = 33 then cal (R 2 m a1 0) (fun x5 m4 => calv (f_X6_writeSign m4 33) (fun m6 => some m6)) else
  cal (R 0 m a1 0) (fun x2 m1 => calv (f_X2_needs 11 m1 41) (fun m3 => some m3)))
set_option maxRecDepth 4000 in
theorem c_X6_readInnerUnit {g : Cf} {m mm : Sg} {a1 : Int32} {a2 : Int32} {R : Nat → Sg → Int32 → Int32 → Option (Int32 × Sg)} {d : Nat} (hb : 9 ≤ d) (hR : RH6 g d R) (HX : XOK g) (hm : f_X6_readInnerUnit R  m a1 a2 = some mm) : Cl g (d + 1) yX6_readInnerUnit cX6_readInnerUnit 3 none [.ref (g.ad 10), .int a1, .int a2] m none mm := by
  refine cl_of (by decide) (Nat.le_of_ble_eq_true rfl) (vs := [some (.ref (g.ad 10)), some (.int a1), some (.int a2)]) rfl rfl ?_
  show GX g (d + 1) RX6 cX6_readInnerUnit 3 none none mm 0 _ [] m
  unfold f_X6_readInnerUnit at hm
  refine g_iloadn_2 dX6_readInnerUnit_0 ?_
  refine g_bipush 33 dX6_readInnerUnit_1 rfl ?_
  refine g_icmp_ne 22 hm dX6_readInnerUnit_3 (by decide) (fun hm => ?_) (fun hm => ?_)
  · refine g_aloadn_0 dX6_readInnerUnit_22 ?_
    refine g_iloadn_1 dX6_readInnerUnit_23 ?_
    refine g_iconst 0 dX6_readInnerUnit_24 rfl ?_
    refine g_v2 hm (fun _ _ h => hR.1 h) pn_10 (pc_10 _ _) rfl ce_X6_readCondition lk_X6_53 bl_self rfl dX6_readInnerUnit_25 (fun x2 m1 hm => ?_)
    refine g_pop dX6_readInnerUnit_28 rfl ?_
    refine g_aloadn_0 dX6_readInnerUnit_29 ?_
    refine g_getr (q := 11) fo_6_0 pn_10 pc_10 rfl rfl dX6_readInnerUnit_30 ?_
    refine g_bipush 41 dX6_readInnerUnit_33 rfl ?_
    refine g_v1V hm (fun _ h => c_X2_needs cur_11 h) pn_11 (pc_11 _ _) rfl ce_X2_needs lk_X6_49 (bl_of (by omega)) rfl dX6_readInnerUnit_35 (fun m3 hm => ?_)
    exact g_vret hm dX6_readInnerUnit_38
  · refine g_aloadn_0 dX6_readInnerUnit_6 ?_
    refine g_iloadn_1 dX6_readInnerUnit_7 ?_
    refine g_iconst 0 dX6_readInnerUnit_8 rfl ?_
    refine g_v2 hm (fun _ _ h => hR.2.2.1 h) pn_10 (pc_10 _ _) rfl ce_X6_readUnit lk_X6_66 bl_self rfl dX6_readInnerUnit_9 (fun x5 m4 hm => ?_)
    refine g_pop dX6_readInnerUnit_12 rfl ?_
    refine g_aloadn_0 dX6_readInnerUnit_13 ?_
    refine g_bipush 33 dX6_readInnerUnit_14 rfl ?_
    refine g_v1V hm (fun _ h => c_X6_writeSign h) pn_10 (pc_10 _ _) rfl ce_X6_writeSign lk_X6_57 (bl_of (by omega)) rfl dX6_readInnerUnit_16 (fun m6 hm => ?_)
    refine g_goto 38 dX6_readInnerUnit_19 (by decide) ?_
    exact g_vret hm dX6_readInnerUnit_38
def f_X6_readSum_L7 (R : Nat → Sg → Int32 → Int32 → Option (Int32 × Sg)) (a1 : Int32) : (Sg × Int32) → Option (((Sg)) ⊕ (Sg × Int32)) := fun s => match s with
  | (m2, x3) => 
  (if 240 ≤ x3 then some (.inl m2) else
  cal (f_X6_isEither m2 43 45) (fun x8 m7 => (if x8 = 0 then some (.inl m7) else
  cal (f_X2_peek 11 m7) (fun x10 m9 => calv (f_X2_step 11 m9) (fun m11 => calv (rv (R 5 m11 a1 0)) (fun m12 => calv (f_X6_writeSign m12 x10) (fun m13 => bnd (x3 + 1) (fun x14 => some (.inr (m13, x14))))))))))
def f_X6_readSum (R : Nat → Sg → Int32 → Int32 → Option (Int32 × Sg))  (m : Sg) (a1 : Int32) : Option (Sg) :=
  calv (rv (R 5 m a1 0)) (fun m1 => lpk (f_X6_readSum_L7 R a1) (m1, 0) (fun m4 => some m4))
set_option maxRecDepth 4000 in
theorem c_X6_readSum {g : Cf} {m mm : Sg} {a1 : Int32} {R : Nat → Sg → Int32 → Int32 → Option (Int32 × Sg)} {d : Nat} (hb : 9 ≤ d) (hR : RH6 g d R) (HX : XOK g) (hm : f_X6_readSum R  m a1 = some mm) : Cl g (d + 1) yX6_readSum cX6_readSum 4 none [.ref (g.ad 10), .int a1] m none mm := by
  refine cl_of (by decide) (Nat.le_of_ble_eq_true rfl) (vs := [some (.ref (g.ad 10)), some (.int a1), none, none]) rfl rfl ?_
  show GX g (d + 1) RX6 cX6_readSum 4 none none mm 0 _ [] m
  unfold f_X6_readSum at hm
  refine g_aloadn_0 dX6_readSum_0 ?_
  refine g_iloadn_1 dX6_readSum_1 ?_
  refine g_v1V hm (fun _ h => hR.2.2.2.2.2.1 h) pn_10 (pc_10 _ _) rfl ce_X6_readTerm lk_X6_86 bl_self rfl dX6_readSum_2 (fun m1 hm => ?_)
  refine g_iconst 0 dX6_readSum_5 rfl ?_
  refine g_istoren_2 dX6_readSum_6 rfl ?_
  refine g_lp (I := fun (s : Sg × Int32) => GX g (d + 1) RX6 cX6_readSum 4 none none mm 7 [some (.ref (g.ad 10)), some (.int a1), some (.int (s.2)), none] [] s.1) (E := fun (s : Sg) => GX g (d + 1) RX6 cX6_readSum 4 none none mm 56 [none, none, none, none] [] s) hm ?_ ?_
  · rintro m4 hm
    (try dsimp only at hm)
    (try dsimp only)
    exact g_vret hm dX6_readSum_56
  · rintro ⟨m2, x3⟩ o hm hx6 hi5
    (try dsimp only [f_X6_readSum_L7] at hm)
    (try dsimp only)
    refine g_iloadn_2 dX6_readSum_7 ?_
    refine g_sipush 240 dX6_readSum_8 rfl ?_
    refine g_icmp_ge 56 hm dX6_readSum_11 (by decide) (fun hm => ?_) (fun hm => ?_)
    · refine g_weak (vs' := [none, none, none, none]) trivial ?_
      cases hm
      exact hx6 _ rfl
    · refine g_aloadn_0 dX6_readSum_14 ?_
      refine g_bipush 43 dX6_readSum_15 rfl ?_
      refine g_bipush 45 dX6_readSum_17 rfl ?_
      refine g_v2 hm (fun _ _ h => c_X6_isEither h) pn_10 (pc_10 _ _) rfl ce_X6_isEither lk_X6_89 (bl_of (by omega)) rfl dX6_readSum_19 (fun x8 m7 hm => ?_)
      refine g_if_eq 56 hm dX6_readSum_22 (by decide) (fun hm => ?_) (fun hm => ?_)
      · refine g_weak (vs' := [none, none, none, none]) trivial ?_
        cases hm
        exact hx6 _ rfl
      · refine g_aloadn_0 dX6_readSum_25 ?_
        refine g_getr (q := 11) fo_6_0 pn_10 pc_10 rfl rfl dX6_readSum_26 ?_
        refine g_v0 hm (fun _ _ h => c_X2_peek cur_11 h) pn_11 (pc_11 _ _) rfl ce_X2_peek lk_X6_69 (bl_of (by omega)) rfl dX6_readSum_29 (fun x10 m9 hm => ?_)
        refine g_istoren_3 dX6_readSum_32 rfl ?_
        refine g_aloadn_0 dX6_readSum_33 ?_
        refine g_getr (q := 11) fo_6_0 pn_10 pc_10 rfl rfl dX6_readSum_34 ?_
        refine g_v0V hm (fun _ h => c_X2_step cur_11 h) pn_11 (pc_11 _ _) rfl ce_X2_step lk_X6_80 (bl_of (by omega)) rfl dX6_readSum_37 (fun m11 hm => ?_)
        refine g_aloadn_0 dX6_readSum_40 ?_
        refine g_iloadn_1 dX6_readSum_41 ?_
        refine g_v1V hm (fun _ h => hR.2.2.2.2.2.1 h) pn_10 (pc_10 _ _) rfl ce_X6_readTerm lk_X6_86 bl_self rfl dX6_readSum_42 (fun m12 hm => ?_)
        refine g_aloadn_0 dX6_readSum_45 ?_
        refine g_iloadn_3 dX6_readSum_46 ?_
        refine g_v1V hm (fun _ h => c_X6_writeSign h) pn_10 (pc_10 _ _) rfl ce_X6_writeSign lk_X6_57 (bl_of (by omega)) rfl dX6_readSum_47 (fun m13 hm => ?_)
        refine g_iinc_2 1 hm dX6_readSum_50 rfl rfl (fun x14 hm => ?_)
        refine g_goto 7 dX6_readSum_53 (by decide) ?_
        refine g_weak (vs' := [some (.ref (g.ad 10)), some (.int a1), some (.int x14), none]) ⟨rfl, ⟨rfl, ⟨rfl, trivial⟩⟩⟩ ?_
        cases hm
        exact hi5 _ rfl
def f_X6_readTerm_L7 (R : Nat → Sg → Int32 → Int32 → Option (Int32 × Sg)) (a1 : Int32) : (Sg × Int32) → Option (((Sg)) ⊕ (Sg × Int32)) := fun s => match s with
  | (m2, x3) => 
  (if 240 ≤ x3 then some (.inl m2) else
  cal (f_X6_isEither m2 42 47) (fun x8 m7 => (if x8 = 0 then some (.inl m7) else
  cal (f_X2_peek 11 m7) (fun x10 m9 => calv (f_X2_step 11 m9) (fun m11 => calv (rv (R 6 m11 a1 0)) (fun m12 => calv (f_X6_writeSign m12 x10) (fun m13 => bnd (x3 + 1) (fun x14 => some (.inr (m13, x14))))))))))
def f_X6_readTerm (R : Nat → Sg → Int32 → Int32 → Option (Int32 × Sg))  (m : Sg) (a1 : Int32) : Option (Sg) :=
  calv (rv (R 6 m a1 0)) (fun m1 => lpk (f_X6_readTerm_L7 R a1) (m1, 0) (fun m4 => some m4))
set_option maxRecDepth 4000 in
theorem c_X6_readTerm {g : Cf} {m mm : Sg} {a1 : Int32} {R : Nat → Sg → Int32 → Int32 → Option (Int32 × Sg)} {d : Nat} (hb : 9 ≤ d) (hR : RH6 g d R) (HX : XOK g) (hm : f_X6_readTerm R  m a1 = some mm) : Cl g (d + 1) yX6_readTerm cX6_readTerm 4 none [.ref (g.ad 10), .int a1] m none mm := by
  refine cl_of (by decide) (Nat.le_of_ble_eq_true rfl) (vs := [some (.ref (g.ad 10)), some (.int a1), none, none]) rfl rfl ?_
  show GX g (d + 1) RX6 cX6_readTerm 4 none none mm 0 _ [] m
  unfold f_X6_readTerm at hm
  refine g_aloadn_0 dX6_readTerm_0 ?_
  refine g_iloadn_1 dX6_readTerm_1 ?_
  refine g_v1V hm (fun _ h => hR.2.2.2.2.2.2 h) pn_10 (pc_10 _ _) rfl ce_X6_readAtom lk_X6_93 bl_self rfl dX6_readTerm_2 (fun m1 hm => ?_)
  refine g_iconst 0 dX6_readTerm_5 rfl ?_
  refine g_istoren_2 dX6_readTerm_6 rfl ?_
  refine g_lp (I := fun (s : Sg × Int32) => GX g (d + 1) RX6 cX6_readTerm 4 none none mm 7 [some (.ref (g.ad 10)), some (.int a1), some (.int (s.2)), none] [] s.1) (E := fun (s : Sg) => GX g (d + 1) RX6 cX6_readTerm 4 none none mm 56 [none, none, none, none] [] s) hm ?_ ?_
  · rintro m4 hm
    (try dsimp only at hm)
    (try dsimp only)
    exact g_vret hm dX6_readTerm_56
  · rintro ⟨m2, x3⟩ o hm hx6 hi5
    (try dsimp only [f_X6_readTerm_L7] at hm)
    (try dsimp only)
    refine g_iloadn_2 dX6_readTerm_7 ?_
    refine g_sipush 240 dX6_readTerm_8 rfl ?_
    refine g_icmp_ge 56 hm dX6_readTerm_11 (by decide) (fun hm => ?_) (fun hm => ?_)
    · refine g_weak (vs' := [none, none, none, none]) trivial ?_
      cases hm
      exact hx6 _ rfl
    · refine g_aloadn_0 dX6_readTerm_14 ?_
      refine g_bipush 42 dX6_readTerm_15 rfl ?_
      refine g_bipush 47 dX6_readTerm_17 rfl ?_
      refine g_v2 hm (fun _ _ h => c_X6_isEither h) pn_10 (pc_10 _ _) rfl ce_X6_isEither lk_X6_89 (bl_of (by omega)) rfl dX6_readTerm_19 (fun x8 m7 hm => ?_)
      refine g_if_eq 56 hm dX6_readTerm_22 (by decide) (fun hm => ?_) (fun hm => ?_)
      · refine g_weak (vs' := [none, none, none, none]) trivial ?_
        cases hm
        exact hx6 _ rfl
      · refine g_aloadn_0 dX6_readTerm_25 ?_
        refine g_getr (q := 11) fo_6_0 pn_10 pc_10 rfl rfl dX6_readTerm_26 ?_
        refine g_v0 hm (fun _ _ h => c_X2_peek cur_11 h) pn_11 (pc_11 _ _) rfl ce_X2_peek lk_X6_69 (bl_of (by omega)) rfl dX6_readTerm_29 (fun x10 m9 hm => ?_)
        refine g_istoren_3 dX6_readTerm_32 rfl ?_
        refine g_aloadn_0 dX6_readTerm_33 ?_
        refine g_getr (q := 11) fo_6_0 pn_10 pc_10 rfl rfl dX6_readTerm_34 ?_
        refine g_v0V hm (fun _ h => c_X2_step cur_11 h) pn_11 (pc_11 _ _) rfl ce_X2_step lk_X6_80 (bl_of (by omega)) rfl dX6_readTerm_37 (fun m11 hm => ?_)
        refine g_aloadn_0 dX6_readTerm_40 ?_
        refine g_iloadn_1 dX6_readTerm_41 ?_
        refine g_v1V hm (fun _ h => hR.2.2.2.2.2.2 h) pn_10 (pc_10 _ _) rfl ce_X6_readAtom lk_X6_93 bl_self rfl dX6_readTerm_42 (fun m12 hm => ?_)
        refine g_aloadn_0 dX6_readTerm_45 ?_
        refine g_iloadn_3 dX6_readTerm_46 ?_
        refine g_v1V hm (fun _ h => c_X6_writeSign h) pn_10 (pc_10 _ _) rfl ce_X6_writeSign lk_X6_57 (bl_of (by omega)) rfl dX6_readTerm_47 (fun m13 hm => ?_)
        refine g_iinc_2 1 hm dX6_readTerm_50 rfl rfl (fun x14 hm => ?_)
        refine g_goto 7 dX6_readTerm_53 (by decide) ?_
        refine g_weak (vs' := [some (.ref (g.ad 10)), some (.int a1), some (.int x14), none]) ⟨rfl, ⟨rfl, ⟨rfl, trivial⟩⟩⟩ ?_
        cases hm
        exact hi5 _ rfl
def f_X6_readAtom (R : Nat → Sg → Int32 → Int32 → Option (Int32 × Sg))  (m : Sg) (a1 : Int32) : Option (Sg) :=
  cal (f_X2_peek 11 m) (fun x2 m1 => (if x2 = 91 then cal (f_X6_goesDeeper m1 a1) (fun x13 m12 => (if x13 = 0 then some m12 else
  calv (rv (R 4 m12 (a1 + 1) 0)) (fun m14 => calv (f_X2_needs 11 m14 93) (fun m15 => some m15)))) else
  bnd (fun (m3 : Sg) => cal (f_X2_number 11 m3 4) (fun x6 m5 => calv (f_X6_write m5 x6) (fun m7 => some m7))) (fun (k4 : Sg → Option (Sg)) =>
  (if x2 < 0 then k4 m1 else
  cal (f_J0_indexOf_0f7a4 1 m1 (((x2 : Int32).toUInt32 % 65536).toInt32)) (fun x9 m8 => (if x9 < 0 then k4 m8 else
  calv (f_X2_step 11 m8) (fun m10 => calv (f_X6_writeSign m10 x2) (fun m11 => some m11))))))))
set_option maxRecDepth 4000 in
theorem c_X6_readAtom {g : Cf} {m mm : Sg} {a1 : Int32} {R : Nat → Sg → Int32 → Int32 → Option (Int32 × Sg)} {d : Nat} (hb : 9 ≤ d) (hR : RH6 g d R) (HX : XOK g) (hm : f_X6_readAtom R  m a1 = some mm) : Cl g (d + 1) yX6_readAtom cX6_readAtom 3 none [.ref (g.ad 10), .int a1] m none mm := by
  refine cl_of (by decide) (Nat.le_of_ble_eq_true rfl) (vs := [some (.ref (g.ad 10)), some (.int a1), none]) rfl rfl ?_
  show GX g (d + 1) RX6 cX6_readAtom 3 none none mm 0 _ [] m
  unfold f_X6_readAtom at hm
  refine g_aloadn_0 dX6_readAtom_0 ?_
  refine g_getr (q := 11) fo_6_0 pn_10 pc_10 rfl rfl dX6_readAtom_1 ?_
  refine g_v0 hm (fun _ _ h => c_X2_peek cur_11 h) pn_11 (pc_11 _ _) rfl ce_X2_peek lk_X6_69 (bl_of (by omega)) rfl dX6_readAtom_4 (fun x2 m1 hm => ?_)
  refine g_istoren_2 dX6_readAtom_7 rfl ?_
  refine g_iloadn_2 dX6_readAtom_8 ?_
  refine g_bipush 91 dX6_readAtom_9 rfl ?_
  refine g_icmp_ne 41 hm dX6_readAtom_11 (by decide) (fun hm => ?_) (fun hm => ?_)
  · refine g_iloadn_2 dX6_readAtom_41 ?_
    refine g_jn (J := fun (s : Sg) => GX g (d + 1) RX6 cX6_readAtom 3 none none mm 70 [some (.ref (g.ad 10)), none, none] [] s) hm ?_ ?_
    · intro m3 hm
      refine g_aloadn_0 dX6_readAtom_70 ?_
      refine g_aloadn_0 dX6_readAtom_71 ?_
      refine g_getr (q := 11) fo_6_0 pn_10 pc_10 rfl rfl dX6_readAtom_72 ?_
      refine g_iconst 4 dX6_readAtom_75 rfl ?_
      refine g_v1 hm (fun _ _ h => c_X2_number cur_11 h) pn_11 (pc_11 _ _) rfl ce_X2_number lk_X6_104 (bl_of (by omega)) rfl dX6_readAtom_76 (fun x6 m5 hm => ?_)
      refine g_v1V hm (fun _ h => c_X6_write h) pn_10 (pc_10 _ _) rfl ce_X6_write lk_X6_45 (bl_of (by omega)) rfl dX6_readAtom_79 (fun m7 hm => ?_)
      exact g_vret hm dX6_readAtom_82
    · intro k4 hk4 hm
      refine g_if_lt 70 hm dX6_readAtom_42 (by decide) (fun hm => ?_) (fun hm => ?_)
      · refine g_weak (vs' := [some (.ref (g.ad 10)), none, none]) ⟨rfl, trivial⟩ ?_
        exact hk4 _ hm
      · refine g_ldcS (k := 1) (tx := "caknmw") HX (by decide) dX6_readAtom_45 ?_
        refine g_iloadn_2 dX6_readAtom_47 ?_
        refine g_i2c dX6_readAtom_48 ?_
        refine g_w1 hm (fun _ _ h => c_J0_indexOf_0f7a4 HX (by decide) h) HX (by decide) ce_J0_indexOf_0f7a4 lk_X6_98 (bl_of (by omega)) rfl dX6_readAtom_49 (fun x9 m8 hm => ?_)
        refine g_if_lt 70 hm dX6_readAtom_52 (by decide) (fun hm => ?_) (fun hm => ?_)
        · refine g_weak (vs' := [some (.ref (g.ad 10)), none, none]) ⟨rfl, trivial⟩ ?_
          exact hk4 _ hm
        · refine g_aloadn_0 dX6_readAtom_55 ?_
          refine g_getr (q := 11) fo_6_0 pn_10 pc_10 rfl rfl dX6_readAtom_56 ?_
          refine g_v0V hm (fun _ h => c_X2_step cur_11 h) pn_11 (pc_11 _ _) rfl ce_X2_step lk_X6_80 (bl_of (by omega)) rfl dX6_readAtom_59 (fun m10 hm => ?_)
          refine g_aloadn_0 dX6_readAtom_62 ?_
          refine g_iloadn_2 dX6_readAtom_63 ?_
          refine g_v1V hm (fun _ h => c_X6_writeSign h) pn_10 (pc_10 _ _) rfl ce_X6_writeSign lk_X6_57 (bl_of (by omega)) rfl dX6_readAtom_64 (fun m11 hm => ?_)
          refine g_goto 82 dX6_readAtom_67 (by decide) ?_
          exact g_vret hm dX6_readAtom_82
  · refine g_aloadn_0 dX6_readAtom_14 ?_
    refine g_iloadn_1 dX6_readAtom_15 ?_
    refine g_v1 hm (fun _ _ h => c_X6_goesDeeper h) pn_10 (pc_10 _ _) rfl ce_X6_goesDeeper lk_X6_72 (bl_of (by omega)) rfl dX6_readAtom_16 (fun x13 m12 hm => ?_)
    refine g_if_eq 82 hm dX6_readAtom_19 (by decide) (fun hm => ?_) (fun hm => ?_)
    · exact g_vret hm dX6_readAtom_82
    · refine g_aloadn_0 dX6_readAtom_22 ?_
      refine g_iloadn_1 dX6_readAtom_23 ?_
      refine g_iconst 1 dX6_readAtom_24 rfl ?_
      refine g_iadd dX6_readAtom_25 ?_
      refine g_v1V hm (fun _ h => hR.2.2.2.2.1 h) pn_10 (pc_10 _ _) rfl ce_X6_readSum lk_X6_60 bl_self rfl dX6_readAtom_26 (fun m14 hm => ?_)
      refine g_aloadn_0 dX6_readAtom_29 ?_
      refine g_getr (q := 11) fo_6_0 pn_10 pc_10 rfl rfl dX6_readAtom_30 ?_
      refine g_bipush 93 dX6_readAtom_33 rfl ?_
      refine g_v1V hm (fun _ h => c_X2_needs cur_11 h) pn_11 (pc_11 _ _) rfl ce_X2_needs lk_X6_49 (bl_of (by omega)) rfl dX6_readAtom_35 (fun m15 hm => ?_)
      refine g_goto 82 dX6_readAtom_38 (by decide) ?_
      exact g_vret hm dX6_readAtom_82
def rec6 : Nat → Nat → Sg → Int32 → Int32 → Option (Int32 × Sg)
  | 0, _, _, _, _ => none
  | n + 1, 0, m, a, b => f_X6_readCondition (rec6 n) m a b
  | n + 1, 1, m, a, b => f_X6_readTruth (rec6 n) m a b
  | n + 1, 2, m, a, b => f_X6_readUnit (rec6 n) m a b
  | n + 1, 3, m, a, b => ri (f_X6_readInnerUnit (rec6 n) m a b)
  | n + 1, 4, m, a, b => ri (f_X6_readSum (rec6 n) m a)
  | n + 1, 5, m, a, b => ri (f_X6_readTerm (rec6 n) m a)
  | n + 1, 6, m, a, b => ri (f_X6_readAtom (rec6 n) m a)
  | _ + 1, _, _, _, _ => none
set_option maxRecDepth 4000 in
theorem hrec6 {g : Cf} (HX : XOK g) : ∀ n, RH6 g (9 + n) (rec6 n)
  | 0 => ⟨fun h => (by cases h), fun h => (by cases h), fun h => (by cases h), fun h => (by cases h), fun h => (by cases h), fun h => (by cases h), fun h => (by cases h)⟩
  | n + 1 => ⟨fun h => c_X6_readCondition (Nat.le_add_right _ _) (hrec6 HX n) HX h, fun h => c_X6_readTruth (Nat.le_add_right _ _) (hrec6 HX n) HX h, fun h => c_X6_readUnit (Nat.le_add_right _ _) (hrec6 HX n) HX h, fun h => c_X6_readInnerUnit (Nat.le_add_right _ _) (hrec6 HX n) HX (ri_rv h), fun h => c_X6_readSum (Nat.le_add_right _ _) (hrec6 HX n) HX (ri_rv h), fun h => c_X6_readTerm (Nat.le_add_right _ _) (hrec6 HX n) HX (ri_rv h), fun h => c_X6_readAtom (Nat.le_add_right _ _) (hrec6 HX n) HX (ri_rv h)⟩
def f_X6_readClause  (m : Sg)  : Option (Sg) :=
  calv (f_X2_needs 11 m 121) (fun m1 => calv (f_X2_needs 11 m1 58) (fun m2 => cal (rec6 64 0 m2 0 1) (fun x4 m3 => bnd (fun (m5 : Sg) => calv (f_X6_writeSign m5 59) (fun m7 => some m7)) (fun (k6 : Sg → Option (Sg)) =>
  (if x4 = 0 then k6 m3 else
  calv (f_X2_needs 11 m3 63) (fun m8 => calv (f_X6_writeSign m8 63) (fun m9 => calv (rv (rec6 64 4 m9 0 0)) (fun m10 => k6 m10))))))))
set_option maxRecDepth 4000 in
theorem c_X6_readClause {g : Cf} {m mm : Sg} (HX : XOK g) (hm : f_X6_readClause  m  = some mm) : Cl g 74 yX6_readClause cX6_readClause 1 none [.ref (g.ad 10)] m none mm := by
  refine cl_of (by decide) (Nat.le_of_ble_eq_true rfl) (vs := [some (.ref (g.ad 10))]) rfl rfl ?_
  show GX g 74 RX6 cX6_readClause 1 none none mm 0 _ [] m
  unfold f_X6_readClause at hm
  refine g_aloadn_0 dX6_readClause_0 ?_
  refine g_getr (q := 11) fo_6_0 pn_10 pc_10 rfl rfl dX6_readClause_1 ?_
  refine g_bipush 121 dX6_readClause_4 rfl ?_
  refine g_v1V hm (fun _ h => c_X2_needs cur_11 h) pn_11 (pc_11 _ _) rfl ce_X2_needs lk_X6_49 rfl rfl dX6_readClause_6 (fun m1 hm => ?_)
  refine g_aloadn_0 dX6_readClause_9 ?_
  refine g_getr (q := 11) fo_6_0 pn_10 pc_10 rfl rfl dX6_readClause_10 ?_
  refine g_bipush 58 dX6_readClause_13 rfl ?_
  refine g_v1V hm (fun _ h => c_X2_needs cur_11 h) pn_11 (pc_11 _ _) rfl ce_X2_needs lk_X6_49 rfl rfl dX6_readClause_15 (fun m2 hm => ?_)
  refine g_aloadn_0 dX6_readClause_18 ?_
  refine g_iconst 0 dX6_readClause_19 rfl ?_
  refine g_iconst 1 dX6_readClause_20 rfl ?_
  refine g_v2 hm (fun _ _ h => (hrec6 HX 64).1 h) pn_10 (pc_10 _ _) rfl ce_X6_readCondition lk_X6_53 rfl rfl dX6_readClause_21 (fun x4 m3 hm => ?_)
  refine g_jn (J := fun (s : Sg) => GX g 74 RX6 cX6_readClause 1 none none mm 47 [some (.ref (g.ad 10))] [] s) hm ?_ ?_
  · intro m5 hm
    refine g_aloadn_0 dX6_readClause_47 ?_
    refine g_bipush 59 dX6_readClause_48 rfl ?_
    refine g_v1V hm (fun _ h => c_X6_writeSign h) pn_10 (pc_10 _ _) rfl ce_X6_writeSign lk_X6_57 rfl rfl dX6_readClause_50 (fun m7 hm => ?_)
    exact g_vret hm dX6_readClause_53
  · intro k6 hk6 hm
    refine g_if_eq 47 hm dX6_readClause_24 (by decide) (fun hm => ?_) (fun hm => ?_)
    · exact hk6 _ hm
    · refine g_aloadn_0 dX6_readClause_27 ?_
      refine g_getr (q := 11) fo_6_0 pn_10 pc_10 rfl rfl dX6_readClause_28 ?_
      refine g_bipush 63 dX6_readClause_31 rfl ?_
      refine g_v1V hm (fun _ h => c_X2_needs cur_11 h) pn_11 (pc_11 _ _) rfl ce_X2_needs lk_X6_49 rfl rfl dX6_readClause_33 (fun m8 hm => ?_)
      refine g_aloadn_0 dX6_readClause_36 ?_
      refine g_bipush 63 dX6_readClause_37 rfl ?_
      refine g_v1V hm (fun _ h => c_X6_writeSign h) pn_10 (pc_10 _ _) rfl ce_X6_writeSign lk_X6_57 rfl rfl dX6_readClause_39 (fun m9 hm => ?_)
      refine g_aloadn_0 dX6_readClause_42 ?_
      refine g_iconst 0 dX6_readClause_43 rfl ?_
      refine g_v1V hm (fun _ h => (hrec6 HX 64).2.2.2.2.1 h) pn_10 (pc_10 _ _) rfl ce_X6_readSum lk_X6_60 rfl rfl dX6_readClause_44 (fun m10 hm => ?_)
      exact hk6 _ hm
def f_X6_read_L18  : (Sg × Int32) → Option (((Sg)) ⊕ (Sg × Int32)) := fun s => match s with
  | (m4, x5) => 
  (if 240 ≤ x5 then some (.inl m4) else
  cal (f_X2_takes 11 m4 59) (fun x10 m9 => (if x10 = 0 then some (.inl m9) else
  calv (f_X6_readClause m9) (fun m11 => bnd (x5 + 1) (fun x12 => some (.inr (m11, x12)))))))
def f_X6_read  (m : Sg)  : Option (Int32 × Sg) :=
  calv (f_X2_begin 11 m) (fun m1 => bnd (wr m1 10 2 0) (fun m2 => calv (f_X6_readClause m2) (fun m3 => lpk (f_X6_read_L18) (m3, 0) (fun m6 => calv (f_X2_needsEnd 11 m6) (fun m13 => cal (f_X2_wrongAt 11 m13) (fun x15 m14 => some (x15, m14)))))))
set_option maxRecDepth 4000 in
theorem c_X6_read {g : Cf} {m mm : Sg} {r : Int32} (HX : XOK g) (hm : f_X6_read  m  = some (r, mm)) : Cl g 75 yX6_read cX6_read 2 (some .int) [.ref (g.ad 10)] m (some (.int r)) mm := by
  refine cl_of (by decide) (Nat.le_of_ble_eq_true rfl) (vs := [some (.ref (g.ad 10)), none]) rfl rfl ?_
  show GX g 75 RX6 cX6_read 2 (some .int) (some (.int r)) mm 0 _ [] m
  unfold f_X6_read at hm
  refine g_aloadn_0 dX6_read_0 ?_
  refine g_getr (q := 11) fo_6_0 pn_10 pc_10 rfl rfl dX6_read_1 ?_
  refine g_v0V hm (fun _ h => c_X2_begin cur_11 h) pn_11 (pc_11 _ _) rfl ce_X2_begin lk_X6_28 rfl rfl dX6_read_4 (fun m1 hm => ?_)
  refine g_aloadn_0 dX6_read_7 ?_
  refine g_iconst 0 dX6_read_8 rfl ?_
  refine g_put hm fo_6_2 fp_6_2 pn_10 pc_10 rfl dX6_read_9 (fun m2 hm => ?_)
  refine g_aloadn_0 dX6_read_12 ?_
  refine g_v0V hm (fun _ h => c_X6_readClause HX h) pn_10 (pc_10 _ _) rfl ce_X6_readClause lk_X6_31 rfl rfl dX6_read_13 (fun m3 hm => ?_)
  refine g_iconst 0 dX6_read_16 rfl ?_
  refine g_istoren_1 dX6_read_17 rfl ?_
  refine g_lp (I := fun (s : Sg × Int32) => GX g 75 RX6 cX6_read 2 (some .int) (some (.int r)) mm 18 [some (.ref (g.ad 10)), some (.int (s.2))] [] s.1) (E := fun (s : Sg) => GX g 75 RX6 cX6_read 2 (some .int) (some (.int r)) mm 47 [some (.ref (g.ad 10)), none] [] s) hm ?_ ?_
  · rintro m6 hm
    (try dsimp only at hm)
    (try dsimp only)
    refine g_aloadn_0 dX6_read_47 ?_
    refine g_getr (q := 11) fo_6_0 pn_10 pc_10 rfl rfl dX6_read_48 ?_
    refine g_v0V hm (fun _ h => c_X2_needsEnd cur_11 h) pn_11 (pc_11 _ _) rfl ce_X2_needsEnd lk_X6_38 rfl rfl dX6_read_51 (fun m13 hm => ?_)
    refine g_aloadn_0 dX6_read_54 ?_
    refine g_getr (q := 11) fo_6_0 pn_10 pc_10 rfl rfl dX6_read_55 ?_
    refine g_v0 hm (fun _ _ h => c_X2_wrongAt cur_11 h) pn_11 (pc_11 _ _) rfl ce_X2_wrongAt lk_X6_41 rfl rfl dX6_read_58 (fun x15 m14 hm => ?_)
    exact g_iret hm dX6_read_61
  · rintro ⟨m4, x5⟩ o hm hx8 hi7
    (try dsimp only [f_X6_read_L18] at hm)
    (try dsimp only)
    refine g_iloadn_1 dX6_read_18 ?_
    refine g_sipush 240 dX6_read_19 rfl ?_
    refine g_icmp_ge 47 hm dX6_read_22 (by decide) (fun hm => ?_) (fun hm => ?_)
    · refine g_weak (vs' := [some (.ref (g.ad 10)), none]) ⟨rfl, trivial⟩ ?_
      cases hm
      exact hx8 _ rfl
    · refine g_aloadn_0 dX6_read_25 ?_
      refine g_getr (q := 11) fo_6_0 pn_10 pc_10 rfl rfl dX6_read_26 ?_
      refine g_bipush 59 dX6_read_29 rfl ?_
      refine g_v1 hm (fun _ _ h => c_X2_takes cur_11 h) pn_11 (pc_11 _ _) rfl ce_X2_takes lk_X6_34 rfl rfl dX6_read_31 (fun x10 m9 hm => ?_)
      refine g_if_eq 47 hm dX6_read_34 (by decide) (fun hm => ?_) (fun hm => ?_)
      · refine g_weak (vs' := [some (.ref (g.ad 10)), none]) ⟨rfl, trivial⟩ ?_
        cases hm
        exact hx8 _ rfl
      · refine g_aloadn_0 dX6_read_37 ?_
        refine g_v0V hm (fun _ h => c_X6_readClause HX h) pn_10 (pc_10 _ _) rfl ce_X6_readClause lk_X6_31 rfl rfl dX6_read_38 (fun m11 hm => ?_)
        refine g_iinc_1 1 hm dX6_read_41 rfl rfl (fun x12 hm => ?_)
        refine g_goto 18 dX6_read_44 (by decide) ?_
        cases hm
        exact hi7 _ rfl
def f_X1_useUsual_L2 (t : Nat) : (Sg × Int32) → Option (((Sg)) ⊕ (Sg × Int32)) := fun s => match s with
  | (m1, x2) => 
  (if (Int32.ofNat (tabN t)) ≤ x2 then some (.inl m1) else
  (if 6 ≤ x2 then some (.inl m1) else
  if inr x2 (tabN t) = true then if inr x2 6 = true then bnd (wr m1 9 x2.toNatClampNeg (tab t x2.toNatClampNeg)) (fun m6 => bnd (x2 + 1) (fun x7 => some (.inr (m6, x7)))) else none else none))
def f_X1_useUsual (t : Nat) (m : Sg)  : Option (Sg) :=
  lpk (f_X1_useUsual_L2 t) (m, 0) (fun m3 => some m3)
set_option maxRecDepth 4000 in
theorem c_X1_useUsual {g : Cf} {m mm : Sg} {t : Nat} (HX : XOK g) (Ht : t < 9) (hm : f_X1_useUsual t m  = some mm) : Cl g 0 yX1_useUsual cX1_useUsual 3 none [.ref (g.ad 7), .ref (g.sa (200 + t))] m none mm := by
  refine cl_of (by decide) (Nat.le_of_ble_eq_true rfl) (vs := [some (.ref (g.ad 7)), some (.ref (g.sa (200 + t))), none]) rfl rfl ?_
  show GX g 0 RX1 cX1_useUsual 3 none none mm 0 _ [] m
  unfold f_X1_useUsual at hm
  refine g_iconst 0 dX1_useUsual_0 rfl ?_
  refine g_istoren_2 dX1_useUsual_1 rfl ?_
  refine g_lp (I := fun (s : Sg × Int32) => GX g 0 RX1 cX1_useUsual 3 none none mm 2 [some (.ref (g.ad 7)), some (.ref (g.sa (200 + t))), some (.int (s.2))] [] s.1) (E := fun (s : Sg) => GX g 0 RX1 cX1_useUsual 3 none none mm 32 [none, none, none] [] s) hm ?_ ?_
  · rintro m3 hm
    (try dsimp only at hm)
    (try dsimp only)
    exact g_vret hm dX1_useUsual_32
  · rintro ⟨m1, x2⟩ o hm hx5 hi4
    (try dsimp only [f_X1_useUsual_L2] at hm)
    (try dsimp only)
    refine g_iloadn_2 dX1_useUsual_2 ?_
    refine g_aloadn_1 dX1_useUsual_3 ?_
    refine g_alenT HX Ht dX1_useUsual_4 ?_
    refine g_icmp_ge 32 hm dX1_useUsual_5 (by decide) (fun hm => ?_) (fun hm => ?_)
    · refine g_weak (vs' := [none, none, none]) trivial ?_
      cases hm
      exact hx5 _ rfl
    · refine g_iloadn_2 dX1_useUsual_8 ?_
      refine g_aloadn_0 dX1_useUsual_9 ?_
      refine g_getr (q := 9) fo_1_1 pn_7 pc_7 rfl rfl dX1_useUsual_10 ?_
      refine g_alen (ty := .int) 6 ar_9.1 ar_9.2 rfl rfl dX1_useUsual_13 ?_
      refine g_icmp_ge 32 hm dX1_useUsual_14 (by decide) (fun hm => ?_) (fun hm => ?_)
      · refine g_weak (vs' := [none, none, none]) trivial ?_
        cases hm
        exact hx5 _ rfl
      · refine g_aloadn_0 dX1_useUsual_17 ?_
        refine g_getr (q := 9) fo_1_1 pn_7 pc_7 rfl rfl dX1_useUsual_18 ?_
        refine g_iloadn_2 dX1_useUsual_21 ?_
        refine g_aloadn_1 dX1_useUsual_22 ?_
        refine g_iloadn_2 dX1_useUsual_23 ?_
        refine g_ialoadT hm HX Ht dX1_useUsual_24 (fun hm => ?_)
        refine g_iastore hm ar_9.1 ar_9.2 dX1_useUsual_25 (fun m6 hm => ?_)
        refine g_iinc_2 1 hm dX1_useUsual_26 rfl rfl (fun x7 hm => ?_)
        refine g_goto 2 dX1_useUsual_29 (by decide) ?_
        cases hm
        exact hi4 _ rfl
def f_X1_readItems_L19 (k : Nat) (t1 : Nat) (t2 : Nat) : (Sg × Int32 × Int32) → Option (((Sg) ⊕ (Sg) ⊕ (Sg)) ⊕ (Sg × Int32 × Int32)) := fun s => match s with
  | (m3, x4, x5) => 
  cal (f_J0_length_8abf5 k m3) (fun x12 m11 => (if x12 < x5 then some (.inl (.inr (.inr m11))) else
  cal (f_X2_peek 8 m11) (fun x14 m13 => bnd (fun ((m15, x16) : Sg × Int32) => (if x16 < 0 then some (.inl (.inl m15)) else
  (if 6 ≤ x16 then some (.inl (.inl m15)) else
  (if (Int32.ofNat (tabN t1)) ≤ x16 then some (.inl (.inl m15)) else
  (if x16 < (Int32.ofNat (tabN t2)) then (if ((x4 >>> (x16 &&& 31)) &&& 1) = 0 then bnd (x4 ||| (1 <<< (x16 &&& 31))) (fun x18 => calv (f_X2_step 8 m15) (fun m19 => cal (f_X2_number 8 m19 2) (fun x21 m20 => if inr x16 6 = true then bnd (wr m20 9 x16.toNatClampNeg x21) (fun m22 => if inr x16 6 = true then if inr x16 (tabN t1) = true then bnd (fun (m23 : Sg) => bnd (x5 + 1) (fun x25 => some (.inr (m23, x18, x25)))) (fun (k24 : Sg → Option (((Sg) ⊕ (Sg) ⊕ (Sg)) ⊕ (Sg × Int32 × Int32))) =>
  bnd (fun (m26 : Sg) => calv (f_X2_failAtLastDigit 8 m26) (fun m28 => k24 m28)) (fun (k27 : Sg → Option (((Sg) ⊕ (Sg) ⊕ (Sg)) ⊕ (Sg × Int32 × Int32))) =>
  (if (m22.1 9 x16.toNatClampNeg) < (tab t1 x16.toNatClampNeg) then k27 m22 else
  if inr x16 6 = true then if inr x16 (tabN t2) = true then (if (m22.1 9 x16.toNatClampNeg) ≤ (tab t2 x16.toNatClampNeg) then k24 m22 else
  k27 m22) else none else none))) else none else none) else none))) else
  some (.inl (.inr (.inl m15)))) else
  some (.inl (.inl m15))))))) (fun (k17 : Sg × Int32 → Option (((Sg) ⊕ (Sg) ⊕ (Sg)) ⊕ (Sg × Int32 × Int32))) =>
  (if 0 ≤ x14 then cal (f_J0_indexOf_0f7a4 k m13 (((x14 : Int32).toUInt32 % 65536).toInt32)) (fun x30 m29 => k17 (m29, x30)) else
  k17 (m13, (-1)))))))
def f_X1_readItems (k : Nat) (t1 : Nat) (t2 : Nat) (t3 : Nat) (m : Sg)  : Option (Sg) :=
  calv (f_X2_step 8 m) (fun m1 => calv (f_X1_useUsual t3 m1) (fun m2 => lpk (f_X1_readItems_L19 k t1 t2) (m2, 0, 0) (fun x => match x with
  | .inl m6 => some m6
  | .inr (.inl m7) => calv (f_X2_fail 8 m7) (fun m31 => some m31)
  | .inr (.inr m8) => some m8)))
set_option maxRecDepth 4000 in
theorem c_X1_readItems {g : Cf} {m mm : Sg} {k : Nat} {t1 : Nat} {t2 : Nat} {t3 : Nat} (HX : XOK g) (Hk : k < 5) (Ht1 : t1 < 9) (Ht2 : t2 < 9) (Ht3 : t3 < 9) (hm : f_X1_readItems k t1 t2 t3 m  = some mm) : Cl g 4 yX1_readItems cX1_readItems 9 none [.ref (g.ad 7), .ref (g.sa k), .ref (g.sa (200 + t1)), .ref (g.sa (200 + t2)), .ref (g.sa (200 + t3))] m none mm := by
  refine cl_of (by decide) (Nat.le_of_ble_eq_true rfl) (vs := [some (.ref (g.ad 7)), some (.ref (g.sa k)), some (.ref (g.sa (200 + t1))), some (.ref (g.sa (200 + t2))), some (.ref (g.sa (200 + t3))), none, none, none, none]) rfl rfl ?_
  show GX g 4 RX1 cX1_readItems 9 none none mm 0 _ [] m
  unfold f_X1_readItems at hm
  refine g_aloadn_0 dX1_readItems_0 ?_
  refine g_getr (q := 8) fo_1_0 pn_7 pc_7 rfl rfl dX1_readItems_1 ?_
  refine g_v0V hm (fun _ h => c_X2_step cur_8 h) pn_8 (pc_8 _ _) rfl ce_X2_step lk_X1_116 rfl rfl dX1_readItems_4 (fun m1 hm => ?_)
  refine g_aloadn_0 dX1_readItems_7 ?_
  refine g_aload_4 dX1_readItems_8 ?_
  refine g_v1V hm (fun _ h => c_X1_useUsual HX Ht3 h) pn_7 (pc_7 _ _) rfl ce_X1_useUsual lk_X1_39 rfl rfl dX1_readItems_10 (fun m2 hm => ?_)
  refine g_iconst 0 dX1_readItems_13 rfl ?_
  refine g_istore_5 dX1_readItems_14 rfl ?_
  refine g_iconst 0 dX1_readItems_16 rfl ?_
  refine g_istore_6 dX1_readItems_17 rfl ?_
  refine g_weak (vs' := [some (.ref (g.ad 7)), some (.ref (g.sa k)), some (.ref (g.sa (200 + t1))), some (.ref (g.sa (200 + t2))), none, some (.int 0), some (.int 0), none, none]) ⟨rfl, ⟨rfl, ⟨rfl, ⟨rfl, ⟨rfl, ⟨rfl, trivial⟩⟩⟩⟩⟩⟩ ?_
  refine g_lp (I := fun (s : Sg × Int32 × Int32) => GX g 4 RX1 cX1_readItems 9 none none mm 19 [some (.ref (g.ad 7)), some (.ref (g.sa k)), some (.ref (g.sa (200 + t1))), some (.ref (g.sa (200 + t2))), none, some (.int (s.2.1)), some (.int (s.2.2)), none, none] [] s.1) (E := fun (x : (Sg) ⊕ (Sg) ⊕ (Sg)) => match x with | .inl m6 => GX g 4 RX1 cX1_readItems 9 none none mm 84 [none, none, none, none, none, none, none, none, none] [] m6 | .inr (.inl m7) => GX g 4 RX1 cX1_readItems 9 none none mm 95 [some (.ref (g.ad 7)), none, none, none, none, none, none, none, none] [] m7 | .inr (.inr m8) => GX g 4 RX1 cX1_readItems 9 none none mm 175 [none, none, none, none, none, none, none, none, none] [] m8) hm ?_ ?_
  · rintro (m6 | m7 | m8) hm
    · (try dsimp only at hm)
      (try dsimp only)
      exact g_vret hm dX1_readItems_84
    · (try dsimp only at hm)
      (try dsimp only)
      refine g_aloadn_0 dX1_readItems_95 ?_
      refine g_getr (q := 8) fo_1_0 pn_7 pc_7 rfl rfl dX1_readItems_96 ?_
      refine g_v0V hm (fun _ h => c_X2_fail cur_8 h) pn_8 (pc_8 _ _) rfl ce_X2_fail lk_X1_64 rfl rfl dX1_readItems_99 (fun m31 hm => ?_)
      exact g_vret hm dX1_readItems_102
    · (try dsimp only at hm)
      (try dsimp only)
      exact g_vret hm dX1_readItems_175
  · rintro ⟨m3, x4, x5⟩ o hm hx10 hi9
    (try dsimp only [f_X1_readItems_L19] at hm)
    (try dsimp only)
    refine g_iload_6 dX1_readItems_19 ?_
    refine g_aloadn_1 dX1_readItems_21 ?_
    refine g_w0 hm (fun _ _ h => c_J0_length_8abf5 HX Hk h) HX Hk ce_J0_length_8abf5 lk_X1_119 rfl rfl dX1_readItems_22 (fun x12 m11 hm => ?_)
    refine g_icmp_gt 175 hm dX1_readItems_25 (by decide) (fun hm => ?_) (fun hm => ?_)
    · refine g_weak (vs' := [none, none, none, none, none, none, none, none, none]) trivial ?_
      cases hm
      exact hx10 _ rfl
    · refine g_aloadn_0 dX1_readItems_28 ?_
      refine g_getr (q := 8) fo_1_0 pn_7 pc_7 rfl rfl dX1_readItems_29 ?_
      refine g_v0 hm (fun _ _ h => c_X2_peek cur_8 h) pn_8 (pc_8 _ _) rfl ce_X2_peek lk_X1_70 rfl rfl dX1_readItems_32 (fun x14 m13 hm => ?_)
      refine g_istore_7 dX1_readItems_35 rfl ?_
      refine g_iload_7 dX1_readItems_37 ?_
      refine g_jn (J := fun (s : Sg × Int32) => GX g 4 RX1 cX1_readItems 9 none none mm 53 [some (.ref (g.ad 7)), some (.ref (g.sa k)), some (.ref (g.sa (200 + t1))), some (.ref (g.sa (200 + t2))), none, some (.int x4), some (.int x5), none, none] [.int (s.2)] s.1) hm ?_ ?_
      · rintro ⟨m15, x16⟩ hm
        (try dsimp only at hm)
        (try dsimp only)
        refine g_istore_8 dX1_readItems_53 rfl ?_
        refine g_iload_8 dX1_readItems_55 ?_
        refine g_if_lt 84 hm dX1_readItems_57 (by decide) (fun hm => ?_) (fun hm => ?_)
        · refine g_weak (vs' := [none, none, none, none, none, none, none, none, none]) trivial ?_
          cases hm
          exact hx10 _ rfl
        · refine g_iload_8 dX1_readItems_60 ?_
          refine g_aloadn_0 dX1_readItems_62 ?_
          refine g_getr (q := 9) fo_1_1 pn_7 pc_7 rfl rfl dX1_readItems_63 ?_
          refine g_alen (ty := .int) 6 ar_9.1 ar_9.2 rfl rfl dX1_readItems_66 ?_
          refine g_icmp_ge 84 hm dX1_readItems_67 (by decide) (fun hm => ?_) (fun hm => ?_)
          · refine g_weak (vs' := [none, none, none, none, none, none, none, none, none]) trivial ?_
            cases hm
            exact hx10 _ rfl
          · refine g_iload_8 dX1_readItems_70 ?_
            refine g_aloadn_2 dX1_readItems_72 ?_
            refine g_alenT HX Ht1 dX1_readItems_73 ?_
            refine g_icmp_ge 84 hm dX1_readItems_74 (by decide) (fun hm => ?_) (fun hm => ?_)
            · refine g_weak (vs' := [none, none, none, none, none, none, none, none, none]) trivial ?_
              cases hm
              exact hx10 _ rfl
            · refine g_iload_8 dX1_readItems_77 ?_
              refine g_aloadn_3 dX1_readItems_79 ?_
              refine g_alenT HX Ht2 dX1_readItems_80 ?_
              refine g_icmp_lt 85 hm dX1_readItems_81 (by decide) (fun hm => ?_) (fun hm => ?_)
              · refine g_iload_5 dX1_readItems_85 ?_
                refine g_iload_8 dX1_readItems_87 ?_
                refine g_ishr dX1_readItems_89 ?_
                refine g_iconst 1 dX1_readItems_90 rfl ?_
                refine g_iand dX1_readItems_91 ?_
                refine g_if_eq 103 hm dX1_readItems_92 (by decide) (fun hm => ?_) (fun hm => ?_)
                · refine g_iload_5 dX1_readItems_103 ?_
                  refine g_iconst 1 dX1_readItems_105 rfl ?_
                  refine g_iload_8 dX1_readItems_106 ?_
                  refine g_ishl dX1_readItems_108 ?_
                  refine g_ior dX1_readItems_109 ?_
                  refine g_istoreB_5 hm dX1_readItems_110 rfl (fun x18 hm => ?_)
                  refine g_aloadn_0 dX1_readItems_112 ?_
                  refine g_getr (q := 8) fo_1_0 pn_7 pc_7 rfl rfl dX1_readItems_113 ?_
                  refine g_v0V hm (fun _ h => c_X2_step cur_8 h) pn_8 (pc_8 _ _) rfl ce_X2_step lk_X1_116 rfl rfl dX1_readItems_116 (fun m19 hm => ?_)
                  refine g_aloadn_0 dX1_readItems_119 ?_
                  refine g_getr (q := 9) fo_1_1 pn_7 pc_7 rfl rfl dX1_readItems_120 ?_
                  refine g_iload_8 dX1_readItems_123 ?_
                  refine g_aloadn_0 dX1_readItems_125 ?_
                  refine g_getr (q := 8) fo_1_0 pn_7 pc_7 rfl rfl dX1_readItems_126 ?_
                  refine g_iconst 2 dX1_readItems_129 rfl ?_
                  refine g_v1 hm (fun _ _ h => c_X2_number cur_8 h) pn_8 (pc_8 _ _) rfl ce_X2_number lk_X1_128 rfl rfl dX1_readItems_130 (fun x21 m20 hm => ?_)
                  refine g_iastore hm ar_9.1 ar_9.2 dX1_readItems_133 (fun m22 hm => ?_)
                  refine g_aloadn_0 dX1_readItems_134 ?_
                  refine g_getr (q := 9) fo_1_1 pn_7 pc_7 rfl rfl dX1_readItems_135 ?_
                  refine g_iload_8 dX1_readItems_138 ?_
                  refine g_iaload hm ar_9.1 ar_9.2 dX1_readItems_140 (fun hm => ?_)
                  refine g_aloadn_2 dX1_readItems_141 ?_
                  refine g_iload_8 dX1_readItems_142 ?_
                  refine g_ialoadT hm HX Ht1 dX1_readItems_144 (fun hm => ?_)
                  refine g_jn (J := fun (s : Sg) => GX g 4 RX1 cX1_readItems 9 none none mm 169 [some (.ref (g.ad 7)), some (.ref (g.sa k)), some (.ref (g.sa (200 + t1))), some (.ref (g.sa (200 + t2))), none, some (.int x18), some (.int x5), none, none] [] s) hm ?_ ?_
                  · intro m23 hm
                    refine g_iinc_6 1 hm dX1_readItems_169 rfl rfl (fun x25 hm => ?_)
                    refine g_goto 19 dX1_readItems_172 (by decide) ?_
                    cases hm
                    exact hi9 _ rfl
                  · intro k24 hk24 hm
                    refine g_jn (J := fun (s : Sg) => GX g 4 RX1 cX1_readItems 9 none none mm 162 [some (.ref (g.ad 7)), some (.ref (g.sa k)), some (.ref (g.sa (200 + t1))), some (.ref (g.sa (200 + t2))), none, some (.int x18), some (.int x5), none, none] [] s) hm ?_ ?_
                    · intro m26 hm
                      refine g_aloadn_0 dX1_readItems_162 ?_
                      refine g_getr (q := 8) fo_1_0 pn_7 pc_7 rfl rfl dX1_readItems_163 ?_
                      refine g_v0V hm (fun _ h => c_X2_failAtLastDigit cur_8 h) pn_8 (pc_8 _ _) rfl ce_X2_failAtLastDigit lk_X1_131 rfl rfl dX1_readItems_166 (fun m28 hm => ?_)
                      exact hk24 _ hm
                    · intro k27 hk27 hm
                      refine g_icmp_lt 162 hm dX1_readItems_145 (by decide) (fun hm => ?_) (fun hm => ?_)
                      · refine g_weak (vs' := [some (.ref (g.ad 7)), some (.ref (g.sa k)), some (.ref (g.sa (200 + t1))), some (.ref (g.sa (200 + t2))), none, some (.int x18), some (.int x5), none, none]) ⟨rfl, ⟨rfl, ⟨rfl, ⟨rfl, ⟨rfl, ⟨rfl, trivial⟩⟩⟩⟩⟩⟩ ?_
                        exact hk27 _ hm
                      · refine g_aloadn_0 dX1_readItems_148 ?_
                        refine g_getr (q := 9) fo_1_1 pn_7 pc_7 rfl rfl dX1_readItems_149 ?_
                        refine g_iload_8 dX1_readItems_152 ?_
                        refine g_iaload hm ar_9.1 ar_9.2 dX1_readItems_154 (fun hm => ?_)
                        refine g_aloadn_3 dX1_readItems_155 ?_
                        refine g_iload_8 dX1_readItems_156 ?_
                        refine g_ialoadT hm HX Ht2 dX1_readItems_158 (fun hm => ?_)
                        refine g_icmp_le 169 hm dX1_readItems_159 (by decide) (fun hm => ?_) (fun hm => ?_)
                        · refine g_weak (vs' := [some (.ref (g.ad 7)), some (.ref (g.sa k)), some (.ref (g.sa (200 + t1))), some (.ref (g.sa (200 + t2))), none, some (.int x18), some (.int x5), none, none]) ⟨rfl, ⟨rfl, ⟨rfl, ⟨rfl, ⟨rfl, ⟨rfl, trivial⟩⟩⟩⟩⟩⟩ ?_
                          exact hk24 _ hm
                        · refine g_weak (vs' := [some (.ref (g.ad 7)), some (.ref (g.sa k)), some (.ref (g.sa (200 + t1))), some (.ref (g.sa (200 + t2))), none, some (.int x18), some (.int x5), none, none]) ⟨rfl, ⟨rfl, ⟨rfl, ⟨rfl, ⟨rfl, ⟨rfl, trivial⟩⟩⟩⟩⟩⟩ ?_
                          exact hk27 _ hm
                · refine g_weak (vs' := [some (.ref (g.ad 7)), none, none, none, none, none, none, none, none]) ⟨rfl, trivial⟩ ?_
                  cases hm
                  exact hx10 _ rfl
              · refine g_weak (vs' := [none, none, none, none, none, none, none, none, none]) trivial ?_
                cases hm
                exact hx10 _ rfl
      · intro k17 hk17 hm
        refine g_if_ge 46 hm dX1_readItems_39 (by decide) (fun hm => ?_) (fun hm => ?_)
        · refine g_aloadn_1 dX1_readItems_46 ?_
          refine g_iload_7 dX1_readItems_47 ?_
          refine g_i2c dX1_readItems_49 ?_
          refine g_w1 hm (fun _ _ h => c_J0_indexOf_0f7a4 HX Hk h) HX Hk ce_J0_indexOf_0f7a4 lk_X1_124 rfl rfl dX1_readItems_50 (fun x30 m29 hm => ?_)
          refine g_weak (vs' := [some (.ref (g.ad 7)), some (.ref (g.sa k)), some (.ref (g.sa (200 + t1))), some (.ref (g.sa (200 + t2))), none, some (.int x4), some (.int x5), none, none]) ⟨rfl, ⟨rfl, ⟨rfl, ⟨rfl, ⟨rfl, ⟨rfl, trivial⟩⟩⟩⟩⟩⟩ ?_
          exact hk17 _ hm
        · refine g_iconst (-1) dX1_readItems_42 rfl ?_
          refine g_goto 53 dX1_readItems_43 (by decide) ?_
          refine g_weak (vs' := [some (.ref (g.ad 7)), some (.ref (g.sa k)), some (.ref (g.sa (200 + t1))), some (.ref (g.sa (200 + t2))), none, some (.int x4), some (.int x5), none, none]) ⟨rfl, ⟨rfl, ⟨rfl, ⟨rfl, ⟨rfl, ⟨rfl, trivial⟩⟩⟩⟩⟩⟩ ?_
          exact hk17 _ hm
def f_X1_readClause  (m : Sg)  : Option (Sg) :=
  cal (f_X2_peek 8 m) (fun x2 m1 => bnd (fun (m3 : Sg) => bnd (fun (m5 : Sg) => bnd (fun (m7 : Sg) => calv (f_X2_fail 8 m7) (fun m9 => some m9)) (fun (k8 : Sg → Option (Sg)) =>
  (if x2 = 114 then (if (m5.1 7 2) = 0 then calv (f_X1_readItems 4 6 7 8 m5) (fun m10 => calv (f_X0_setRule 6 m10 (m10.1 9 0) (m10.1 9 1) (m10.1 9 2)) (fun m11 => bnd (wr m11 7 2 1) (fun m12 => some m12))) else
  k8 m5) else
  k8 m5))) (fun (k6 : Sg → Option (Sg)) =>
  (if x2 = 101 then cal (f_X0_elders 6 m3) (fun x14 m13 => (if 4 ≤ x14 then k6 m13 else
  calv (f_X1_readItems 3 3 4 5 m13) (fun m15 => calv (f_X0_addElder 6 m15 (m15.1 9 0) (m15.1 9 1) (m15.1 9 2)) (fun m16 => some m16)))) else
  k6 m3))) (fun (k4 : Sg → Option (Sg)) =>
  (if x2 = 99 then cal (f_X0_children 6 m1) (fun x18 m17 => (if 8 ≤ x18 then k4 m17 else
  calv (f_X1_readItems 2 0 1 2 m17) (fun m19 => calv (f_X0_addChild 6 9 6 m19) (fun m20 => some m20)))) else
  k4 m1)))
set_option maxRecDepth 4000 in
theorem c_X1_readClause {g : Cf} {m mm : Sg} (HX : XOK g) (hm : f_X1_readClause  m  = some mm) : Cl g 5 yX1_readClause cX1_readClause 3 none [.ref (g.ad 7), .ref (g.ad 5)] m none mm := by
  refine cl_of (by decide) (Nat.le_of_ble_eq_true rfl) (vs := [some (.ref (g.ad 7)), some (.ref (g.ad 5)), none]) rfl rfl ?_
  show GX g 5 RX1 cX1_readClause 3 none none mm 0 _ [] m
  unfold f_X1_readClause at hm
  refine g_aloadn_0 dX1_readClause_0 ?_
  refine g_getr (q := 8) fo_1_0 pn_7 pc_7 rfl rfl dX1_readClause_1 ?_
  refine g_v0 hm (fun _ _ h => c_X2_peek cur_8 h) pn_8 (pc_8 _ _) rfl ce_X2_peek lk_X1_70 rfl rfl dX1_readClause_4 (fun x2 m1 hm => ?_)
  refine g_istoren_2 dX1_readClause_7 rfl ?_
  refine g_iloadn_2 dX1_readClause_8 ?_
  refine g_bipush 99 dX1_readClause_9 rfl ?_
  refine g_jn (J := fun (s : Sg) => GX g 5 RX1 cX1_readClause 3 none none mm 49 [some (.ref (g.ad 7)), some (.ref (g.ad 5)), some (.int x2)] [] s) hm ?_ ?_
  · intro m3 hm
    refine g_iloadn_2 dX1_readClause_49 ?_
    refine g_bipush 101 dX1_readClause_50 rfl ?_
    refine g_jn (J := fun (s : Sg) => GX g 5 RX1 cX1_readClause 3 none none mm 103 [some (.ref (g.ad 7)), some (.ref (g.ad 5)), some (.int x2)] [] s) hm ?_ ?_
    · intro m5 hm
      refine g_iloadn_2 dX1_readClause_103 ?_
      refine g_bipush 114 dX1_readClause_104 rfl ?_
      refine g_jn (J := fun (s : Sg) => GX g 5 RX1 cX1_readClause 3 none none mm 161 [some (.ref (g.ad 7)), none, none] [] s) hm ?_ ?_
      · intro m7 hm
        refine g_aloadn_0 dX1_readClause_161 ?_
        refine g_getr (q := 8) fo_1_0 pn_7 pc_7 rfl rfl dX1_readClause_162 ?_
        refine g_v0V hm (fun _ h => c_X2_fail cur_8 h) pn_8 (pc_8 _ _) rfl ce_X2_fail lk_X1_64 rfl rfl dX1_readClause_165 (fun m9 hm => ?_)
        exact g_vret hm dX1_readClause_168
      · intro k8 hk8 hm
        refine g_icmp_ne 161 hm dX1_readClause_106 (by decide) (fun hm => ?_) (fun hm => ?_)
        · refine g_weak (vs' := [some (.ref (g.ad 7)), none, none]) ⟨rfl, trivial⟩ ?_
          exact hk8 _ hm
        · refine g_aloadn_0 dX1_readClause_109 ?_
          refine g_geti fo_1_2 pn_7 pc_7 rfl dX1_readClause_110 ?_
          refine g_if_ne 161 hm dX1_readClause_113 (by decide) (fun hm => ?_) (fun hm => ?_)
          · refine g_weak (vs' := [some (.ref (g.ad 7)), none, none]) ⟨rfl, trivial⟩ ?_
            exact hk8 _ hm
          · refine g_aloadn_0 dX1_readClause_116 ?_
            refine g_ldcS (k := 4) (tx := "gup") HX (by decide) dX1_readClause_117 ?_
            refine g_getsA (t := 6) HX (by decide) fl_X1_110 dX1_readClause_119 ?_
            refine g_getsA (t := 7) HX (by decide) fl_X1_113 dX1_readClause_122 ?_
            refine g_getsA (t := 8) HX (by decide) fl_X1_36 dX1_readClause_125 ?_
            refine g_v4V hm (fun _ h => c_X1_readItems HX (by decide) (by decide) (by decide) (by decide) h) pn_7 (pc_7 _ _) rfl ce_X1_readItems lk_X1_84 rfl rfl dX1_readClause_128 (fun m10 hm => ?_)
            refine g_aloadn_1 dX1_readClause_131 ?_
            refine g_aloadn_0 dX1_readClause_132 ?_
            refine g_getr (q := 9) fo_1_1 pn_7 pc_7 rfl rfl dX1_readClause_133 ?_
            refine g_iconst 0 dX1_readClause_136 rfl ?_
            refine g_ialoadc 0 rfl rfl ar_9.1 ar_9.2 dX1_readClause_137 ?_
            refine g_aloadn_0 dX1_readClause_138 ?_
            refine g_getr (q := 9) fo_1_1 pn_7 pc_7 rfl rfl dX1_readClause_139 ?_
            refine g_iconst 1 dX1_readClause_142 rfl ?_
            refine g_ialoadc 1 rfl rfl ar_9.1 ar_9.2 dX1_readClause_143 ?_
            refine g_aloadn_0 dX1_readClause_144 ?_
            refine g_getr (q := 9) fo_1_1 pn_7 pc_7 rfl rfl dX1_readClause_145 ?_
            refine g_iconst 2 dX1_readClause_148 rfl ?_
            refine g_ialoadc 2 rfl rfl ar_9.1 ar_9.2 dX1_readClause_149 ?_
            refine g_v3V hm (fun _ h => c_X0_setRule cty_5 h) pn_5 (pc_5 _ _) rfl ce_X0_setRule lk_X1_43 rfl rfl dX1_readClause_150 (fun m11 hm => ?_)
            refine g_aloadn_0 dX1_readClause_153 ?_
            refine g_iconst 1 dX1_readClause_154 rfl ?_
            refine g_putz hm fo_1_2 fp_1_2 pn_7 pc_7 rfl rfl dX1_readClause_155 (fun m12 hm => ?_)
            refine g_goto 168 dX1_readClause_158 (by decide) ?_
            exact g_vret hm dX1_readClause_168
    · intro k6 hk6 hm
      refine g_icmp_ne 103 hm dX1_readClause_52 (by decide) (fun hm => ?_) (fun hm => ?_)
      · exact hk6 _ hm
      · refine g_aloadn_1 dX1_readClause_55 ?_
        refine g_v0 hm (fun _ _ h => c_X0_elders cty_5 h) pn_5 (pc_5 _ _) rfl ce_X0_elders lk_X1_91 rfl rfl dX1_readClause_56 (fun x14 m13 hm => ?_)
        refine g_iconst 4 dX1_readClause_59 rfl ?_
        refine g_icmp_ge 103 hm dX1_readClause_60 (by decide) (fun hm => ?_) (fun hm => ?_)
        · exact hk6 _ hm
        · refine g_aloadn_0 dX1_readClause_63 ?_
          refine g_ldcS (k := 3) (tx := "afk") HX (by decide) dX1_readClause_64 ?_
          refine g_getsA (t := 3) HX (by decide) fl_X1_96 dX1_readClause_66 ?_
          refine g_getsA (t := 4) HX (by decide) fl_X1_99 dX1_readClause_69 ?_
          refine g_getsA (t := 5) HX (by decide) fl_X1_102 dX1_readClause_72 ?_
          refine g_v4V hm (fun _ h => c_X1_readItems HX (by decide) (by decide) (by decide) (by decide) h) pn_7 (pc_7 _ _) rfl ce_X1_readItems lk_X1_84 rfl rfl dX1_readClause_75 (fun m15 hm => ?_)
          refine g_aloadn_1 dX1_readClause_78 ?_
          refine g_aloadn_0 dX1_readClause_79 ?_
          refine g_getr (q := 9) fo_1_1 pn_7 pc_7 rfl rfl dX1_readClause_80 ?_
          refine g_iconst 0 dX1_readClause_83 rfl ?_
          refine g_ialoadc 0 rfl rfl ar_9.1 ar_9.2 dX1_readClause_84 ?_
          refine g_aloadn_0 dX1_readClause_85 ?_
          refine g_getr (q := 9) fo_1_1 pn_7 pc_7 rfl rfl dX1_readClause_86 ?_
          refine g_iconst 1 dX1_readClause_89 rfl ?_
          refine g_ialoadc 1 rfl rfl ar_9.1 ar_9.2 dX1_readClause_90 ?_
          refine g_aloadn_0 dX1_readClause_91 ?_
          refine g_getr (q := 9) fo_1_1 pn_7 pc_7 rfl rfl dX1_readClause_92 ?_
          refine g_iconst 2 dX1_readClause_95 rfl ?_
          refine g_ialoadc 2 rfl rfl ar_9.1 ar_9.2 dX1_readClause_96 ?_
          refine g_v3V hm (fun _ h => c_X0_addElder cty_5 h) pn_5 (pc_5 _ _) rfl ce_X0_addElder lk_X1_105 rfl rfl dX1_readClause_97 (fun m16 hm => ?_)
          refine g_goto 168 dX1_readClause_100 (by decide) ?_
          exact g_vret hm dX1_readClause_168
  · intro k4 hk4 hm
    refine g_icmp_ne 49 hm dX1_readClause_11 (by decide) (fun hm => ?_) (fun hm => ?_)
    · exact hk4 _ hm
    · refine g_aloadn_1 dX1_readClause_14 ?_
      refine g_v0 hm (fun _ _ h => c_X0_children cty_5 h) pn_5 (pc_5 _ _) rfl ce_X0_children lk_X1_60 rfl rfl dX1_readClause_15 (fun x18 m17 hm => ?_)
      refine g_bipush 8 dX1_readClause_18 rfl ?_
      refine g_icmp_ge 49 hm dX1_readClause_20 (by decide) (fun hm => ?_) (fun hm => ?_)
      · exact hk4 _ hm
      · refine g_aloadn_0 dX1_readClause_23 ?_
        refine g_ldcS (k := 2) (tx := "akwnsy") HX (by decide) dX1_readClause_24 ?_
        refine g_getsA (t := 0) HX (by decide) fl_X1_75 dX1_readClause_26 ?_
        refine g_getsA (t := 1) HX (by decide) fl_X1_78 dX1_readClause_29 ?_
        refine g_getsA (t := 2) HX (by decide) fl_X1_81 dX1_readClause_32 ?_
        refine g_v4V hm (fun _ h => c_X1_readItems HX (by decide) (by decide) (by decide) (by decide) h) pn_7 (pc_7 _ _) rfl ce_X1_readItems lk_X1_84 rfl rfl dX1_readClause_35 (fun m19 hm => ?_)
        refine g_aloadn_1 dX1_readClause_38 ?_
        refine g_aloadn_0 dX1_readClause_39 ?_
        refine g_getr (q := 9) fo_1_1 pn_7 pc_7 rfl rfl dX1_readClause_40 ?_
        refine g_v1V hm (fun _ h => c_X0_addChild cty_5 ar_9 h) pn_5 (pc_5 _ _) rfl ce_X0_addChild lk_X1_88 rfl rfl dX1_readClause_43 (fun m20 hm => ?_)
        refine g_goto 168 dX1_readClause_46 (by decide) ?_
        exact g_vret hm dX1_readClause_168
def f_X1_read_L52  : (Sg × Int32) → Option (((Sg)) ⊕ (Sg × Int32)) := fun s => match s with
  | (m7, x8) => 
  (if 240 ≤ x8 then some (.inl m7) else
  cal (f_X2_takes 8 m7 59) (fun x13 m12 => (if x13 = 0 then some (.inl m12) else
  calv (f_X1_readClause m12) (fun m14 => bnd (x8 + 1) (fun x15 => some (.inr (m14, x15)))))))
def f_X1_read  (m : Sg)  : Option (Int32 × Sg) :=
  calv (f_X2_begin 8 m) (fun m1 => calv (f_X0_clear 6 m1) (fun m2 => bnd (wr m2 7 2 0) (fun m3 => calv (f_X1_useUsual 8 m3) (fun m4 => calv (f_X0_setRule 6 m4 (m4.1 9 0) (m4.1 9 1) (m4.1 9 2)) (fun m5 => calv (f_X1_readClause m5) (fun m6 => lpk (f_X1_read_L52) (m6, 0) (fun m9 => calv (f_X2_needsEnd 8 m9) (fun m16 => cal (f_X0_children 6 m16) (fun x18 m17 => bnd (fun (m19 : Sg) => cal (f_X2_wrongAt 8 m19) (fun x22 m21 => some (x22, m21))) (fun (k20 : Sg → Option (Int32 × Sg)) =>
  (if x18 = 0 then calv (f_X2_fail 8 m17) (fun m23 => k20 m23) else
  k20 m17)))))))))))
set_option maxRecDepth 4000 in
theorem c_X1_read {g : Cf} {m mm : Sg} {r : Int32} (HX : XOK g) (hm : f_X1_read  m  = some (r, mm)) : Cl g 6 yX1_read cX1_read 3 (some .int) [.ref (g.ad 7), .ref (g.ad 5)] m (some (.int r)) mm := by
  refine cl_of (by decide) (Nat.le_of_ble_eq_true rfl) (vs := [some (.ref (g.ad 7)), some (.ref (g.ad 5)), none]) rfl rfl ?_
  show GX g 6 RX1 cX1_read 3 (some .int) (some (.int r)) mm 0 _ [] m
  unfold f_X1_read at hm
  refine g_aloadn_0 dX1_read_0 ?_
  refine g_getr (q := 8) fo_1_0 pn_7 pc_7 rfl rfl dX1_read_1 ?_
  refine g_v0V hm (fun _ h => c_X2_begin cur_8 h) pn_8 (pc_8 _ _) rfl ce_X2_begin lk_X1_24 rfl rfl dX1_read_4 (fun m1 hm => ?_)
  refine g_aloadn_1 dX1_read_7 ?_
  refine g_v0V hm (fun _ h => c_X0_clear cty_5 h) pn_5 (pc_5 _ _) rfl ce_X0_clear lk_X1_27 rfl rfl dX1_read_8 (fun m2 hm => ?_)
  refine g_aloadn_0 dX1_read_11 ?_
  refine g_iconst 0 dX1_read_12 rfl ?_
  refine g_putz hm fo_1_2 fp_1_2 pn_7 pc_7 rfl rfl dX1_read_13 (fun m3 hm => ?_)
  refine g_aloadn_0 dX1_read_16 ?_
  refine g_getsA (t := 8) HX (by decide) fl_X1_36 dX1_read_17 ?_
  refine g_v1V hm (fun _ h => c_X1_useUsual HX (by decide) h) pn_7 (pc_7 _ _) rfl ce_X1_useUsual lk_X1_39 rfl rfl dX1_read_20 (fun m4 hm => ?_)
  refine g_aloadn_1 dX1_read_23 ?_
  refine g_aloadn_0 dX1_read_24 ?_
  refine g_getr (q := 9) fo_1_1 pn_7 pc_7 rfl rfl dX1_read_25 ?_
  refine g_iconst 0 dX1_read_28 rfl ?_
  refine g_ialoadc 0 rfl rfl ar_9.1 ar_9.2 dX1_read_29 ?_
  refine g_aloadn_0 dX1_read_30 ?_
  refine g_getr (q := 9) fo_1_1 pn_7 pc_7 rfl rfl dX1_read_31 ?_
  refine g_iconst 1 dX1_read_34 rfl ?_
  refine g_ialoadc 1 rfl rfl ar_9.1 ar_9.2 dX1_read_35 ?_
  refine g_aloadn_0 dX1_read_36 ?_
  refine g_getr (q := 9) fo_1_1 pn_7 pc_7 rfl rfl dX1_read_37 ?_
  refine g_iconst 2 dX1_read_40 rfl ?_
  refine g_ialoadc 2 rfl rfl ar_9.1 ar_9.2 dX1_read_41 ?_
  refine g_v3V hm (fun _ h => c_X0_setRule cty_5 h) pn_5 (pc_5 _ _) rfl ce_X0_setRule lk_X1_43 rfl rfl dX1_read_42 (fun m5 hm => ?_)
  refine g_aloadn_0 dX1_read_45 ?_
  refine g_aloadn_1 dX1_read_46 ?_
  refine g_v1V hm (fun _ h => c_X1_readClause HX h) pn_7 (pc_7 _ _) rfl ce_X1_readClause lk_X1_47 rfl rfl dX1_read_47 (fun m6 hm => ?_)
  refine g_iconst 0 dX1_read_50 rfl ?_
  refine g_istoren_2 dX1_read_51 rfl ?_
  refine g_lp (I := fun (s : Sg × Int32) => GX g 6 RX1 cX1_read 3 (some .int) (some (.int r)) mm 52 [some (.ref (g.ad 7)), some (.ref (g.ad 5)), some (.int (s.2))] [] s.1) (E := fun (s : Sg) => GX g 6 RX1 cX1_read 3 (some .int) (some (.int r)) mm 82 [some (.ref (g.ad 7)), some (.ref (g.ad 5)), none] [] s) hm ?_ ?_
  · rintro m9 hm
    (try dsimp only at hm)
    (try dsimp only)
    refine g_aloadn_0 dX1_read_82 ?_
    refine g_getr (q := 8) fo_1_0 pn_7 pc_7 rfl rfl dX1_read_83 ?_
    refine g_v0V hm (fun _ h => c_X2_needsEnd cur_8 h) pn_8 (pc_8 _ _) rfl ce_X2_needsEnd lk_X1_57 rfl rfl dX1_read_86 (fun m16 hm => ?_)
    refine g_aloadn_1 dX1_read_89 ?_
    refine g_v0 hm (fun _ _ h => c_X0_children cty_5 h) pn_5 (pc_5 _ _) rfl ce_X0_children lk_X1_60 rfl rfl dX1_read_90 (fun x18 m17 hm => ?_)
    refine g_jn (J := fun (s : Sg) => GX g 6 RX1 cX1_read 3 (some .int) (some (.int r)) mm 103 [some (.ref (g.ad 7)), none, none] [] s) hm ?_ ?_
    · intro m19 hm
      refine g_aloadn_0 dX1_read_103 ?_
      refine g_getr (q := 8) fo_1_0 pn_7 pc_7 rfl rfl dX1_read_104 ?_
      refine g_v0 hm (fun _ _ h => c_X2_wrongAt cur_8 h) pn_8 (pc_8 _ _) rfl ce_X2_wrongAt lk_X1_67 rfl rfl dX1_read_107 (fun x22 m21 hm => ?_)
      exact g_iret hm dX1_read_110
    · intro k20 hk20 hm
      refine g_if_ne 103 hm dX1_read_93 (by decide) (fun hm => ?_) (fun hm => ?_)
      · refine g_weak (vs' := [some (.ref (g.ad 7)), none, none]) ⟨rfl, trivial⟩ ?_
        exact hk20 _ hm
      · refine g_aloadn_0 dX1_read_96 ?_
        refine g_getr (q := 8) fo_1_0 pn_7 pc_7 rfl rfl dX1_read_97 ?_
        refine g_v0V hm (fun _ h => c_X2_fail cur_8 h) pn_8 (pc_8 _ _) rfl ce_X2_fail lk_X1_64 rfl rfl dX1_read_100 (fun m23 hm => ?_)
        refine g_weak (vs' := [some (.ref (g.ad 7)), none, none]) ⟨rfl, trivial⟩ ?_
        exact hk20 _ hm
  · rintro ⟨m7, x8⟩ o hm hx11 hi10
    (try dsimp only [f_X1_read_L52] at hm)
    (try dsimp only)
    refine g_iloadn_2 dX1_read_52 ?_
    refine g_sipush 240 dX1_read_53 rfl ?_
    refine g_icmp_ge 82 hm dX1_read_56 (by decide) (fun hm => ?_) (fun hm => ?_)
    · refine g_weak (vs' := [some (.ref (g.ad 7)), some (.ref (g.ad 5)), none]) ⟨rfl, ⟨rfl, trivial⟩⟩ ?_
      cases hm
      exact hx11 _ rfl
    · refine g_aloadn_0 dX1_read_59 ?_
      refine g_getr (q := 8) fo_1_0 pn_7 pc_7 rfl rfl dX1_read_60 ?_
      refine g_bipush 59 dX1_read_63 rfl ?_
      refine g_v1 hm (fun _ _ h => c_X2_takes cur_8 h) pn_8 (pc_8 _ _) rfl ce_X2_takes lk_X1_53 rfl rfl dX1_read_65 (fun x13 m12 hm => ?_)
      refine g_if_eq 82 hm dX1_read_68 (by decide) (fun hm => ?_) (fun hm => ?_)
      · refine g_weak (vs' := [some (.ref (g.ad 7)), some (.ref (g.ad 5)), none]) ⟨rfl, ⟨rfl, trivial⟩⟩ ?_
        cases hm
        exact hx11 _ rfl
      · refine g_aloadn_0 dX1_read_71 ?_
        refine g_aloadn_1 dX1_read_72 ?_
        refine g_v1V hm (fun _ h => c_X1_readClause HX h) pn_7 (pc_7 _ _) rfl ce_X1_readClause lk_X1_47 rfl rfl dX1_read_73 (fun m14 hm => ?_)
        refine g_iinc_2 1 hm dX1_read_76 rfl rfl (fun x15 hm => ?_)
        refine g_goto 52 dX1_read_79 (by decide) ?_
        cases hm
        exact hi10 _ rfl
